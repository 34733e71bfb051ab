section House4
variable {E : EnvX} {L : Nat} {h : Hp} {nB nT : Nat} {tv : Nat → Nat → Nat} {g : Nat → Nat → Bool} {pr : Nat → Nat}
theorem bx_s (x : Nat) : nI x - 1 = bx x := by
  cases x with
  | zero => rfl
  | succ x => rw [bx_S]; exact nI_pred x
theorem CpX_mono {n Bs b : Nat} {pv pv' : Nat → Nat} (hcp : CpX g pr nB n Bs pv b) (le : ∀ c, c < 2 ^ n → pv' c ≤ pv c) : CpX g pr nB n Bs pv' b := by
  have p := Nat.two_pow_pos n
  rcases hcp with w | ⟨c, hc, h1, h2⟩
  · exact Or.inl (Nat.le_trans (le _ (by omega)) w)
  · exact Or.inr ⟨c, hc, Nat.le_trans (le c hc) h1, h2⟩
theorem cn_one {b p : Nat} (g0 : ∀ b, g b 0 = true) (hb : b < nB) (hp : g b p = true) : cnF g (2 ^ b) nB p = true := by
  have t : (2 ^ b).testBit b = true := by rw [Nat.testBit_two_pow, decide_eq_true rfl]
  refine (cn_any t nB hb p).mpr ⟨p, Nat.and_self _, hp, ?_⟩
  rw [Nat.xor_self]; exact cn_0 g0 nB
theorem Pr_one {b : Nat} (hb : b < nB) : Pr pr nB (2 ^ b) = pr b := by
  unfold Pr
  have : ∀ n, b < n → sE (fun j => if (2 ^ b).testBit j = true then pr j else 0) n = pr b := by
    intro n
    induction n with
    | zero => intro q; omega
    | succ n ih =>
      intro q
      rw [sE_s, Nat.testBit_two_pow]
      by_cases e : b = n
      · rw [decide_eq_true e, if_pos rfl, sE_zero (fun j hj => if_neg (by rw [Nat.testBit_two_pow, decide_eq_false (by omega)]; decide)), Nat.zero_add, e]
      · rw [decide_eq_false e, ih (by omega)]; rfl
  exact this nB hb
def ofPo (g : Nat → Nat → Bool) (pr : Nat → Nat) (nB n b : Nat) (pv : Nat → Nat) (h h' : Hp) : Prop := EqO (fun x => x = 47) h h' ∧ ∃ pv', PvV h' n pv' ∧ SdX g pr nB n pv' (b + 1) ∧ ∀ Bs, bsB g pr nB n Bs → CpX g pr nB n Bs pv b → CpX g pr nB n Bs pv' (b + 1)
theorem h_offer (hE : EOk E) (hL : 6 ≤ L) (hg : gMono g) (g0 : ∀ b, g b 0 = true) (hpr : ∀ b, 0 < pr b) (hprl : ∀ B, Pr pr nB B < 16777216) {n b : Nat} {pv : Nat → Nat} (T : TkV h g n nB) (V : PvV h n pv) (hb : b < nB) (hs : SdX g pr nB n pv b) : ConV E L m_Household_offer 45 [.int (nI b), .int (nI (pr b)), .int (nI (2 ^ n - 1))] h (ofPo g pr nB n b pv h) := by
  have pw := pow11 T.1
  have prb : pr b < 16777216 := by have := hprl (2 ^ b); rw [Pr_one hb] at this; exact this
  refine B_Household_offer hE (by omega) ?_
  rw [bx_s]
  have main : ∀ e, e ≤ 2 ^ n - 1 → ∀ h1 pv1, EqO (fun x => x = 47) h h1 → PvV h1 n pv1 → SdX g pr nB n pv1 (b + 1) → (∀ c, c < e → pv1 c = pv c) → (∀ c, c < 2 ^ n → pv1 c ≤ pv c) → (∀ Bs, bsB g pr nB n Bs → Bs.testBit b = true → ∀ c0, e ≤ c0 → c0 < 2 ^ n - 1 → pv c0 ≤ Pr pr nB (Bs % 2 ^ b) → cnF g (upB Bs b) nB ((2 ^ n - 1) ^^^ c0) = true → CpX g pr nB n Bs pv1 (b + 1)) → at_Household_offer_5 E L h1 (ofPo g pr nB n b pv h) (nI b) (nI (pr b)) (nI (2 ^ n - 1)) (bx e) := by
    intro e
    induction e with
    | zero =>
      intro _ h1 pv1 e1 V1 s1 _ m1 c1
      refine B_Household_offer_5 (brT bxneg0 ⟨e1, pv1, V1, s1, fun Bs hB hcp => ?_⟩)
      cases t : Bs.testBit b
      · exact CpX_skip hcp t m1
      · rcases hcp with w | ⟨c, hc, w1, w2⟩
        · exact Or.inl (Nat.le_trans (m1 _ (by omega)) w)
        · by_cases ca : c = 2 ^ n - 1
          · refine Or.inl (Nat.le_trans (m1 _ (by omega)) (Nat.le_trans (by rw [ca] at w1; exact w1) (Pr_mono (sub_of (fun i hi => ?_)))))
            rw [low_bit, Bool.and_eq_true] at hi; exact hi.2
          · exact c1 Bs hB t c (Nat.zero_le _) (by omega) w1 w2
    | succ e ih =>
      intro he h1 pv1 e1 V1 s1 eq1 m1 c1
      have T1 : TkV h1 g n nB := ⟨T.1, T.2.1, fun c hc => by rw [(e1 46 (by omega)).2.1]; exact T.2.2 c hc⟩
      obtain ⟨v1, v2⟩ := V1 e (by omega)
      obtain ⟨a1, a2⟩ := V1 (2 ^ n - 1) (by omega)
      have ee : pv1 e = pv e := eq1 e (by omega)
      rw [bx_S]
      refine B_Household_offer_5 (brF (nIneg (by omega)) ⟨in47 (by omega), ?_⟩)
      rw [nIc (show e < 2147483648 by omega), nIc (show 2 ^ n - 1 < 2147483648 by omega), v1, a1, show (1073741824 : Int32) = nI 1073741824 from rfl, nIl (by omega) (by omega), bx_p]
      refine ⟨fun q => ?_, fun q => ⟨in47 (by omega), in47 (by omega), ?_⟩⟩
      · refine ih (by omega) h1 pv1 e1 V1 s1 (fun c hc => eq1 c (by omega)) m1 (fun Bs hB t c0 l1 l2 w1 w2 => ?_)
        by_cases d : c0 = e
        · rw [d] at w1
          have := hprl (Bs % 2 ^ b)
          omega
        · exact c1 Bs hB t c0 (by omega) l2 w1 w2
      · rw [nI_add, nIl (by omega) (by omega)]
        refine ⟨fun q2 => ?_, fun q2 => ⟨in47 (by omega), ?_⟩⟩
        · refine ih (by omega) h1 pv1 e1 V1 s1 (fun c hc => eq1 c (by omega)) m1 (fun Bs hB t c0 l1 l2 w1 w2 => ?_)
          by_cases d : c0 = e
          · rw [d] at w1
            refine Or.inl ?_
            have p1 := Pr_low_s (pr := pr) (B := Bs) hb
            rw [if_pos t] at p1
            have p2 : Pr pr nB (Bs % 2 ^ (b + 1)) ≤ Pr pr nB Bs := Pr_mono (sub_of (fun i hi => by rw [low_bit, Bool.and_eq_true] at hi; exact hi.2))
            omega
          · exact c1 Bs hB t c0 (by omega) l2 w1 w2
        · rw [xorN (by omega) (by omega)]
          have xl : (2 ^ n - 1) ^^^ e < 2 ^ n := Nat.xor_lt_two_pow (by omega) (by omega)
          have x0 : (2 ^ n - 1) ^^^ e ≠ 0 := fun z => by
            have : e = 2 ^ n - 1 := Nat.eq_of_testBit_eq (fun i => by
              have := congrArg (fun x => x.testBit i) z
              rw [Nat.testBit_xor, Nat.zero_testBit] at this
              cases h3 : e.testBit i <;> cases h4 : (2 ^ n - 1).testBit i <;> rw [h3, h4] at this <;> first | rfl | cases this)
            omega
          have eall : e ||| ((2 ^ n - 1) ^^^ e) = 2 ^ n - 1 := Nat.eq_of_testBit_eq (fun i => by
            rw [Nat.testBit_or, Nat.testBit_xor, bitAll]
            by_cases w : i < n
            · rw [decide_eq_true w]; cases e.testBit i <;> rfl
            · rw [decide_eq_false w, bit_hi (show e < 2 ^ n by omega) (by omega)]; rfl)
          have disj : ∀ p, p &&& ((2 ^ n - 1) ^^^ e) = p → ∀ i, ¬ (e.testBit i = true ∧ p.testBit i = true) := fun p hp i w => by
            have := sub_bit hp w.2
            rw [Nat.testBit_xor, w.1, bitAll] at this
            by_cases z : i < n
            · rw [decide_eq_true z] at this; cases this
            · have w1 := w.1
              rw [bit_hi (show e < 2 ^ n by omega) (by omega)] at w1; cases w1
          refine (h_extend hE (by omega) T1 V1 hb (show e < 2 ^ n by omega) xl x0 (by rw [eall]; omega) (by omega)).mono (fun h2 z2 => ?_)
          obtain ⟨e2, pv2, V2, x1, x2, x3⟩ := z2
          have m2 : ∀ c, c < 2 ^ n → pv2 c ≤ pv1 c := fun c hc => by
            rcases x1 c hc with w | ⟨-, w, -⟩ <;> omega
          refine ih (by omega) h2 pv2 (e1.trans e2) V2 (fun c hc hN => ?_) (fun c hc => ?_) (fun c hc => Nat.le_trans (m2 c hc) (m1 c hc)) (fun Bs hB t c0 l1 l2 w1 w2 => ?_)
          · rcases x1 c hc with w | ⟨w, -, p, p1, p2, p3, p4⟩
            · rw [w] at hN ⊢; exact s1 c hc hN
            · obtain ⟨B0, b1, b2, b3⟩ := hs e (by omega) (by omega)
              have dj : ∀ i, ¬ (B0.testBit i = true ∧ (2 ^ b).testBit i = true) := fun i z => by
                obtain ⟨z1, z2⟩ := z
                rw [Nat.testBit_two_pow, decide_eq_true_eq] at z2
                rw [bit_hi b1 (by omega)] at z1; cases z1
              have pb : (2 : Nat) ^ (b + 1) = 2 ^ b * 2 := Nat.pow_succ 2 b
              have pb0 := Nat.two_pow_pos b
              refine ⟨B0 ||| 2 ^ b, Nat.or_lt_two_pow (by omega) (by omega), ?_, ?_⟩
              · rw [p4]; exact cn_join dj nB (disj p p1) b2 (cn_one g0 hb p3)
              · rw [Pr_split dj, Pr_one hb, b3, w]; omega
          · rcases x1 c (by omega) with w | ⟨-, -, p, p1, p2, p3, p4⟩
            · rw [w]; exact eq1 c (by omega)
            · have ge : e ≤ e ||| p := Nat.left_le_or
              omega
          · by_cases d : c0 = e
            · rw [d] at w1 w2
              have p1 := Pr_low_s (pr := pr) (B := Bs) hb
              rw [if_pos t] at p1
              cases gr : g b ((2 ^ n - 1) ^^^ e)
              · obtain ⟨p, y1, y2, y3, y4, y5, y6⟩ := CpX_step hg hpr hB hb t hs (show e < 2 ^ n by omega) (by omega) w1 w2 gr
                have := x3 gr p y1 y2 y3 y4 y5
                refine Or.inr ⟨e ||| p, Nat.or_lt_two_pow (by omega) (Nat.lt_of_le_of_lt (sbs_le y1) xl), by omega, y6⟩
              · have := x2 gr
                rw [eall] at this
                have p2 : Pr pr nB (Bs % 2 ^ (b + 1)) ≤ Pr pr nB Bs := Pr_mono (sub_of (fun i hi => by rw [low_bit, Bool.and_eq_true] at hi; exact hi.2))
                exact Or.inl (by omega)
            · exact CpX_mono (c1 Bs hB t c0 (by omega) l2 w1 w2) m2
  exact main (2 ^ n - 1) (Nat.le_refl _) h pv EqO.rfl' V (fun c hc hN => by
    obtain ⟨B, b1, b2, b3⟩ := hs c hc hN
    exact ⟨B, Nat.lt_of_lt_of_le b1 (Nat.pow_le_pow_right (by decide) (by omega)), b2, b3⟩) (fun _ _ => rfl) (fun _ _ => Nat.le_refl _) (fun Bs _ _ c0 l1 l2 _ _ => by omega)
end House4
