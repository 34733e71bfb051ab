section House3
variable {E : EnvX} {L : Nat} {h : Hp} {nB nT : Nat} {tv : Nat → Nat → Nat} {g : Nat → Nat → Bool}
theorem upN_y {f : Nat → Nat} {i v : Nat} : upN f i v i = v := if_pos rfl
theorem upN_n {f : Nat → Nat} {i v c : Nat} (h : c ≠ i) : upN f i v c = f c := if_neg h
theorem lowb {l : Nat} (h0 : l ≠ 0) (hl : l < 1024) : ∃ i, i < 10 ∧ l.testBit i = true ∧ nI l &&& (-(nI l)) = nI (2 ^ i) ∧ l &&& (l - 1) = l ^^^ 2 ^ i := by
  have := (show ∀ a, a < 32 → ∀ b, b < 32 → a + 32 * b ≠ 0 → ∃ i, i < 10 ∧ (a + 32 * b).testBit i = true ∧ nI (a + 32 * b) &&& (-(nI (a + 32 * b))) = nI (2 ^ i) ∧ (a + 32 * b) &&& (a + 32 * b - 1) = (a + 32 * b) ^^^ 2 ^ i by decide +kernel) (l % 32) (by omega) (l / 32) (by omega)
  rw [show l % 32 + 32 * (l / 32) = l by omega] at this
  exact this h0
theorem h_noMore (hE : EOk E) (hL : 2 ≤ L) {n b p r : Nat} (T : TkV h g n nB) (hb : b < nB) (hr : r < 2 ^ n) (hp : p &&& r = p) : ∃ x : Int32, RdI E L m_Household_takesNoMore 45 [.int (nI b), .int (nI p), .int (nI r)] h x ∧ ((x = 1 ∧ noMore g b p r) ∨ (x = 0 ∧ ¬ noMore g b p r)) := by
  have pw := pow11 T.1
  have pl := sbs_le hp
  have xs := psub.mpr hp
  have xl : r ^^^ p < 2 ^ n := Nat.xor_lt_two_pow hr (by omega)
  have main : ∀ N l, l < N → l &&& (r ^^^ p) = l → (∀ i, (r ^^^ p).testBit i = true → l.testBit i = false → g b (p ||| 2 ^ i) = false) → ∀ x : Int32, ((x = 1 ∧ noMore g b p r) ∨ (x = 0 ∧ ¬ noMore g b p r)) → at_Household_takesNoMore_5 E L h (fun y h' => y = x ∧ h' = h) (nI b) (nI p) (nI l) := by
    intro N
    induction N with
    | zero => intro l hl; omega
    | succ N ih =>
      intro l hl ls a x hx
      have ll := sbs_le ls
      refine B_Household_takesNoMore_5 ?_
      rw [nI_z (by omega)]
      refine ⟨fun l0 => ⟨?_, rfl⟩, fun l0 => ?_⟩
      · rcases hx with ⟨e, _⟩ | ⟨_, w⟩
        · exact e.symm
        · exact absurd (fun i hi => a i hi (by rw [l0, Nat.zero_testBit])) w
      · obtain ⟨i, i10, lb, e1, e2⟩ := lowb l0 (by omega)
        have i1 := sub_bit ls lb
        have ri := sub_bit xs i1
        have iln : i < n := Classical.byContradiction fun z => by rw [bit_hi hr (by omega)] at ri; cases ri
        have p2 : 2 ^ i < 2 ^ n := Nat.pow_lt_pow_right (by decide) iln
        have ol : p ||| 2 ^ i < 2 ^ n := Nat.or_lt_two_pow (by omega) p2
        rw [e1, orN (by omega) (by omega), pred1 (by omega), andA, e2]
        refine (h_takes hE (by omega) T hb ol).use ?_
        by_cases q : g b (p ||| 2 ^ i) = true
        · rw [if_pos q]
          refine brF (by decide) ⟨?_, rfl⟩
          rcases hx with ⟨_, w⟩ | ⟨e, _⟩
          · have := w i i1; rw [q] at this; cases this
          · exact e.symm
        · rw [if_neg q]
          refine brT rfl (ih (l ^^^ 2 ^ i) ?_ (sub_of (fun j hj => ?_)) (fun j hj nj => ?_) x hx)
          · have := del_lt lb; unfold del at this; omega
          · have := del_bit (i := j) lb
            unfold del at this
            rw [this, Bool.and_eq_true] at hj
            exact sub_bit ls hj.1
          · have e := del_bit (i := j) lb
            unfold del at e
            rw [e] at nj
            by_cases d : i = j
            · rw [← d]; simpa using q
            · rw [decide_eq_false d] at nj
              exact a j hj (by simpa using nj)
  by_cases z : noMore g b p r
  · refine ⟨1, B_Household_takesNoMore hE (by omega) ?_, Or.inl ⟨rfl, z⟩⟩
    rw [xorN (by omega) (by omega)]
    exact main ((r ^^^ p) + 1) (r ^^^ p) (by omega) (Nat.and_self _) (fun i h1 h2 => by rw [h1] at h2; cases h2) 1 (Or.inl ⟨rfl, z⟩)
  · refine ⟨0, B_Household_takesNoMore hE (by omega) ?_, Or.inr ⟨rfl, z⟩⟩
    rw [xorN (by omega) (by omega)]
    exact main ((r ^^^ p) + 1) (r ^^^ p) (by omega) (Nat.and_self _) (fun i h1 h2 => by rw [h1] at h2; cases h2) 0 (Or.inr ⟨rfl, z⟩)
def PvV (h : Hp) (n : Nat) (pv : Nat → Nat) : Prop := ∀ c, c < 2 ^ n → h.2.1 47 c = nI (pv c) ∧ pv c ≤ 1073741824
/-- one held choice taken further by a box: what is changed, and what is reached -/
def exPo (g : Nat → Nat → Bool) (n b held rest price : Nat) (pv pv' : Nat → Nat) : Prop := (∀ c, c < 2 ^ n → pv' c = pv c ∨ (pv' c = price ∧ pv' c ≤ pv c ∧ ∃ p, p &&& rest = p ∧ p ≠ 0 ∧ g b p = true ∧ c = held ||| p)) ∧ (g b rest = true → pv' (held ||| rest) = price) ∧ (g b rest = false → ∀ p, p &&& rest = p → p ≠ 0 → p ≠ rest → g b p = true → noMore g b p rest → pv' (held ||| p) ≤ price)
theorem h_extend (hE : EOk E) (hL : 4 ≤ L) {n b held rest price : Nat} {pv : Nat → Nat} (T : TkV h g n nB) (V : PvV h n pv) (hb : b < nB) (hh : held < 2 ^ n) (hr : rest < 2 ^ n) (r0 : rest ≠ 0) (hp : price < pv (held ||| rest)) (hp2 : price < 1073741824) : ConV E L m_Household_extend 45 [.int (nI held), .int (nI b), .int (nI price), .int (nI rest)] h (fun h' => EqO (fun x => x = 47) h h' ∧ ∃ pv', PvV h' n pv' ∧ exPo g n b held rest price pv pv') := by
  have pw := pow11 T.1
  have hor : ∀ p, p &&& rest = p → held ||| p < 2 ^ n := fun p h1 => Nat.or_lt_two_pow hh (Nat.lt_of_le_of_lt (sbs_le h1) hr)
  refine B_Household_extend hE (by omega) ((h_takes hE (by omega) T hb hr).use ?_)
  have ol := hor rest (Nat.and_self _)
  by_cases q : g b rest = true
  · rw [if_pos q]
    rw [orN (by omega) (by omega), nIc (by omega)]
    refine brF (by decide) ⟨in47 (by omega), EqO.sA (F := fun x => x = 47) rfl, upN pv (held ||| rest) price, fun c hc => ?_, fun c hc => ?_, fun _ => upN_y, fun z => absurd q (by rw [z]; decide)⟩
    · rw [sA_A, if_pos rfl]
      by_cases d : c = held ||| rest
      · rw [if_pos d, d, upN_y]; exact ⟨rfl, by omega⟩
      · rw [if_neg d, upN_n d]; exact V c hc
    · by_cases d : c = held ||| rest
      · rw [d, upN_y]
        exact Or.inr ⟨rfl, by omega, rest, Nat.and_self _, r0, q, rfl⟩
      · rw [upN_n d]; exact Or.inl rfl
  · have qf : g b rest = false := by simpa using q
    rw [if_neg q]
    refine brT rfl ?_
    rw [pred1 (by omega), andN (by omega) (by omega)]
    have main : ∀ N a, a < N → a &&& rest = a → a ≠ rest → ∀ h1 pv1, EqO (fun x => x = 47) h h1 → PvV h1 n pv1 → (∀ c, c < 2 ^ n → pv1 c = pv c ∨ (pv1 c = price ∧ pv1 c ≤ pv c ∧ ∃ p, p &&& rest = p ∧ p ≠ 0 ∧ g b p = true ∧ c = held ||| p)) → (∀ p, a < p → p &&& rest = p → p ≠ 0 → p ≠ rest → g b p = true → noMore g b p rest → pv1 (held ||| p) ≤ price) → at_Household_extend_30 E L h1 (fun h' => EqO (fun x => x = 47) h h' ∧ ∃ pv', PvV h' n pv' ∧ exPo g n b held rest price pv pv') (nI held) (nI b) (nI price) (nI rest) (nI a) := by
      intro N
      induction N with
      | zero => intro a ha; omega
      | succ N ih =>
        intro a ha as' ar h1 pv1 e1 V1 s1 c1
        have al := sbs_le as'
        have T1 : TkV h1 g n nB := ⟨T.1, T.2.1, fun c hc => by rw [(e1 46 (by omega)).2.1]; exact T.2.2 c hc⟩
        have an : a < 2 ^ n := by omega
        refine B_Household_extend_30 ?_
        rw [nI_le0 (by omega)]
        refine ⟨fun a0 => ⟨e1, pv1, V1, s1, fun z => absurd z q, fun _ p p1 p2 p3 p4 p5 => c1 p (by omega) p1 p2 p3 p4 p5⟩, fun a0 => ?_⟩
        have nx : ∀ h2 pv2, EqO (fun x => x = 47) h h2 → PvV h2 n pv2 → (∀ c, c < 2 ^ n → pv2 c = pv c ∨ (pv2 c = price ∧ pv2 c ≤ pv c ∧ ∃ p, p &&& rest = p ∧ p ≠ 0 ∧ g b p = true ∧ c = held ||| p)) → (∀ c, c < 2 ^ n → pv2 c ≤ pv1 c) → (g b a = true → noMore g b a rest → pv2 (held ||| a) ≤ price) → at_Household_extend_30 E L h2 (fun h' => EqO (fun x => x = 47) h h' ∧ ∃ pv', PvV h' n pv' ∧ exPo g n b held rest price pv pv') (nI held) (nI b) (nI price) (nI rest) ((nI a - 1) &&& nI rest) := fun h2 pv2 e2 V2 s2 m2 g2 => by
          rw [pred1 (by omega), andN (by omega) (by omega)]
          have l2 : (a - 1) &&& rest ≤ a - 1 := Nat.and_le_left
          refine ih _ (by omega) (and_sub _ _) (by omega) h2 pv2 e2 V2 s2 (fun p lp p1 p2 p3 p4 p5 => ?_)
          by_cases d : p = a
          · rw [d] at p4 p5 ⊢; exact g2 p4 p5
          · by_cases w : a < p
            · exact Nat.le_trans (m2 _ (hor p p1)) (c1 p w p1 p2 p3 p4 p5)
            · have := next_part rest a p as' p1 (by omega)
              omega
        refine (h_takes hE (by omega) T1 hb an).use ?_
        by_cases ga : g b a = true
        · rw [if_pos ga]
          obtain ⟨x, rx, hx⟩ := h_noMore hE (L := L - 1) (by omega) T1 hb hr as'
          refine brF (by decide) (rx.use ?_)
          rcases hx with ⟨rfl, nm⟩ | ⟨rfl, nm⟩
          · have oa := hor a as'
            obtain ⟨v1, v2⟩ := V1 _ oa
            rw [orN (by omega) (by omega), nIc (by omega), v1]
            refine brF (by decide) ⟨in47 (by omega), rfl, in47 (by omega), ?_⟩
            have em : (if nI price < nI (pv1 (held ||| a)) then nI price else nI (pv1 (held ||| a))) = nI (if price < pv1 (held ||| a) then price else pv1 (held ||| a)) := by
              by_cases d : price < pv1 (held ||| a)
              · rw [if_pos d, if_pos ((nIt (by omega) (by omega)).mpr d)]
              · rw [if_neg d, if_neg (fun z => d ((nIt (by omega) (by omega)).mp z))]
            rw [em]
            refine nx _ (upN pv1 (held ||| a) (if price < pv1 (held ||| a) then price else pv1 (held ||| a))) (e1.trans (EqO.sA (F := fun x => x = 47) rfl)) (fun c hc => ?_) (fun c hc => ?_) (fun c hc => ?_) (fun _ _ => ?_)
            · rw [sA_A, if_pos rfl]
              by_cases d : c = held ||| a
              · rw [if_pos d, d, upN_y]; exact ⟨rfl, by split <;> omega⟩
              · rw [if_neg d, upN_n d]; exact V1 c hc
            · by_cases d : c = held ||| a
              · rw [d, upN_y]
                by_cases w : price < pv1 (held ||| a)
                · rw [if_pos w]
                  refine Or.inr ⟨rfl, ?_, a, as', a0, ga, rfl⟩
                  rcases s1 _ oa with y | ⟨y1, y2, -⟩
                  · rw [← y]; omega
                  · omega
                · rw [if_neg w]; exact s1 _ oa
              · rw [upN_n d]; exact s1 c hc
            · by_cases d : c = held ||| a
              · rw [d, upN_y]; split <;> omega
              · rw [upN_n d]; exact Nat.le_refl _
            · rw [upN_y]; split <;> omega
          · exact brT rfl (nx h1 pv1 e1 V1 s1 (fun _ _ => Nat.le_refl _) (fun _ w => absurd w nm))
        · rw [if_neg ga]
          exact brT rfl (nx h1 pv1 e1 V1 s1 (fun _ _ => Nat.le_refl _) (fun w => absurd w ga))
    have l2 : (rest - 1) &&& rest ≤ rest - 1 := Nat.and_le_left
    refine main ((rest - 1 &&& rest) + 1) _ (by omega) (and_sub _ _) (by omega) h pv EqO.rfl' V (fun _ _ => Or.inl rfl) (fun p lp p1 p2 p3 _ _ => ?_)
    have := sbs_le p1
    have := next_part rest rest p (Nat.and_self _) p1 (by omega)
    omega
end House3
