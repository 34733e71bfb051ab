section Boxes2
variable {E : EnvX} {L : Nat} {h : Hp} {nB nT : Nat} {tv : Nat → Nat → Nat} {pk lv sn : Nat → Nat} {ck : Nat}
theorem k81 : (akd 81 = 3 ∧ 8192 ≤ aln 81 ∧ aln 81 < 2147483648) ∧ (akd 82 = 3 ∧ 262144 ≤ aln 82 ∧ aln 82 < 2147483648) := by decide +kernel
theorem in81 {k : Nat} (hk : k < 8192) : inZ 81 (nI k) := inZ_of k81.1.1 (by have := k81.1.2.1; omega) k81.1.2.2
theorem in82 {k : Nat} (hk : k < 262144) : inZ 82 (nI k) := inZ_of k81.2.1 (by have := k81.2.2.1; omega) k81.2.2.2
theorem pow11 {n : Nat} (hn : n ≤ 10) : 2 ^ n ≤ 1024 ∧ 0 < 2 ^ n := (show ∀ n, n < 11 → 2 ^ n ≤ 1024 ∧ 0 < 2 ^ n by decide) n (by omega)
theorem pow9 {n : Nat} (hn : n ≤ 8) : 2 ^ n ≤ 256 ∧ 0 < 2 ^ n := (show ∀ n, n < 9 → 2 ^ n ≤ 256 ∧ 0 < 2 ^ n by decide) n (by omega)
theorem m_canWith (hE : EOk E) (hL : 2 ≤ L) {n o b c : Nat} {G C : Nat → Bool} (hn : n ≤ 10) (ho : o < 256) (hb : b < 8) (hc : c < 2 ^ n) (h81 : ∀ x, x < 2 ^ n → h.2.1 81 (1024 * b + x) = if G x = true then 1 else 0) (h82 : ∀ x, x < 2 ^ n → h.2.1 82 (1024 * o + x) = if C x = true then 1 else 0) : RdI E L m_M_canWith 74 [.int (nI o), .int (nI b), .int (nI c)] h (if sbE c (fun x => G x && C (c ^^^ x)) = true then 1 else 0) := by
  have p := pow11 hn
  refine B_M_canWith hE (by omega) ?_
  have dn : (∀ x, x &&& c = x → (G x && C (c ^^^ x)) = false) → at_M_canWith_6 E L h (fun y h' => y = (if sbE c (fun x => G x && C (c ^^^ x)) = true then 1 else 0) ∧ h' = h) (nI o) (nI b) (nI c) ((0 - 1) &&& nI c) 1 := fun a => by
    refine B_M_canWith_6 (brF' (by decide) ⟨?_, rfl⟩)
    rw [if_neg (fun z => ?_)]
    obtain ⟨x, x1, x2⟩ := sbE_iff.mp z
    rw [a x x1] at x2; cases x2
  have main : ∀ N a, a < N → a &&& c = a → (∀ x, x &&& c = x → a < x → (G x && C (c ^^^ x)) = false) → at_M_canWith_6 E L h (fun y h' => y = (if sbE c (fun x => G x && C (c ^^^ x)) = true then 1 else 0) ∧ h' = h) (nI o) (nI b) (nI c) (nI a) 0 := by
    intro N
    induction N with
    | zero => intro a ha; omega
    | succ N ih =>
      intro a ha as' up
      have al := sbs_le as'
      have xl : c ^^^ a < 2 ^ n := Nat.xor_lt_two_pow hc (by omega)
      refine B_M_canWith_6 (brT' rfl ?_)
      have fail : (G a && C (c ^^^ a)) = false → ((¬ nI a = 0 → at_M_canWith_6 E L h (fun y h' => y = (if sbE c (fun x => G x && C (c ^^^ x)) = true then 1 else 0) ∧ h' = h) (nI o) (nI b) (nI c) ((nI a - 1) &&& nI c) 0) ∧ (nI a = 0 → at_M_canWith_6 E L h (fun y h' => y = (if sbE c (fun x => G x && C (c ^^^ x)) = true then 1 else 0) ∧ h' = h) (nI o) (nI b) (nI c) ((nI a - 1) &&& nI c) 1)) := fun f => by
        rw [nI_z (by omega)]
        refine ⟨fun a0 => ?_, fun a0 => ?_⟩
        · rw [pred1 (by omega), andN (by omega) (by omega)]
          have l2 : (a - 1) &&& c ≤ a - 1 := Nat.and_le_left
          refine ih _ (by omega) (and_sub _ _) (fun x x1 x2 => ?_)
          by_cases d : x = a
          · rw [d]; exact f
          · by_cases e : a < x
            · exact up x x1 e
            · have := next_part c a x as' x1 (by omega)
              omega
        · rw [a0]
          refine dn (fun x x1 => ?_)
          by_cases d : x = a
          · rw [d]; exact f
          · exact up x x1 (by omega)
      rw [show (1024 : Int32) = nI 1024 from rfl, nI_mul, nI_mul, xorN (by omega) (by omega), nI_add, nI_add, nIc (show 1024 * b + a < 2147483648 by omega), nIc (show 1024 * o + (c ^^^ a) < 2147483648 by omega), h81 a (by omega), h82 _ xl]
      refine ⟨in81 (by omega), ?_⟩
      by_cases g : G a = true
      · rw [if_pos g]
        refine brF (by decide) ⟨in82 (by omega), ?_⟩
        by_cases d : C (c ^^^ a) = true
        · rw [if_pos d]
          refine brF (by decide) ⟨?_, rfl⟩
          rw [if_pos (sbE_iff.mpr ⟨a, as', by rw [g, d]; rfl⟩)]
        · rw [if_neg d]
          exact brT rfl (fail (by rw [show C (c ^^^ a) = false by simpa using d, Bool.and_false]))
      · rw [if_neg g]
        exact brT rfl (fail (by rw [show G a = false by simpa using g]; rfl))
  exact main (c + 1) c (by omega) (Nat.and_self c) (fun x x1 x2 => by have := sbs_le x1; omega)
def lbPo (h : Hp) (tv : Nat → Nat → Nat) (mem : Nat → Nat) (n nB : Nat) (h' : Hp) : Prop := EqO (fun x => x = 81 ∨ x = 82) h h' ∧ (∀ b c, b < nB → c < 2 ^ n → h'.2.1 81 (1024 * b + c) = if goB tv mem n b c = true then 1 else 0) ∧ ∀ B c, B < 2 ^ nB → c < 2 ^ n → h'.2.1 82 (1024 * B + c) = if cnF (goB tv mem n) B nB c = true then 1 else 0
theorem m_laysBoxes (hE : EOk E) (hL : 8 ≤ L) (M : MdV h nB nT tv pk sn ck) {n : Nat} {mem : Nat → Nat} (Fw : FwV h n mem) (hn : n ≤ 10) : ConV E L m_M_laysBoxes 74 [] h (lbPo h tv mem n nB) := by
  have p := pow11 hn
  have h8 := M.1.1
  have p9 := pow9 h8
  have m24 : ∀ k, k < n → mem k < 24 := fun k hk => (Fw.2.2 k hk).2
  refine B_M_laysBoxes hE (by omega) ?_
  rw [Fw.1, shlN (by omega)]
  -- the boxes together
  have l104 : ∀ f B, f + B = 2 ^ nB → ∀ h1, EqO (fun x => x = 81 ∨ x = 82) h h1 → (∀ b c, b < nB → c < 2 ^ n → h1.2.1 81 (1024 * b + c) = if goB tv mem n b c = true then 1 else 0) → (∀ B' c, B' < B → c < 2 ^ n → h1.2.1 82 (1024 * B' + c) = if cnF (goB tv mem n) B' nB c = true then 1 else 0) → at_M_laysBoxes_104 E L h1 (lbPo h tv mem n nB) (nI (2 ^ n)) (nI B) := by
    intro f
    induction f with
    | zero =>
      intro B hB h1 e a1 a2
      rw [show B = 2 ^ nB by omega] at a2 ⊢
      have M1 : MdV h1 nB nT tv pk sn ck := MsV_eq M (e 75 (by omega)).2.1
      refine B_M_laysBoxes_104 ⟨in75 (k := 0) (by omega), ?_⟩
      rw [e750 M1, shlN (by omega)]
      exact brT (nI_le (Nat.le_refl _) (by omega)) ⟨e, a1, a2⟩
    | succ f ih =>
      intro B hB h1 e a1 a2
      have M1 : MdV h1 nB nT tv pk sn ck := MsV_eq M (e 75 (by omega)).2.1
      refine B_M_laysBoxes_104 ⟨in75 (k := 0) (by omega), ?_⟩
      rw [e750 M1, shlN (by omega)]
      refine brF (nI_ge (by omega) (by omega)) ?_
      have l158 : ∀ g c, g + c = 2 ^ n → ∀ h2, EqO (fun x => x = 82) h1 h2 → (∀ x, x < 1024 * B → h2.2.1 82 x = h1.2.1 82 x) → (∀ x, x < c → h2.2.1 82 (1024 * B + x) = if cnF (goB tv mem n) B nB x = true then 1 else 0) → at_M_laysBoxes_158 E L h2 (lbPo h tv mem n nB) (nI (2 ^ n)) (nI B) (bx (hb B nB)) (nI c) := by
        intro g
        induction g with
        | zero =>
          intro c hc h2 e2 o2 b2
          rw [show c = 2 ^ n by omega] at b2 ⊢
          refine B_M_laysBoxes_158 (brT (nI_le (Nat.le_refl _) (by omega)) ?_)
          rw [nI_1]
          refine ih (B + 1) (by omega) h2 (e.trans (e2.wk (fun x z => Or.inr z))) (fun b c hb' hc' => by rw [(e2 81 (by omega)).2.1]; exact a1 b c hb' hc') (fun B' c hB' hc' => ?_)
          by_cases d : B' = B
          · rw [d]; exact b2 c hc'
          · rw [o2 _ (by omega)]; exact a2 B' c (by omega) hc'
        | succ g ihg =>
          intro c hc h2 e2 o2 b2
          have up : ∀ v : Int32, (v = if cnF (goB tv mem n) B nB c = true then 1 else 0) → at_M_laysBoxes_158 E L (sA h2 82 (1024 * B + c) v) (lbPo h tv mem n nB) (nI (2 ^ n)) (nI B) (bx (hb B nB)) (nI (c + 1)) := fun v ev => by
            refine ihg (c + 1) (by omega) _ (e2.trans (EqO.sA (F := fun x => x = 82) rfl)) (fun x hx => ?_) (fun x hx => ?_)
            · rw [sA_A, if_pos rfl, if_neg (by omega)]; exact o2 x hx
            · rw [sA_A, if_pos rfl]
              by_cases d : x = c
              · rw [if_pos (by omega), d, ev]
              · rw [if_neg (by omega)]; exact b2 x (by omega)
          have ct := cnF_top (g := goB tv mem n) (B := B) (k := nB) c
          refine B_M_laysBoxes_158 (brF (nI_ge (by omega) (by omega)) ?_)
          rw [show (1024 : Int32) = nI 1024 from rfl, nI_mul, nI_add, nIc (show 1024 * B + c < 2147483648 by omega), nI_1, bx_m1 (by
            by_cases z : hb B nB = 0
            · omega
            · have := (hb_yes z).1; omega)]
          refine ⟨fun t => ?_, fun t => ?_⟩
          · obtain ⟨y1, y2, y3⟩ := hb_yes t
            rw [if_neg t] at ct
            rw [bx_pos (n := hb B nB) (by omega)] at up ⊢
            have dl := del_lt y2
            have ed : nI B &&& (((1 : Int32) <<< (nI (hb B nB - 1) &&& 31)) ^^^ (-1)) = nI (del B (hb B nB - 1)) := by
              refine mk_eq (mk_del (mk_nat (by omega)) (by omega)) (mk_cong (mk_nat (by omega)) (fun i _ => ?_))
              rw [del_bit y2]; congr 2; exact decide_eq_decide.mpr eq_comm
            rw [ed]
            refine (m_canWith hE (by omega) hn (show del B (hb B nB - 1) < 256 by omega) (show hb B nB - 1 < 8 by omega) (show c < 2 ^ n by omega) (G := goB tv mem n (hb B nB - 1)) (C := cnF (goB tv mem n) (del B (hb B nB - 1)) nB) (fun x hx => ?_) (fun x hx => ?_)).use ⟨in82 (by omega), by split <;> decide, up _ (by rw [ct])⟩
            · rw [(e2 81 (by omega)).2.1]; exact a1 _ x (by omega) hx
            · rw [o2 _ (by omega)]; exact a2 _ x dl hx
          · rw [if_pos t] at ct
            rw [nI_z (by omega)]
            refine ⟨fun c0 => ⟨in82 (by omega), Or.inl rfl, up 0 ?_⟩, fun c0 => ⟨in82 (by omega), Or.inr rfl, up 1 ?_⟩⟩
            · rw [ct, if_neg (by rw [decide_eq_false c0]; decide)]
            · rw [ct, if_pos (decide_eq_true c0)]
      have l121 : ∀ g k, g + k = nB → at_M_laysBoxes_121 E L h1 (lbPo h tv mem n nB) (nI (2 ^ n)) (nI B) (bx (hb B k)) (nI k) := by
        intro g
        induction g with
        | zero =>
          intro k hk
          rw [show k = nB by omega]
          refine B_M_laysBoxes_121 ⟨in75 (k := 0) (by omega), ?_⟩
          rw [e750 M1]
          exact brT (nI_le (Nat.le_refl _) (by omega)) (l158 (2 ^ n) 0 (by omega) h1 EqO.rfl' (fun _ _ => rfl) (fun x hx => absurd hx (Nat.not_lt_zero x)))
        | succ g ihg =>
          intro k hk
          have ih1 := ihg (k + 1) (by omega)
          refine B_M_laysBoxes_121 ⟨in75 (k := 0) (by omega), ?_⟩
          rw [e750 M1, bitN (by omega) (by omega), nI_1]
          refine brF (nI_ge (by omega) (by omega)) ?_
          by_cases t : B.testBit k = true
          · rw [if_pos t]
            rw [show hb B (k + 1) = k + 1 from if_pos t, bx_S] at ih1
            exact brT' rfl ih1
          · rw [if_neg t]
            rw [show hb B (k + 1) = hb B k from if_neg t] at ih1
            exact brF' (by decide) ih1
      exact l121 nB 0 (by omega)
  have l9 : ∀ f b, f + b = nB → ∀ h1, EqO (fun x => x = 81) h h1 → (∀ b' c, b' < b → c < 2 ^ n → h1.2.1 81 (1024 * b' + c) = if goB tv mem n b' c = true then 1 else 0) → at_M_laysBoxes_9 E L h1 (lbPo h tv mem n nB) (nI (2 ^ n)) (nI b) := by
    intro f
    induction f with
    | zero =>
      intro b hb' h1 e a1
      rw [show b = nB by omega] at a1 ⊢
      have M1 : MdV h1 nB nT tv pk sn ck := MsV_eq M (e 75 (by omega)).2.1
      refine B_M_laysBoxes_9 ⟨in75 (k := 0) (by omega), ?_⟩
      rw [e750 M1]
      exact brT (nI_le (Nat.le_refl _) (by omega)) (l104 (2 ^ nB) 0 (by omega) h1 (e.wk (fun x z => Or.inl z)) a1 (fun B' c z => absurd z (Nat.not_lt_zero B')))
    | succ f ih =>
      intro b hb' h1 e a1
      have M1 : MdV h1 nB nT tv pk sn ck := MsV_eq M (e 75 (by omega)).2.1
      have b24 : b < 24 := by omega
      have t6 := (M.2.2.1 b 6 b24 (by omega)).2
      have t0 := (M.2.2.1 b 0 b24 (by omega)).2
      have t5 := (M.2.2.1 b 5 b24 (by omega)).2
      have mul : tv b 0 * tv b 5 ≤ 9999 * 9999 := Nat.mul_le_mul t0 t5
      refine B_M_laysBoxes_9 ⟨in75 (k := 0) (by omega), ?_⟩
      rw [e750 M1]
      refine brF (nI_ge (by omega) (by omega)) ?_
      have l21 : ∀ g c, g + c = 2 ^ n → ∀ h2, EqO (fun x => x = 81) h h2 → (∀ b' c, b' < b → c < 2 ^ n → h2.2.1 81 (1024 * b' + c) = if goB tv mem n b' c = true then 1 else 0) → (∀ x, x < c → h2.2.1 81 (1024 * b + x) = if goB tv mem n b x = true then 1 else 0) → at_M_laysBoxes_21 E L h2 (lbPo h tv mem n nB) (nI (2 ^ n)) (nI b) (nI c) := by
        intro g
        induction g with
        | zero =>
          intro c hc h2 e2 o2 b2
          rw [show c = 2 ^ n by omega] at b2 ⊢
          refine B_M_laysBoxes_21 (brT (nI_le (Nat.le_refl _) (by omega)) ?_)
          rw [nI_1]
          refine ih (b + 1) (by omega) h2 e2 (fun b' c hb'' hc' => ?_)
          by_cases d : b' = b
          · rw [d]; exact b2 c hc'
          · exact o2 b' c (by omega) hc'
        | succ g ihg =>
          intro c hc h2 e2 o2 b2
          have F2 : FwV h2 n mem := ⟨by rw [(e2 74 (by omega)).1]; exact Fw.1, Fw.2.1, fun k hk => by rw [(e2 80 (by omega)).2.1]; exact Fw.2.2 k hk⟩
          have M2 : MdV h2 nB nT tv pk sn ck := MsV_eq M (e2 75 (by omega)).2.1
          have s2 := sF_le (c := c) (w := 2) M Fw.2.1 m24 (by omega)
          have s0 := sF_le (c := c) (w := 0) M Fw.2.1 m24 (by omega)
          have up : ∀ v : Int32, (v = if goB tv mem n b c = true then 1 else 0) → at_M_laysBoxes_21 E L (sA h2 81 (1024 * b + c) v) (lbPo h tv mem n nB) (nI (2 ^ n)) (nI b) (nI (c + 1)) := fun v ev => by
            refine ihg (c + 1) (by omega) _ (e2.trans (EqO.sA (F := fun x => x = 81) rfl)) (fun b' x hb'' hx => ?_) (fun x hx => ?_)
            · rw [sA_A, if_pos rfl, if_neg (by omega)]; exact o2 b' x hb'' hx
            · rw [sA_A, if_pos rfl]
              by_cases d : x = c
              · rw [if_pos (by omega), d, ev]
              · rw [if_neg (by omega)]; exact b2 x (by omega)
          have no : goB tv mem n b c = false → (inZ 81 (nI (1024 * b + c)) ∧ ((0 : Int32) = 0 ∨ (0 : Int32) = 1) ∧ at_M_laysBoxes_21 E L (sA h2 81 (1024 * b + c) 0) (lbPo h tv mem n nB) (nI (2 ^ n)) (nI b) (nI (c + 1))) := fun q => ⟨in81 (by omega), Or.inl rfl, up 0 (by rw [if_neg (by rw [q]; decide)])⟩
          refine B_M_laysBoxes_21 (brF (nI_ge (by omega) (by omega)) ((m_passes hE (by omega) M2 F2 (by omega) b24).use ?_))
          rw [show (1024 : Int32) = nI 1024 from rfl, nI_mul, nI_add, nIc (show 1024 * b + c < 2147483648 by omega), nI_1]
          by_cases p1 : psB tv mem n c (tv b 4) = true
          · rw [if_pos p1]
            refine brF (by decide) ((m_sumOf hE (by omega) M2 F2 (w := 2) (by omega) (by omega)).use ((m_of hE (by omega) M2 (k := 6) b24 (by omega)).use ?_))
            rw [nIt (by omega) (by omega)]
            refine ⟨fun d3 => no (by unfold goB; rw [decide_eq_false (show ¬ sF tv mem 2 n c ≤ tv b 6 by omega)]; simp), fun d3 => ?_⟩
            refine (m_sumOf hE (by omega) M2 F2 (w := 0) (by omega) (by omega)).use ((m_of hE (by omega) M2 (k := 0) b24 (by omega)).use ((m_of hE (by omega) M2 (k := 5) b24 (by omega)).use ?_))
            rw [nI_mul, nIt (by omega) (by omega)]
            refine ⟨fun d4 => no (by unfold goB; rw [decide_eq_false (show ¬ sF tv mem 0 n c ≤ tv b 0 * tv b 5 by omega)]; simp), fun d4 => ⟨in81 (by omega), Or.inr rfl, up 1 ?_⟩⟩
            rw [if_pos (by unfold goB; rw [p1, decide_eq_true (show sF tv mem 2 n c ≤ tv b 6 by omega), decide_eq_true (show sF tv mem 0 n c ≤ tv b 0 * tv b 5 by omega)]; rfl)]
          · rw [if_neg p1]
            exact brT rfl (no (by unfold goB; rw [show psB tv mem n c (tv b 4) = false by simpa using p1]; rfl))
      exact l21 (2 ^ n) 0 (by omega) h1 e a1 (fun x hx => absurd hx (Nat.not_lt_zero x))
  exact l9 nB 0 (by omega) h EqO.rfl' (fun b' c z => absurd z (Nat.not_lt_zero b'))
end Boxes2
