section LooksX
variable {E : EnvX} {L : Nat} {h : Hp} {K : Nat} {st : Nat → Nat} {F m : Nat}
theorem k62 : (akd 62 = 1 ∧ 12 ≤ aln 62 ∧ aln 62 < 2147483648) ∧ (akd 63 = 1 ∧ 4096 ≤ aln 63 ∧ aln 63 < 2147483648) := by decide +kernel
theorem in62 {k : Nat} (hk : k < 12) : inI 62 (nI k) := inI_of k62.1.1 (by have := k62.1.2.1; omega) k62.1.2.2
theorem in63 {k : Nat} (hk : k < 4096) : inI 63 (nI k) := inI_of k62.2.1 (by have := k62.2.2.1; omega) k62.2.2.2
theorem sw_or {k j : Nat} (hj : j < 12) (b : Bool) (hb : (st j).testBit k = b) : nI (swN st k j) ||| ((if b = true then (1 : Int32) else 0) <<< (nI j &&& 31)) = nI (swN st k (j + 1)) := by
  have l1 := sw_lt st k j
  have p := pow13 (n := j) (by omega)
  show _ = nI (swN st k j ||| (if (st j).testBit k = true then 2 ^ j else 0))
  rw [hb]
  cases b
  · rw [if_neg (by decide), if_neg (by decide), zsh (by omega), orz, Nat.or_zero]
  · rw [if_pos rfl, if_pos rfl, shlN (by omega), orN (by omega) (by omega)]
theorem ch_sets (hE : EOk E) (hL : 1 ≤ L) (hF : F ≤ 12) (h5 : h.1 59 5 = nI F) (h60 : ∀ j, j < F → h.2.1 60 j = nI (st j)) (hs : ∀ j, j < F → st j < 4096) : ConV E L m_Chest_noteSetsWith 59 [] h (fun h' => EqO (fun x => x = 62) h h' ∧ ∀ k, k < 12 → h'.2.1 62 k = nI (swN st k F)) := by
  refine B_Chest_noteSetsWith hE hL ?_
  have l2 : ∀ f k, f + k = 12 → ∀ h1, EqO (fun x => x = 62) h h1 → (∀ i, i < k → h1.2.1 62 i = nI (swN st i F)) → at_Chest_noteSetsWith_2 E L h1 (fun h' => EqO (fun x => x = 62) h h' ∧ ∀ k, k < 12 → h'.2.1 62 k = nI (swN st k F)) (nI k) := by
    intro f
    induction f with
    | zero =>
      intro k hk h1 e a
      rw [show k = 12 by omega] at a ⊢
      exact B_Chest_noteSetsWith_2 (brT (nEnd 12) ⟨e, a⟩)
    | succ f ih =>
      intro k hk h1 e a
      refine B_Chest_noteSetsWith_2 (brF (nG 12 (by omega)) ⟨in62 (by omega), ?_⟩)
      rw [nIc (by omega)]
      have l17 : ∀ g j, g + j = F → ∀ h2, EqO (fun x => x = 62) h h2 → (∀ i, i < k → h2.2.1 62 i = nI (swN st i F)) → h2.2.1 62 k = nI (swN st k j) → at_Chest_noteSetsWith_17 E L h2 (fun h' => EqO (fun x => x = 62) h h' ∧ ∀ k, k < 12 → h'.2.1 62 k = nI (swN st k F)) (nI k) (nI j) := by
        intro g
        induction g with
        | zero =>
          intro j hj h2 e2 a2 b2
          refine B_Chest_noteSetsWith_17 ?_
          rw [(e2 59 (by omega)).1, h5, nI_1]
          rw [show j = F by omega] at b2 ⊢
          refine brT (nI_le (Nat.le_refl _) (by omega)) (ih (k + 1) (by omega) h2 e2 (fun i hi => ?_))
          by_cases d : i = k
          · rw [d]; exact b2
          · exact a2 i (by omega)
        | succ g ihg =>
          intro j hj h2 e2 a2 b2
          have sj := hs j (by omega)
          refine B_Chest_noteSetsWith_17 ?_
          rw [(e2 59 (by omega)).1, h5]
          refine brF (nI_ge (by omega) (by omega)) (brF (nI_ge (b := 12) (by omega) (by omega)) ⟨in62 (by omega), in60 (by omega), in62 (by omega), ?_⟩)
          rw [nIc (show k < 2147483648 by omega), nIc (show j < 2147483648 by omega), b2, (e2 60 (by omega)).2.1, h60 j (by omega), bitN (by omega) (by omega), sw_or (by omega) _ rfl, nI_1]
          refine ihg (j + 1) (by omega) _ (e2.trans (EqO.sA (F := fun x => x = 62) rfl)) (fun i hi => ?_) ?_
          · rw [sA_A, if_pos rfl, if_neg (by omega)]; exact a2 i hi
          · rw [sA_A, if_pos rfl, if_pos rfl]
      refine l17 F 0 (by omega) _ (e.trans (EqO.sA (F := fun x => x = 62) rfl)) (fun i hi => ?_) ?_
      · rw [sA_A, if_pos rfl, if_neg (by omega)]; exact a i hi
      · rw [sA_A, if_pos rfl, if_pos rfl]; rfl
  exact l2 12 0 (by omega) h EqO.rfl' (fun i hi => absurd hi (Nat.not_lt_zero i))
def bl (p : Nat) : Nat := if p < 2 then 1 else if p < 4 then 2 else if p < 8 then 3 else 4
theorem bl_4 (p : Nat) : bl p ≤ 4 := by
  unfold bl
  split
  · omega
  · split
    · omega
    · split <;> omega
theorem i_nlz (hE : EOk E) (hL : 1 ≤ L) {p : Nat} (h1 : 1 ≤ p) (h2 : p < 12) : RdI E L m_Integer_numberOfLeadingZeros 0 [.int (nI p)] h (32 - nI (bl p)) := by
  have f1 : ∀ p, p < 12 → 1 ≤ p → (0 : Int32) < nI p ∧ nI p < 65536 ∧ nI p < 256 ∧ nI p < 16 := by decide
  obtain ⟨a, b, c, d⟩ := f1 p h2 h1
  refine B_Integer_numberOfLeadingZeros hE hL (brT a (brT b (B_Integer_numberOfLeadingZeros_33 (brT c (brT d ⟨fun q => ⟨?_, rfl⟩, fun q => ⟨?_, rfl⟩⟩)))))
  · have : ∀ p, p < 12 → 1 ≤ p → nI p < 4 → (31 : Int32) - ((nI p).toUInt32 >>> ((1 : Int32).toUInt32 &&& Int32.toUInt32 31)).toInt32 = 32 - nI (bl p) := by decide
    exact this p h2 h1 q
  · have : ∀ p, p < 12 → 1 ≤ p → ¬ nI p < 4 → ((31 : Int32) + (-2)) - ((((nI p).toUInt32 >>> ((2 : Int32).toUInt32 &&& Int32.toUInt32 31)).toInt32).toUInt32 >>> ((1 : Int32).toUInt32 &&& Int32.toUInt32 31)).toInt32 = 32 - nI (bl p) := by decide
    exact this p h2 h1 q
theorem bl_le {c l : Nat} (hc : c ≤ 12) (h : c ≤ 2 ^ l) : bl (c - 1) ≤ max 1 l := by
  by_cases q : l < 4
  · exact (show ∀ l, l < 4 → ∀ c, c ≤ 12 → c ≤ 2 ^ l → bl (c - 1) ≤ max 1 l by decide) l q c hc h
  · have := bl_4 (c - 1)
    omega
theorem ch_looksFor (hE : EOk E) (hL : 3 ≤ L) (hd : ∀ i j, i < F → j < F → st i = st j → i = j) (hl : ∀ i, i < F → st i < 2 ^ m) (hm : m ≤ 12) (hF : F ≤ 12) (h62 : ∀ k, k < 12 → h.2.1 62 k = nI (swN st k F)) {S : Nat} (hS : S < 2 ^ F) (h2 : 2 ≤ pcn S) (h63 : ∀ x, x ≠ 0 → x < S → h.2.1 63 x = nI (lk st F m x)) : RdI E L m_Chest_looksFor 59 [.int (nI S)] h (nI (lk st F m S)) := by
  have p4 := pow13 (n := F) (by omega)
  have pn12 : pcn S ≤ 12 := by
    have e : pcn S = sE (fun k => if S.testBit k = true then 1 else 0) 12 := by
      unfold pcn
      rw [show (24 : Nat) = 12 + 12 from rfl, sE_split, sE_zero (n := 12) (f := fun i => if S.testBit (12 + i) = true then 1 else 0) (fun k _ => by rw [bit_hi hS (by omega)]; rfl), Nat.add_zero]
    have : sE (fun k => if S.testBit k = true then 1 else 0) 12 ≤ 12 * 1 := sE_le (fun k _ => by split <;> omega)
    omega
  have S0 : S ≠ 0 := fun z => by
    rw [z] at h2
    have : pcn 0 = 0 := sE_zero (fun k _ => by rw [Nat.zero_testBit]; rfl)
    omega
  obtain ⟨b1, b2⟩ := lk_bd hd hl hF (S + 1) S (by omega) S0 hS
  have el : lk st F m S = fd (gk st F (tbl st F m S) S) 99 m := by unfold lk stp; rw [if_neg (by omega)]
  have bll := bl_le pn12 b2
  -- from 12, over all places
  have g0 : ∀ k, m ≤ k → gk st F (tbl st F m S) S k = 0 := fun k hk => by
    have : swN st k F = 0 := Nat.eq_of_testBit_eq (fun i => by
      rw [sw_bit, Nat.zero_testBit]
      by_cases iF : i < F
      · rw [bit_hi (hl i iF) hk, Bool.and_false]
      · rw [decide_eq_false iF, Bool.false_and])
    unfold gk
    rw [this, Nat.and_zero, if_pos (Or.inl rfl)]
  have e12 : fd (gk st F (tbl st F m S) S) 12 12 = lk st F m S := by
    have em := fd_more (g := gk st F (tbl st F m S) S) (a := 12) (n := m) (12 - m) g0
    rw [show m + (12 - m) = 12 by omega] at em
    rw [em, el]
    obtain ⟨k, hk, q0, q1⟩ := split_some hd hl hS hF h2
    obtain ⟨r1, r2, r3⟩ := parts q0 q1
    refine fd_from m ⟨k, hk, ?_, ?_, ?_⟩
    · unfold gk; rw [if_neg (fun z => z.elim q0 q1)]; omega
    · have c1 := (lk_bd hd hl hF S _ r1 q0 (by omega)).1
      have c2 := (lk_bd hd hl hF S _ r2 r3 (by omega)).1
      have sp := pcn_parts S (swN st k F)
      have d1 := pcn_pos q0 (by have := pow24 hF; omega)
      have d2 := pcn_pos r3 (by have := pow24 hF; omega)
      unfold gk vmx
      rw [if_neg (fun z => z.elim q0 q1), tbl_lk r1, tbl_lk r2]
      split <;> omega
    · have c1 := (lk_bd hd hl hF S _ r1 q0 (by omega)).1
      have c2 := (lk_bd hd hl hF S _ r2 r3 (by omega)).1
      have sp := pcn_parts S (swN st k F)
      have d1 := pcn_pos q0 (by have := pow24 hF; omega)
      have d2 := pcn_pos r3 (by have := pow24 hF; omega)
      unfold gk vmx
      rw [if_neg (fun z => z.elim q0 q1), tbl_lk r1, tbl_lk r2]
      split <;> omega
  refine B_Chest_looksFor hE (by omega) ((i_bitCount hE (by omega) (by omega)).use ?_)
  rw [pred1 (by omega)]
  refine (i_nlz hE (by omega) (by omega) (by omega)).use ?_
  have b32 : (32 : Int32) - (32 - nI (bl (pcn S - 1))) = nI (bl (pcn S - 1)) := by
    have : ∀ c, c < 13 → (32 : Int32) - (32 - nI (bl (c - 1))) = nI (bl (c - 1)) := by decide
    exact this _ (by omega)
  rw [b32]
  have main : ∀ f k, f + k = 12 → at_Chest_looksFor_19 E L h (fun y h' => y = nI (lk st F m S) ∧ h' = h) (nI S) (nI (bl (pcn S - 1))) (nI (fd (gk st F (tbl st F m S) S) 12 k)) (nI k) := by
    intro f
    induction f with
    | zero =>
      intro k hk
      rw [show k = 12 by omega]
      exact B_Chest_looksFor_19 (brT (nEnd 12) ⟨by rw [e12], rfl⟩)
    | succ f ih =>
      intro k hk
      have k12 : k < 12 := by omega
      have ih1 := ih (k + 1) (by omega)
      have fl := fd_le (gk st F (tbl st F m S) S) 12 k
      have swl := sw_lt st k F
      have lm := fd_mono (gk st F (tbl st F m S) S) 12 (k := k) (n := 12) (by omega)
      rw [e12] at lm
      have bl4 := bl_4 (pcn S - 1)
      refine B_Chest_looksFor_19 (brF (nG 12 k12) ?_)
      rw [nIl (by omega) (by omega)]
      refine ⟨fun q => ⟨?_, rfl⟩, fun q => ⟨in62 k12, in62 k12, ?_⟩⟩
      · congr 1
        have l1 : 1 ≤ lk st F m S := by
          have : lk st F m S ≠ 0 := fun z => by rw [z] at b2; omega
          omega
        omega
      · have wl : S &&& swN st k F ≤ S := Nat.and_le_left
        have ed : nI S &&& (nI (swN st k F) ^^^ (-1)) = nI (S ^^^ (S &&& swN st k F)) := by
          have x24 : S ^^^ (S &&& swN st k F) < 2 ^ 24 := Nat.xor_lt_two_pow (by omega) (by omega)
          refine mk_eq (mk_ndel (mk_nat (by omega)) (mk_nat (by omega))) (mk_cong (mk_nat x24) (fun i _ => ?_))
          rw [Nat.testBit_xor, Nat.testBit_and]
          cases S.testBit i <;> cases (swN st k F).testBit i <;> rfl
        rw [nIc (by omega), h62 k k12, andN (by omega) (by omega), ed, nI_1]
        rw [fd_s] at ih1
        by_cases w0 : S &&& swN st k F = 0
        · have gz : gk st F (tbl st F m S) S k = 0 := by unfold gk; rw [if_pos (Or.inl w0)]
          rw [if_pos gz] at ih1
          rw [w0]
          exact brT rfl ih1
        · refine brF (fun z => w0 ((nI_z (by omega)).mp z)) ?_
          by_cases w1 : S &&& swN st k F = S
          · have gz : gk st F (tbl st F m S) S k = 0 := by unfold gk; rw [if_pos (Or.inr w1)]
            rw [if_pos gz] at ih1
            rw [w1, Nat.xor_self]
            exact brT rfl ih1
          · obtain ⟨r1, r2, r3⟩ := parts w0 w1
            refine brF (fun z => r3 ((nI_z (by omega)).mp z)) ⟨in63 (by omega), in63 (by omega), rfl, rfl, ?_⟩
            have c1 := (lk_bd hd hl hF S _ r1 w0 (by omega)).1
            have c2 := (lk_bd hd hl hF S _ r2 r3 (by omega)).1
            have d1 := (bcN (x := S &&& swN st k F) (by omega)).2
            have d2 := (bcN (x := S ^^^ (S &&& swN st k F)) (by omega)).2
            have gz : gk st F (tbl st F m S) S k = 1 + (1 + vmx (lk st F m (S &&& swN st k F)) (lk st F m (S ^^^ (S &&& swN st k F)))) := by
              unfold gk; rw [if_neg (fun z => z.elim w0 w1), tbl_lk r1, tbl_lk r2]
            have vl : vmx (lk st F m (S &&& swN st k F)) (lk st F m (S ^^^ (S &&& swN st k F))) ≤ 24 := by unfold vmx; split <;> omega
            rw [gz, if_neg (by omega)] at ih1
            rw [nIc (by omega), nIc (by omega), h63 _ w0 r1, h63 _ r3 r2, mx_n (by omega) (by omega), show (1 : Int32) = nI 1 from rfl, show (if lk st F m (S &&& swN st k F) < lk st F m (S ^^^ (S &&& swN st k F)) then lk st F m (S ^^^ (S &&& swN st k F)) else lk st F m (S &&& swN st k F)) = vmx (lk st F m (S &&& swN st k F)) (lk st F m (S ^^^ (S &&& swN st k F))) from rfl, nI_add]
            have em : (if nI (1 + vmx (lk st F m (S &&& swN st k F)) (lk st F m (S ^^^ (S &&& swN st k F)))) < nI (fd (gk st F (tbl st F m S) S) 12 k) then nI (1 + vmx (lk st F m (S &&& swN st k F)) (lk st F m (S ^^^ (S &&& swN st k F)))) else nI (fd (gk st F (tbl st F m S) S) 12 k)) = nI (if fd (gk st F (tbl st F m S) S) 12 k ≤ 1 + (1 + vmx (lk st F m (S &&& swN st k F)) (lk st F m (S ^^^ (S &&& swN st k F)))) - 1 then fd (gk st F (tbl st F m S) S) 12 k else 1 + (1 + vmx (lk st F m (S &&& swN st k F)) (lk st F m (S ^^^ (S &&& swN st k F)))) - 1) := by
              by_cases d : 1 + vmx (lk st F m (S &&& swN st k F)) (lk st F m (S ^^^ (S &&& swN st k F))) < fd (gk st F (tbl st F m S) S) 12 k
              · rw [if_pos ((nIt (by omega) (by omega)).mpr d), if_neg (by omega)]; congr 1; omega
              · rw [if_neg (fun z => d ((nIt (by omega) (by omega)).mp z)), if_pos (by omega)]
            rw [em]
            exact ih1
  exact main 12 0 (by omega)
end LooksX
