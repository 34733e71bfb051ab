section Nest2
variable {E : EnvX} {L : Nat} {h : Hp} {nB nT : Nat} {tv : Nat → Nat → Nat}
theorem k65 : (akd 65 = 1 ∧ 2048 ≤ aln 65 ∧ aln 65 < 2147483648) ∧ ((akd 66 = 1 ∧ aln 66 = 8) ∧ (akd 67 = 1 ∧ aln 67 = 8) ∧ (akd 68 = 1 ∧ aln 68 = 8)) := by decide +kernel
theorem in65 {k : Nat} (hk : k < 2048) : inI 65 (nI k) := inI_of k65.1.1 (by have := k65.1.2.1; omega) k65.1.2.2
theorem in66 {k : Nat} (hk : k < 8) : inI 66 (nI k) ∧ inI 67 (nI k) ∧ inI 68 (nI k) := ⟨inI_of k65.2.1.1 (by rw [k65.2.1.2]; exact hk) (by rw [k65.2.1.2]; decide), inI_of k65.2.2.1.1 (by rw [k65.2.2.1.2]; exact hk) (by rw [k65.2.2.1.2]; decide), inI_of k65.2.2.2.1 (by rw [k65.2.2.2.2]; exact hk) (by rw [k65.2.2.2.2]; decide)⟩
def prV (h : Hp) (tv : Nat → Nat → Nat) (nB : Nat) : Prop := ∀ l, l < nB → h.2.1 66 l = nI (tkM (fun b => inN tv l b && !(decide (b = l))) nB) ∧ h.2.1 67 l = nI (tkM (onN tv l) nB)
theorem tk_step {G : Nat → Bool} {k : Nat} (hk : k < 8) : nI (tkM G k) ||| (if G k = true then ((1 : Int32) <<< (nI k &&& 31)) else 0) = nI (tkM G (k + 1)) := by
  have tl := tk_lt G k
  have p9 := pow9 (n := k) (by omega)
  show _ = nI (tkM G k ||| (if G k = true then 2 ^ k else 0))
  by_cases q : G k = true
  · rw [if_pos q, if_pos q, shlN (by omega), orN (by omega) (by omega)]
  · rw [if_neg q, if_neg q, orz, Nat.or_zero]
theorem ns_pairs (hE : EOk E) (hL : 5 ≤ L) (S : StV h 1 nB nT tv) {l : Nat} (hl : l < nB) : ConV E L m_Nest_notePairs 64 [.int (nI l)] h (fun h' => EqO (fun x => x = 66 ∨ x = 67) h h' ∧ (∀ i, i ≠ l → h'.2.1 66 i = h.2.1 66 i ∧ h'.2.1 67 i = h.2.1 67 i) ∧ h'.2.1 66 l = nI (tkM (fun b => inN tv l b && !(decide (b = l))) nB) ∧ h'.2.1 67 l = nI (tkM (onN tv l) nB)) := by
  have h8 := S.2.2.2.1
  have tl : ∀ i k, i < 24 → k < 7 → tv i k ≤ 9999 := fun i k hi hk => (S.2.2.2.2.2 i k hi hk).2
  refine B_Nest_notePairs hE (by omega) ⟨(in66 (by omega)).1, (in66 (by omega)).2.1, ?_⟩
  rw [nIc (by omega)]
  have main : ∀ f k, f + k = nB → ∀ h1, EqO (fun x => x = 66 ∨ x = 67) h h1 → (∀ i, i ≠ l → h1.2.1 66 i = h.2.1 66 i ∧ h1.2.1 67 i = h.2.1 67 i) → h1.2.1 66 l = nI (tkM (fun b => inN tv l b && !(decide (b = l))) k) → h1.2.1 67 l = nI (tkM (onN tv l) k) → at_Nest_notePairs_16 E L h1 (fun h' => EqO (fun x => x = 66 ∨ x = 67) h h' ∧ (∀ i, i ≠ l → h'.2.1 66 i = h.2.1 66 i ∧ h'.2.1 67 i = h.2.1 67 i) ∧ h'.2.1 66 l = nI (tkM (fun b => inN tv l b && !(decide (b = l))) nB) ∧ h'.2.1 67 l = nI (tkM (onN tv l) nB)) (nI l) (nI k) := by
    intro f
    induction f with
    | zero =>
      intro k hk h1 e1 o1 a1 a2
      rw [show k = nB by omega] at a1 a2 ⊢
      have S1 : StV h1 1 nB nT tv := S.keep e1 (by omega) (by omega)
      exact B_Nest_notePairs_16 ((store_boxes hE (by omega) S1).use (brT (nI_le (Nat.le_refl _) (by omega)) ⟨e1, o1, a1, a2⟩))
    | succ f ih =>
      intro k hk h1 e1 o1 a1 a2
      have S1 : StV h1 1 nB nT tv := S.keep e1 (by omega) (by omega)
      have s1 := tk_step (G := fun b => inN tv l b && !(decide (b = l))) (k := k) (by omega)
      have s2 := tk_step (G := onN tv l) (k := k) (by omega)
      have mul : tv k 0 * tv k 5 ≤ 9999 * 9999 := Nat.mul_le_mul (tl k 0 (by omega) (by omega)) (tl k 5 (by omega) (by omega))
      have dl : tv k 0 * tv k 5 / 2 ^ 2 ≤ tv k 0 * tv k 5 := Nat.div_le_self _ _
      have t0 := tl l 0 (by omega) (by omega)
      -- the second part, once the first is done
      have two : ∀ h2, EqO (fun x => x = 66 ∨ x = 67) h h2 → (∀ i, i ≠ l → h2.2.1 66 i = h.2.1 66 i ∧ h2.2.1 67 i = h.2.1 67 i) → h2.2.1 66 l = nI (tkM (fun b => inN tv l b && !(decide (b = l))) (k + 1)) → h2.2.1 67 l = nI (tkM (onN tv l) k) → ConI E (L - 1) m_Store_told 1 [.int (nI l), .int 0] h2 (fun y6 h5 => ConI E (L - 1) m_Store_roomOf 1 [.int (nI k), .int 2] h5 (fun y8 h7 => ((y8 < y6 → at_Nest_notePairs_16 E L h7 (fun h' => EqO (fun x => x = 66 ∨ x = 67) h h' ∧ (∀ i, i ≠ l → h'.2.1 66 i = h.2.1 66 i ∧ h'.2.1 67 i = h.2.1 67 i) ∧ h'.2.1 66 l = nI (tkM (fun b => inN tv l b && !(decide (b = l))) nB) ∧ h'.2.1 67 l = nI (tkM (onN tv l) nB)) (nI l) (nI k + 1)) ∧ (¬ y8 < y6 → (inI 67 (nI l) ∧ (inI 67 (nI l) ∧ at_Nest_notePairs_16 E L (sA h7 67 (nI l).toNatClampNeg ((h7.2.1 67 (nI l).toNatClampNeg) ||| ((1 : Int32) <<< (nI k &&& 31)))) (fun h' => EqO (fun x => x = 66 ∨ x = 67) h h' ∧ (∀ i, i ≠ l → h'.2.1 66 i = h.2.1 66 i ∧ h'.2.1 67 i = h.2.1 67 i) ∧ h'.2.1 66 l = nI (tkM (fun b => inN tv l b && !(decide (b = l))) nB) ∧ h'.2.1 67 l = nI (tkM (onN tv l) nB)) (nI l) (nI k + 1))))))) := fun h2 e2 o2 b1 b2 => by
        have S2 : StV h2 1 nB nT tv := S.keep e2 (by omega) (by omega)
        refine (store_told hE (by omega) S2 (k := 0) (by omega) (by omega)).use ((store_roomOf hE (by omega) S2 (b := k) (n := 2) (by omega) (by omega)).use ?_)
        rw [nIt (by omega) (by omega), nIc (by omega), b2, nI_1]
        refine ⟨fun q => ?_, fun q => ⟨(in66 (by omega)).2.1, (in66 (by omega)).2.1, ?_⟩⟩
        · have : onN tv l k = false := decide_eq_false (by omega)
          rw [this, if_neg (by decide), orz] at s2
          exact ih (k + 1) (by omega) h2 e2 o2 b1 (by rw [b2, s2])
        · have : onN tv l k = true := decide_eq_true (by omega)
          rw [this, if_pos rfl] at s2
          rw [s2]
          refine ih (k + 1) (by omega) _ (e2.trans (EqO.sA (F := fun x => x = 66 ∨ x = 67) (Or.inr rfl))) (fun i hi => ?_) ?_ ?_
          · rw [sA_A, if_neg (by omega), sA_A, if_pos rfl, if_neg hi]; exact o2 i hi
          · rw [sA_A, if_neg (by omega)]; exact b1
          · rw [sA_A, if_pos rfl, if_pos rfl]
      have tk : tkA tv nB l k = inN tv l k := by
        unfold tkA inN
        rw [if_pos hl]
      refine B_Nest_notePairs_16 ((store_boxes hE (by omega) S1).use (brF (nI_ge (by omega) (by omega)) ((store_takesAlone hE (by omega) S1 (show l < 24 by omega) (show k < 24 by omega)).use ?_)))
      rw [tk]
      by_cases q : inN tv l k = true
      · rw [if_pos q]
        refine brF (by decide) ?_
        rw [nIe (by omega) (by omega)]
        refine ⟨fun e => two h1 e1 o1 ?_ a2, fun e => ⟨(in66 (by omega)).1, (in66 (by omega)).1, ?_⟩⟩
        · have gz : (inN tv l k && !(decide (k = l))) = false := by rw [decide_eq_true e]; simp
          rw [gz, if_neg (by decide), orz] at s1
          rw [a1, s1]
        · have gz : (inN tv l k && !(decide (k = l))) = true := by rw [q, decide_eq_false e]; rfl
          rw [gz, if_pos rfl] at s1
          have two' := two
          rw [nIc (show l < 2147483648 by omega)] at two'
          rw [nIc (show l < 2147483648 by omega), a1, s1]
          refine two' _ (e1.trans (EqO.sA (F := fun x => x = 66 ∨ x = 67) (Or.inl rfl))) (fun i hi => ?_) ?_ ?_
          · rw [sA_A, if_pos rfl, if_neg hi, sA_A, if_neg (by omega)]; exact o1 i hi
          · rw [sA_A, if_pos rfl, if_pos rfl]
          · rw [sA_A, if_neg (by omega)]; exact a2
      · rw [if_neg q]
        have gz : (inN tv l k && !(decide (k = l))) = false := by rw [show inN tv l k = false by simpa using q]; rfl
        rw [gz, if_neg (by decide), orz] at s1
        exact brT rfl (two h1 e1 o1 (by rw [a1, s1]) a2)
  refine main nB 0 (by omega) _ ((EqO.sA (F := fun x => x = 66 ∨ x = 67) (Or.inl rfl)).trans (EqO.sA (F := fun x => x = 66 ∨ x = 67) (Or.inr rfl))) (fun i hi => ⟨?_, ?_⟩) ?_ ?_
  · rw [sA_A, if_neg (by omega), sA_A, if_pos rfl, if_neg hi]
  · rw [sA_A, if_pos rfl, if_neg hi, sA_A, if_neg (by omega)]
  · rw [sA_A, if_neg (by omega), sA_A, if_pos rfl, if_pos rfl]; rfl
  · rw [sA_A, if_pos rfl, if_pos rfl]; rfl
/-- how many come around with the next one -/
theorem ns_with (hE : EOk E) (hL : 2 ≤ L) (S : StV h 1 nB nT tv) (P : prV h tv nB) {N l b w : Nat} (hN : N < 2 ^ nB) (hl : l < nB) (hb : b < nB) (tl : N.testBit l = true) (hw : w = wB tv nB N) (wl : w < 100000) {R : Nat → Nat → Nat} (hR : cnN tv nB N l b = true → h.2.1 65 ((N ||| 2 ^ b) * 8 + b) = nI (R (N ||| 2 ^ b) b)) : RdI E L m_Nest_manyWith 64 [.int (nI N), .int (nI l), .int (nI b), .int (nI w)] h (nI (mwF tv nB R N l b)) := by
  have h8 := S.2.2.2.1
  have p9 := pow9 h8
  have pb : 2 ^ b < 2 ^ nB := Nat.pow_lt_pow_right (by decide) hb
  have ol : N ||| 2 ^ b < 2 ^ nB := Nat.or_lt_two_pow hN pb
  have t6 := (S.2.2.2.2.2 b 6 (by omega) (by omega)).2
  obtain ⟨p1, p2⟩ := P l hl
  have k1 := tk_lt (fun b => inN tv l b && !(decide (b = l))) nB
  have k2 := tk_lt (onN tv l) nB
  refine B_Nest_manyWith hE (by omega) ?_
  rw [shlN (by omega), andN (by omega) (by omega), and_pow, nIc (show l < 2147483648 by omega), p1, p2, andN (by omega) (by omega), and_pow, andN (by omega) (by omega), and_pow, tk_bit, tk_bit, decide_eq_true hb, Bool.true_and, Bool.true_and, orN (by omega) (by omega), show (8 : Int32) = nI 8 from rfl, nI_mul, nI_add, nIc (show (N ||| 2 ^ b) * 8 + b < 2147483648 by omega)]
  have p0 := Nat.two_pow_pos b
  cases t : N.testBit b
  · rw [if_neg (by decide)]
    refine brT' rfl ⟨(in66 (by omega)).1, ?_⟩
    have bl : b ≠ l := fun e => by rw [e, tl] at t; cases t
    rw [decide_eq_false bl, Bool.not_false, Bool.and_true]
    cases q : inN tv l b
    · rw [if_neg (by decide)]
      have z : mwF tv nB R N l b = 0 := by unfold mwF cnN; rw [q, if_neg (by simp)]
      rw [z]
      exact brT rfl (brT' rfl ⟨rfl, rfl⟩)
    · rw [if_pos rfl]
      refine brF (nI_ne0 (by omega) (by omega)) ((store_told hE (by omega) S (k := 6) (by omega) (by omega)).use ?_)
      rw [nIt (by omega) (by omega)]
      refine ⟨fun g => ?_, fun g => ?_⟩
      · have z : mwF tv nB R N l b = 0 := by unfold mwF cnN; rw [decide_eq_false (show ¬ wB tv nB N ≤ tv b 6 by omega), if_neg (by simp)]
        rw [z]
        exact brT' rfl ⟨rfl, rfl⟩
      · have cn : cnN tv nB N l b = true := by unfold cnN; rw [t, q, decide_eq_true (show wB tv nB N ≤ tv b 6 by omega)]; rfl
        rw [p2]
        refine brF' (by decide) ⟨(in66 (by omega)).2.1, ?_⟩
        rw [andN (by omega) (by omega), and_pow, tk_bit, decide_eq_true hb, Bool.true_and]
        cases o : onN tv l b
        · have z : mwF tv nB R N l b = 1 := by unfold mwF; rw [if_pos cn, o, if_neg (by decide)]
          rw [z, if_neg (by decide)]
          exact brT' rfl ⟨rfl, rfl⟩
        · have z : mwF tv nB R N l b = 1 + R (N ||| 2 ^ b) b := by unfold mwF; rw [if_pos cn, o, if_pos rfl]
          rw [z, if_pos rfl, hR cn]
          refine brF' (nI_ne0 (by omega) (by omega)) ⟨in65 (by omega), ?_, rfl⟩
          rw [show (1 : Int32) = nI 1 from rfl, nI_add]
  · rw [if_pos rfl]
    have z : mwF tv nB R N l b = 0 := by unfold mwF cnN; rw [t, if_neg (by simp)]
    rw [z]
    exact brF' (nI_ne0 (by omega) (by omega)) (brT' rfl ⟨rfl, rfl⟩)
end Nest2
