section Nest3
variable {E : EnvX} {h : Hp} {nB nT : Nat} {tv : Nat → Nat → Nat} {pk lv sn : Nat → Nat} {ck : Nat}
def mR (tv : Nat → Nat → Nat) (nB N l : Nat) : Nat := mr tv nB (nB - cN nB N) N l
def Gm (tv : Nat → Nat → Nat) (nB N l : Nat) : Nat → Nat × Nat := gmx (mwF tv nB (mR tv nB) N l)
def nP (tv : Nat → Nat → Nat) (nB : Nat) : Nat → Nat → Nat → Nat
  | 0, N, l => (Gm tv nB N l nB).1 - 1
  | t + 1, N, l => nP tv nB t (N ||| 2 ^ ((Gm tv nB N l nB).1 - 1)) ((Gm tv nB N l nB).1 - 1)
theorem cn_bit {N l b : Nat} (h : cnN tv nB N l b = true) : N.testBit b = false := by
  unfold cnN at h
  rw [Bool.and_eq_true] at h
  simpa using h.1
theorem mR_eq (N l : Nat) (hN : cN nB N ≤ nB) : mR tv nB N l = (Gm tv nB N l nB).2 := by
  unfold mR Gm
  by_cases z : cN nB N = nB
  · rw [z, Nat.sub_self]
    show 0 = _
    have : ∀ k, k ≤ nB → (gmx (mwF tv nB (mR tv nB) N l) k).2 = 0 := by
      intro k
      induction k with
      | zero => intro _; rfl
      | succ k ih =>
        intro hk
        rw [gmx_s, ih (by omega)]
        have : mwF tv nB (mR tv nB) N l k = 0 := by
          unfold mwF cnN
          rw [cN_full (show k < nB by omega) (by omega), if_neg (by simp)]
        rw [this, if_neg (Nat.lt_irrefl 0)]; exact ih (by omega)
    exact (this nB (Nat.le_refl _)).symm
  · obtain ⟨f, ef⟩ : ∃ f, nB - cN nB N = f + 1 := ⟨nB - cN nB N - 1, by omega⟩
    rw [ef]
    show (gmx (mwF tv nB (mr tv nB f) N l) nB).2 = _
    congr 1
    refine gmx_cong (fun b hb => ?_)
    unfold mwF
    by_cases c : cnN tv nB N l b = true
    · rw [if_pos c, if_pos c]
      have : mR tv nB (N ||| 2 ^ b) b = mr tv nB f (N ||| 2 ^ b) b := by
        unfold mR
        rw [cN_add hb (cn_bit c), show nB - (cN nB N + 1) = f by omega]
      rw [this]
    · rw [if_neg c, if_neg c]
theorem mR_le (N l : Nat) : mR tv nB N l ≤ nB - cN nB N := mr_le tv nB _ N l
theorem mw_le {N l b : Nat} (hb : b < nB) : mwF tv nB (mR tv nB) N l b + cN nB N ≤ nB ∨ mwF tv nB (mR tv nB) N l b = 0 := by
  unfold mwF
  by_cases c : cnN tv nB N l b = true
  · rw [if_pos c]
    have e := cN_add hb (cn_bit c)
    have l1 := mR_le (tv := tv) (nB := nB) (N ||| 2 ^ b) b
    have l2 : cN nB (N ||| 2 ^ b) ≤ nB * 1 := sE_le (fun k _ => by split <;> omega)
    refine Or.inl ?_
    split <;> omega
  · rw [if_neg c]; exact Or.inr rfl
theorem k85 : (akd 85 = 1 ∧ 8 ≤ aln 85 ∧ aln 85 < 2147483648) ∧ (akd 86 = 1 ∧ 8 ≤ aln 86 ∧ aln 86 < 2147483648) := by decide +kernel
theorem in85 {k : Nat} (hk : k < 8) : inI 85 (nI k) ∧ inI 86 (nI k) := ⟨inI_of k85.1.1 (by have := k85.1.2.1; omega) k85.1.2.2, inI_of k85.2.1 (by have := k85.2.2.1; omega) k85.2.2.2⟩
/-- a row of boxes, one in the next; N the same as bits -/
def NsV (h : Hp) (tv : Nat → Nat → Nat) (nB n : Nat) (sq : Nat → Nat) (N : Nat) : Prop := n ≤ nB ∧ N < 2 ^ nB ∧ cN nB N = n ∧ (∀ t, t < n → h.2.1 85 t = nI (sq t) ∧ sq t < nB) ∧ wB tv nB N = sE (fun t => tv (sq t) 2) n ∧ (1 ≤ n → N.testBit (sq (n - 1)) = true)
def okN (tv : Nat → Nat → Nat) (n : Nat) (sq : Nat → Nat) : Bool := decide (n = 1) || onN tv (sq (n - 2)) (sq (n - 1))
theorem m_canNest {L : Nat} (hE : EOk E) (hL : 3 ≤ L) (M : MdV h nB nT tv pk sn ck) (ht : ∀ b, b < nB → tv b 2 ≤ 99) {n b N : Nat} {sq : Nat → Nat} (V : NsV h tv nB n sq N) (hn : 1 ≤ n) (hb : b < nB) (nb : N.testBit b = false) : RdI E L m_M_canNest 74 [.int (nI n), .int (nI b)] h (if (okN tv n sq && cnN tv nB N (sq (n - 1)) b) = true then 1 else 0) := by
  obtain ⟨v1, v2, v3, v4, v5, v6⟩ := V
  have h8 := M.1.1
  have p9 := pow9 h8
  have tl : ∀ i k, i < 24 → k < 7 → tv i k ≤ 9999 := fun i k hi hk => (M.2.2.1 i k hi hk).2
  have wl := wB_le (B := N) h8 ht
  obtain ⟨l1, l2⟩ := v4 (n - 1) (by omega)
  have win := w_in (tv := tv) l2 (v6 hn)
  have n1 : nI n - 1 = nI (n - 1) := pred1 (by omega)
  refine B_M_canNest hE (by omega) ?_
  rw [n1, nIc (by omega), l1]
  refine ⟨(in85 (by omega)).1, ?_⟩
  have main : ∀ f k, f + k = n → at_M_canNest_15 E L h (fun y h' => y = (if (okN tv n sq && cnN tv nB N (sq (n - 1)) b) = true then 1 else 0) ∧ h' = h) (nI n) (nI b) (nI (sq (n - 1))) (nI (sE (fun t => tv (sq t) 2) k)) (nI k) := by
    intro f
    induction f with
    | zero =>
      intro k hk
      rw [show k = n by omega, ← v5]
      have t1 := tl (sq (n - 1)) 1 (by omega) (by omega)
      have t0 := tl (sq (n - 1)) 0 (by omega) (by omega)
      have t4 := tl b 4 (by omega) (by omega)
      have t6 := tl b 6 (by omega) (by omega)
      have mul : tv b 0 * tv b 5 ≤ 9999 * 9999 := Nat.mul_le_mul (tl b 0 (by omega) (by omega)) (tl b 5 (by omega) (by omega))
      have dl : tv b 0 * tv b 5 / 2 ^ 1 ≤ tv b 0 * tv b 5 := Nat.div_le_self _ _
      have cnE : cnN tv nB N (sq (n - 1)) b = (decide (tv (sq (n - 1)) 1 ≤ tv b 4) && (decide (wB tv nB N ≤ tv b 6) && decide (tv (sq (n - 1)) 0 ≤ tv b 0 * tv b 5 / 2 ^ 1))) := by
        unfold cnN inN
        rw [nb, Bool.not_false, Bool.true_and]
        by_cases c : wB tv nB N ≤ tv b 6
        · rw [decide_eq_true c, decide_eq_true (show tv (sq (n - 1)) 2 ≤ tv b 6 by omega)]; simp
        · rw [decide_eq_false c]; simp
      refine B_M_canNest_15 (brT (nI_le (Nat.le_refl _) (by omega)) ((m_of hE (by omega) M (k := 1) (by omega) (by omega)).use ((m_of hE (by omega) M (k := 4) (by omega) (by omega)).use ?_)))
      rw [nIt (by omega) (by omega), cnE]
      refine ⟨fun q => ⟨?_, rfl⟩, fun q1 => (m_of hE (by omega) M (k := 6) (by omega) (by omega)).use ?_⟩
      · rw [decide_eq_false (show ¬ tv (sq (n - 1)) 1 ≤ tv b 4 by omega), if_neg (by simp)]
      rw [nIt (by omega) (by omega)]
      refine ⟨fun q => ⟨?_, rfl⟩, fun q2 => (m_of hE (by omega) M (k := 0) (by omega) (by omega)).use ((m_of hE (by omega) M (k := 0) (by omega) (by omega)).use ((m_of hE (by omega) M (k := 5) (by omega) (by omega)).use ((m_roomBy hE (by omega) (by omega) (n := 1) (by omega)).use ?_)))⟩
      · rw [decide_eq_false (show ¬ wB tv nB N ≤ tv b 6 by omega), if_neg (by simp)]
      rw [nIl (by omega) (by omega)]
      refine ⟨fun q3 => ?_, fun q => ⟨?_, rfl⟩⟩
      · rw [decide_eq_true (show tv (sq (n - 1)) 1 ≤ tv b 4 by omega), decide_eq_true (show wB tv nB N ≤ tv b 6 by omega), decide_eq_true q3, Bool.true_and, Bool.true_and, Bool.and_true, show (1 : Int32) = nI 1 from rfl, nIe (by omega) (by omega)]
        refine ⟨fun e1 => ⟨?_, rfl⟩, fun e1 => ?_⟩
        · unfold okN; rw [decide_eq_true e1]; rfl
        · have n2 : nI n - 2 = nI (n - 2) := by rw [show (2 : Int32) = nI 2 from rfl, nI_sub (by omega)]
          obtain ⟨m1, m2⟩ := v4 (n - 2) (by omega)
          have s0 := tl (sq (n - 2)) 0 (by omega) (by omega)
          have mul2 : tv (sq (n - 1)) 0 * tv (sq (n - 1)) 5 ≤ 9999 * 9999 := Nat.mul_le_mul (tl _ 0 (by omega) (by omega)) (tl _ 5 (by omega) (by omega))
          have dl2 : tv (sq (n - 1)) 0 * tv (sq (n - 1)) 5 / 2 ^ 2 ≤ tv (sq (n - 1)) 0 * tv (sq (n - 1)) 5 := Nat.div_le_self _ _
          rw [n2, nIc (by omega), m1]
          refine ⟨(in85 (by omega)).1, (m_of hE (by omega) M (k := 0) (by omega) (by omega)).use ((m_of hE (by omega) M (k := 0) (by omega) (by omega)).use ((m_of hE (by omega) M (k := 5) (by omega) (by omega)).use ((m_roomBy hE (by omega) (by omega) (n := 2) (by omega)).use ?_)))⟩
          rw [nIt (by omega) (by omega)]
          refine ⟨fun q => ⟨?_, rfl⟩, fun q => ⟨?_, rfl⟩⟩
          · unfold okN onN; rw [decide_eq_false e1, decide_eq_false (by omega)]; rfl
          · unfold okN onN; rw [decide_eq_false e1, decide_eq_true (by omega)]; rfl
      · rw [decide_eq_false q, if_neg (by simp)]
    | succ f ih =>
      intro k hk
      have ih1 := ih (k + 1) (by omega)
      rw [sE_s _ k] at ih1
      obtain ⟨m1, m2⟩ := v4 k (by omega)
      refine B_M_canNest_15 (brF (nI_ge (by omega) (by omega)) ⟨(in85 (by omega)).1, ?_⟩)
      rw [nIc (by omega), m1]
      refine (m_of hE (by omega) M (k := 2) (by omega) (by omega)).use ?_
      rw [nI_add, nI_1]
      exact ih1
  exact main n 0 (by omega)
def nsPo (tv : Nat → Nat → Nat) (nB n A : Nat) (pt : Nat → Nat) (F : Nat) (h h' : Hp) : Prop := EqO (fun x => x = 74 ∨ x = 85 ∨ x = 86) h h' ∧ (∀ k, k ≠ 28 → h'.1 74 k = h.1 74 k) ∧ (∀ t, t < n → h'.2.1 85 t = h.2.1 85 t) ∧ (F < n + A → h'.1 74 28 = nI (n + A) ∧ (∀ t, t < n → h'.2.1 86 t = h.2.1 85 t) ∧ ∀ t, t < A → h'.2.1 86 (n + t) = nI (pt t)) ∧ (¬ F < n + A → h'.1 74 28 = nI F ∧ h'.2.1 86 = h.2.1 86)
end Nest3
