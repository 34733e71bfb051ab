/-! ===== how ===== -/
def rdyB (pk : Nat → Nat) (P : Nat → Bool) (i : Nat) : Bool := decide (pk i ≠ 0) && (!(P i) && decide (sE (fun j => if pk j = i + 1 ∧ P j = false then 1 else 0) 24 = 0))
def nxR (pk : Nat → Nat) (P : Nat → Bool) : Nat := findF (rdyB pk P) 24 0
def dnK (pk : Nat → Nat) : Nat → Nat → Bool
  | 0, _ => false
  | k + 1, i => dnK pk k i || decide (i + 1 = nxR pk (dnK pk k))
theorem sE_pos {f : Nat → Nat} : ∀ {n : Nat}, sE f n ≠ 0 → ∃ i, i < n ∧ f i ≠ 0
  | 0, h => absurd rfl h
  | n + 1, h => by
    by_cases c : f n = 0
    · rw [sE_s, c] at h
      obtain ⟨i, hi, q⟩ := sE_pos (n := n) h
      exact ⟨i, by omega, q⟩
    · exact ⟨n, by omega, c⟩
theorem rdy_iff {pk : Nat → Nat} {P : Nat → Bool} {i : Nat} : rdyB pk P i = true ↔ pk i ≠ 0 ∧ P i = false ∧ ∀ j, j < 24 → pk j = i + 1 → P j = true := by
  unfold rdyB
  rw [Bool.and_eq_true, Bool.and_eq_true, decide_eq_true_eq, decide_eq_true_eq, Bool.not_eq_true']
  refine ⟨fun ⟨a, b, c⟩ => ⟨a, b, fun j hj e => ?_⟩, fun ⟨a, b, c⟩ => ⟨a, b, sE_zero (n := 24) (fun j hj => ?_)⟩⟩
  · have := sE_z0 c hj
    refine Classical.byContradiction fun z => ?_
    rw [if_pos ⟨e, by simpa using z⟩] at this
    exact absurd this (by decide)
  · rw [if_neg (fun z => by rw [c j hj z.1] at z; cases z.2)]
/-- while something packed is not done, something is ready -/
theorem rdy_some {pk : Nat → Nat} (hA : acy pk) {P : Nat → Bool} : ∀ (n i : Nat), i < 24 → pk i ≠ 0 → P i = false → 9 ≤ n + dpt pk 9 (i + 1) → ∃ j, j < 24 ∧ rdyB pk P j = true := by
  intro n
  induction n with
  | zero =>
    intro i hi h0 hq hd
    have h1 := dpt_full pk 9 (i + 1)
    have h2 := dpt_le pk 9 (i + 1)
    exact absurd (hA (i + 1) (by omega)) ((h1.mp (by omega)).resolve_left (by omega))
  | succ n ih =>
    intro i hi h0 hq hd
    by_cases c : rdyB pk P i = true
    · exact ⟨i, hi, c⟩
    · have hx : ∃ j, j < 24 ∧ pk j = i + 1 ∧ P j = false := Classical.byContradiction fun z => c (rdy_iff.mpr ⟨h0, hq, fun j hj e => Classical.byContradiction fun w => z ⟨j, hj, e, by simpa using w⟩⟩)
      obtain ⟨j, hj, e, q⟩ := hx
      have hd2 := dpt_rec hA (c := j + 1) (by omega)
      rw [nx_S, e, if_neg (Nat.succ_ne_zero i)] at hd2
      exact ih j hj (by rw [e]; exact Nat.succ_ne_zero i) q (by omega)
theorem dn_cnt {pk : Nat → Nat} (hA : acy pk) : ∀ k, k ≤ sE (fun i => if pk i = 0 then 0 else 1) 24 → (∀ i, i < 24 → dnK pk k i = true → pk i ≠ 0) ∧ sE (fun i => if dnK pk k i = true then 1 else 0) 24 = k ∧ (k < sE (fun i => if pk i = 0 then 0 else 1) 24 → nxR pk (dnK pk k) ≠ 0 ∧ nxR pk (dnK pk k) ≤ 24 ∧ rdyB pk (dnK pk k) (nxR pk (dnK pk k) - 1) = true)
  | 0, h => by
    have nx0 : 0 < sE (fun i => if pk i = 0 then 0 else 1) 24 → nxR pk (dnK pk 0) ≠ 0 ∧ nxR pk (dnK pk 0) ≤ 24 ∧ rdyB pk (dnK pk 0) (nxR pk (dnK pk 0) - 1) = true := fun hp => by
      obtain ⟨i, hi, q⟩ := sE_pos (n := 24) (Nat.ne_of_gt hp)
      have h0 : pk i ≠ 0 := fun z => q (if_pos z)
      obtain ⟨j, hj, r⟩ := rdy_some hA (P := dnK pk 0) 9 i hi h0 rfl (Nat.le_add_right _ _)
      rcases findF_min (rdyB pk (dnK pk 0)) 24 0 with ⟨-, w⟩ | ⟨x, -, x2, x3, x4, -⟩
      · rw [w j (Nat.zero_le _) (by omega)] at r; cases r
      · unfold nxR; rw [x4, Nat.add_sub_cancel]; exact ⟨Nat.succ_ne_zero x, by omega, x3⟩
    exact ⟨fun i _ (z : false = true) => absurd z (by decide), sE_zero (n := 24) (fun _ _ => rfl), nx0⟩
  | k + 1, h => by
    obtain ⟨a, b, c⟩ := dn_cnt hA k (by omega)
    obtain ⟨c1, c2, c3⟩ := c (by omega)
    obtain ⟨r1, r2, -⟩ := rdy_iff.mp c3
    have a' : ∀ i, i < 24 → dnK pk (k + 1) i = true → pk i ≠ 0 := fun i hi z => by
      rw [dnK, Bool.or_eq_true, decide_eq_true_eq] at z
      rcases z with z | z
      · exact a i hi z
      · rw [show i = nxR pk (dnK pk k) - 1 by omega]; exact r1
    have b' : sE (fun i => if dnK pk (k + 1) i = true then 1 else 0) 24 = k + 1 := by
      have h1 : sE (fun i => if i = nxR pk (dnK pk k) - 1 then 1 else (if dnK pk k i = true then 1 else 0)) 24 + (if dnK pk k (nxR pk (dnK pk k) - 1) = true then 1 else 0) = sE (fun i => if dnK pk k i = true then 1 else 0) 24 + 1 := sE_upd (fun i => if dnK pk k i = true then 1 else 0) 1 (by omega)
      rw [if_neg (by rw [r2]; decide), Nat.add_zero, b] at h1
      refine Eq.trans (sE_cong (n := 24) (fun i hi => ?_)) h1
      by_cases d : i = nxR pk (dnK pk k) - 1
      · rw [if_pos d, if_pos (by rw [dnK, Bool.or_eq_true, decide_eq_true_eq]; right; omega)]
      · rw [if_neg d]
        have : dnK pk (k + 1) i = dnK pk k i := by rw [dnK, decide_eq_false (by omega), Bool.or_false]
        rw [this]
    refine ⟨a', b', fun hlt => ?_⟩
    have hx : ∃ i, i < 24 ∧ pk i ≠ 0 ∧ dnK pk (k + 1) i = false := Classical.byContradiction fun z => by
      have : sE (fun i => if pk i = 0 then 0 else 1) 24 ≤ sE (fun i => if dnK pk (k + 1) i = true then 1 else 0) 24 := sE_mon (fun i hi => by
        by_cases e : pk i = 0
        · rw [if_pos e]; exact Nat.zero_le _
        · rw [if_neg e, if_pos (Classical.byContradiction fun w => z ⟨i, hi, e, by simpa using w⟩)]; exact Nat.le_refl _)
      omega
    obtain ⟨i, hi, h0, hq⟩ := hx
    obtain ⟨j, hj, r⟩ := rdy_some hA (P := dnK pk (k + 1)) 9 i hi h0 hq (Nat.le_add_right _ _)
    rcases findF_min (rdyB pk (dnK pk (k + 1))) 24 0 with ⟨-, w⟩ | ⟨x, -, x2, x3, x4, -⟩
    · rw [w j (Nat.zero_le _) (by omega)] at r; cases r
    · unfold nxR; rw [x4, Nat.add_sub_cancel]; exact ⟨Nat.succ_ne_zero x, by omega, x3⟩
