section How2
variable {E : EnvX} {L : Nat} {h : Hp} {K : Nat} {nB nT : Nat} {tv : Nat → Nat → Nat} {pk lv sn : Nat → Nat} {ck : Nat}
def allB (pk : Nat → Nat) (P : Nat → Bool) (i : Nat) : Bool := decide (sE (fun j => if pk j = i + 1 ∧ P j = false then 1 else 0) 24 = 0)
theorem pk_hasAll (hE : EOk E) (hL : 3 ≤ L) (Y : LyV h 36 pk lv) {v : Int32} {P : Nat → Bool} (mv : Mk v P) {i : Nat} (hi : i < 24) : RdI E L m_Packing_hasAllOfIts 35 [.int (nI i), .int v] h (if allB pk P i = true then 1 else 0) := by
  refine B_Packing_hasAllOfIts hE (by omega) ?_
  have main : ∀ m k, m + k = 24 → sE (fun j => if pk j = i + 1 ∧ P j = false then 1 else 0) k = 0 → at_Packing_hasAllOfIts_2 E L h (fun y h' => y = (if allB pk P i = true then 1 else 0) ∧ h' = h) (nI i) v (nI k) := by
    intro m
    induction m with
    | zero =>
      intro k hk hz
      rw [show k = 24 by omega] at hz ⊢
      exact B_Packing_hasAllOfIts_2 (brT (nEnd 24) ⟨by unfold allB; rw [decide_eq_true hz]; rfl, rfl⟩)
    | succ m ih =>
      intro k hk hz
      have hk2 : k < 24 := by omega
      have p8 := (Y.2.1 k hk2).2
      have b1 := ly_boxOf hE (L := L - 1) (by omega) Y (c := k + 1) (by omega)
      rw [bx_S, nx_S] at b1
      refine B_Packing_hasAllOfIts_2 (brF (nG 24 hk2) (b1.use ?_))
      rw [← bx_S i, bx_inj (by omega) (by omega), mk_test mv hk2, nI_1, bx_S]
      refine ⟨fun c => ih (k + 1) (by omega) (by rw [sE_s, hz, if_neg (fun z => c z.1)]), fun c => ?_⟩
      by_cases t : P k = true
      · rw [if_pos t]
        exact brF' (by decide) (ih (k + 1) (by omega) (by rw [sE_s, hz, if_neg (fun z => by rw [t] at z; cases z.2)]))
      · have t2 : P k = false := by simpa using t
        rw [if_neg t]
        refine brT' rfl ⟨?_, rfl⟩
        have ne : ¬ sE (fun j => if pk j = i + 1 ∧ P j = false then 1 else 0) 24 = 0 := fun z => by
          have := sE_z0 z hk2
          rw [if_pos ⟨c, t2⟩] at this
          exact absurd this (by decide)
        unfold allB
        rw [decide_eq_false ne]; rfl
  exact main 24 0 (by omega) rfl
theorem pk_firstReady (hE : EOk E) (hL : 4 ≤ L) (Y : LyV h 36 pk lv) {v : Int32} {P : Nat → Bool} (mv : Mk v P) : RdI E L m_Packing_firstReady 35 [.int v] h (bx (nxR pk P)) := by
  refine B_Packing_firstReady hE (by omega) ?_
  refine find_loop (A := fun k => at_Packing_firstReady_2 E L h _ v (nI k)) (Z := fun c => (bx c = bx (nxR pk P) ∧ h = h)) (p := rdyB pk P) (N := 24) (fun z => ?_) (fun k hk c z => ?_) (fun k hk c ih => ?_) 24 0 (by omega) ⟨rfl, rfl⟩
  · exact B_Packing_firstReady_2 (brT (nEnd 24) z)
  · have p8 := (Y.2.1 k hk).2
    have b1 := ly_boxOf hE (L := L - 1) (by omega) Y (c := k + 1) (by omega)
    rw [bx_S, nx_S] at b1
    rw [bx_S] at z
    have c' := c
    unfold rdyB at c'
    rw [Bool.and_eq_true, Bool.and_eq_true, decide_eq_true_eq, Bool.not_eq_true'] at c'
    obtain ⟨c1, c2, c3⟩ := c'
    have ha := pk_hasAll hE (L := L - 1) (by omega) Y mv hk
    rw [if_pos (show allB pk P k = true from c3)] at ha
    refine B_Packing_firstReady_2 (brF (nG 24 hk) (b1.use ?_))
    rw [bx_m1 (by omega), mk_test mv hk, if_neg (by rw [c2]; decide)]
    exact brF c1 (brT' rfl (ha.use (brF (by decide) z)))
  · have p8 := (Y.2.1 k hk).2
    have b1 := ly_boxOf hE (L := L - 1) (by omega) Y (c := k + 1) (by omega)
    rw [bx_S, nx_S] at b1
    have ha := pk_hasAll hE (L := L - 1) (by omega) Y mv hk
    refine B_Packing_firstReady_2 (brF (nG 24 hk) (b1.use ?_))
    rw [bx_m1 (by omega), mk_test mv hk, nI_1]
    refine ⟨fun _ => ih, fun c1 => ?_⟩
    by_cases t : P k = true
    · rw [if_pos t]; exact brF' (by decide) ih
    · rw [if_neg t]
      refine brT' rfl (ha.use ?_)
      have nb : ¬ allB pk P k = true := fun w => by
        have t2 : P k = false := by simpa using t
        unfold rdyB at c
        rw [decide_eq_true c1, t2, show decide (sE (fun j => if pk j = k + 1 ∧ P j = false then 1 else 0) 24 = 0) = true from w] at c
        cases c
      rw [if_neg nb]
      exact brT rfl ih
end How2
