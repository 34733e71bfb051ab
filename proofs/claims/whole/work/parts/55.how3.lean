section How3
variable {E : EnvX} {L : Nat} {h : Hp} {K : Nat} {nB nT : Nat} {tv : Nat → Nat → Nat} {pk lv sn : Nat → Nat} {ck : Nat}
/-- the t-th act -/
def actV (pk : Nat → Nat) (t : Nat) : Nat := 100 * (pk (nxR pk (dnK pk t) - 1) - 1) + (nxR pk (dnK pk t) - 1)
theorem dn_mk {v : Int32} {k : Nat} (mv : Mk v (dnK pk k)) (h0 : nxR pk (dnK pk k) ≠ 0) (h1 : nxR pk (dnK pk k) ≤ 24) : Mk (v ||| ((1 : Int32) <<< (nI (nxR pk (dnK pk k) - 1) &&& 31))) (dnK pk (k + 1)) :=
  mk_cong (mk_or mv (show nxR pk (dnK pk k) - 1 < 24 by omega)) (fun i hi => by
    rw [dnK]
    by_cases c : i = nxR pk (dnK pk k) - 1
    · rw [decide_eq_true c, decide_eq_true (by omega)]
    · rw [decide_eq_false c, decide_eq_false (by omega)])
theorem pk_act (hE : EOk E) (hL : 6 ≤ L) (Y : LyV h 36 pk lv) (hA : acy pk) (v : Int32) : RdI E L m_Packing_act 35 [.int v] h (if 0 ≤ v ∧ v < nI (24 - cnt pk 0) then nI (actV pk v.toNatClampNeg) else -1) := by
  have hc := cnt_le pk 0
  refine B_Packing_act hE (by omega) ⟨fun c => ?_, fun c => (ly_manyPacked hE (by omega) Y).use ⟨fun d => ?_, fun d => ?_⟩⟩
  · rw [if_neg (fun z => by rw [i32_lt] at c; have := i32_le.mp z.1; omega)]; exact ⟨rfl, rfl⟩
  · obtain ⟨t, ht, rfl⟩ := nI_of c
    rw [if_pos ⟨nI_pos' ht, d⟩, nIc ht]
    rw [nIt ht (by omega)] at d
    have t24 : t < 24 := by omega
    rw [packed_eq] at d
    have main : ∀ m k, m + k = t + 1 → ∀ (w : Int32) (x : Int32), Mk w (dnK pk k) → (∀ j, k = j + 1 → x = nI (nxR pk (dnK pk j) - 1)) → at_Packing_act_24 E L h (fun y h' => y = nI (actV pk t) ∧ h' = h) (nI t) w x (nI k) := by
      intro m
      induction m with
      | zero =>
        intro k hk w x mw hx
        have ek : k = t + 1 := by omega
        obtain ⟨-, -, r⟩ := dn_cnt hA t (by omega)
        obtain ⟨r1, r2, r3⟩ := r d
        have r4 := (rdy_iff.mp r3).1
        have p8 := (Y.2.1 (nxR pk (dnK pk t) - 1) (by omega)).2
        rw [hx t ek]
        have b1 := ly_boxOf hE (L := L - 1) (by omega) Y (c := nxR pk (dnK pk t) - 1 + 1) (by omega)
        rw [bx_S, nx_S, bx_pos (by omega)] at b1
        refine B_Packing_act_24 (brT (nI_lt (by omega) (by omega)) (b1.use ⟨?_, rfl⟩))
        rw [show (100 : Int32) = nI 100 from rfl, nI_mul, nI_add]; rfl
      | succ m ih =>
        intro k hk w x mw hx
        obtain ⟨-, -, r⟩ := dn_cnt hA k (by omega)
        obtain ⟨r1, r2, r3⟩ := r (by omega)
        have f1 := pk_firstReady hE (L := L - 1) (by omega) Y mw
        rw [bx_pos (by omega)] at f1
        refine B_Packing_act_24 (brF (nI_nlt (by omega) (by omega)) (f1.use (brF' (nIm1 (by omega)) ?_)))
        rw [nI_1]
        exact ih (k + 1) (by omega) _ _ (dn_mk mw r1 r2) (fun j hj => by rw [show k = j by omega])
    exact main (t + 1) 0 (by omega) 0 (-1) mk_0 (fun j hj => by omega)
  · rw [if_neg (fun z => d z.2)]; exact ⟨rfl, rfl⟩
end How3
