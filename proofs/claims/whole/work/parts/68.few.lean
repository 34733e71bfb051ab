/-! ===== the reference's few ===== -/
def FwV (h : Hp) (n : Nat) (mem : Nat → Nat) : Prop := h.1 74 19 = nI n ∧ n ≤ 12 ∧ ∀ k, k < n → h.2.1 80 k = nI (mem k) ∧ mem k < 24
section Few
variable {E : EnvX} {L : Nat} {h : Hp} {nB nT : Nat} {tv : Nat → Nat → Nat} {pk lv sn : Nat → Nat} {ck : Nat}
theorem k80 : akd 80 = 1 ∧ 12 ≤ aln 80 ∧ aln 80 < 2147483648 := by decide +kernel
theorem in80 {k : Nat} (hk : k < 12) : inI 80 (nI k) := inI_of k80.1 (by have := k80.2.1; omega) k80.2.2
def flP (pk : Nat → Nat) (fl : Nat) : Nat → Bool := fun i => decide (fl = 0) || decide (pk i = 0)
theorem m_takesFew (hE : EOk E) (hL : 3 ≤ L) (M : MdV h nB nT tv pk sn ck) (v : Int32) {mx fl : Nat} (hmx : mx ≤ 12) (hfl : fl < 2) : ConV E L m_M_takesFew 74 [.int v, .int (nI mx), .int (nI fl)] h (fun h' => EqO (fun q => q = 74 ∨ q = 80) h h' ∧ (∀ k, k ≠ 19 → h'.1 74 k = h.1 74 k) ∧ FwV h' (nF (wS v (flP pk fl)) mx) (itK (wS v (flP pk fl)))) := by
  have wb : ∀ i, 8 ≤ i → wS v (flP pk fl) i = (bO v i && flP pk fl i) := fun i hi => by unfold wS; rw [decide_eq_true hi, Bool.true_and]
  have w8 := wS_8 (v := v) (P := flP pk fl) 8 (Nat.le_refl _)
  generalize wS v (flP pk fl) = W at *
  have nf := nF_le (W := W) (mx := mx)
  refine B_M_takesFew hE (by omega) ?_
  have main : ∀ m i, m + i = 24 → 8 ≤ i → ∀ h1, EqO (fun q => q = 74 ∨ q = 80) h h1 → (∀ k, k ≠ 19 → h1.1 74 k = h.1 74 k) → h1.1 74 19 = nI (if cB W i < mx then cB W i else mx) → (∀ k, k < (if cB W i < mx then cB W i else mx) → h1.2.1 80 k = nI (itK W k)) → at_M_takesFew_9 E L h1 (fun h' => EqO (fun q => q = 74 ∨ q = 80) h h' ∧ (∀ k, k ≠ 19 → h'.1 74 k = h.1 74 k) ∧ FwV h' (nF W mx) (itK W)) v (nI mx) (nI fl) (nI i) := by
    intro m
    induction m with
    | zero =>
      intro i hi i8 h1 e z c a
      rw [show i = 24 by omega] at c a ⊢
      exact B_M_takesFew_9 (brT (nEnd 24) ⟨e, z, c, by omega, fun k hk => ⟨a k hk, (itK_yes (by omega)).1⟩⟩)
    | succ m ih =>
      intro i hi i8 h1 e z c a
      have i24 : i < 24 := by omega
      have cs := cB_s W i
      have cm := cB_mono W (u := i) (v := 24) (by omega)
      refine B_M_takesFew_9 (brF (nG 24 i24) ?_)
      rw [c, nIl (by omega) (by split <;> omega), nI_1]
      by_cases q : cB W i < mx
      · rw [if_pos q] at c a ⊢
        refine brF (by omega) ?_
        have M1 : MdV h1 nB nT tv pk sn ck := MsV_eq M (e 75 (by omega)).2.1
        have skip : W i = false → at_M_takesFew_9 E L h1 (fun h' => EqO (fun q => q = 74 ∨ q = 80) h h' ∧ (∀ k, k ≠ 19 → h'.1 74 k = h.1 74 k) ∧ FwV h' (nF W mx) (itK W)) v (nI mx) (nI fl) (nI (i + 1)) := fun wf => by
          replace cs : cB W (i + 1) = cB W i := by rw [cs, if_neg (by rw [wf]; decide)]; rfl
          exact ih (i + 1) (by omega) (by omega) h1 e z (by rw [cs, if_pos q]; exact c) (by rw [cs, if_pos q]; exact a)
        have take : W i = true → (inI 80 (nI (cB W i)) ∧ at_M_takesFew_9 E L (sI (sA h1 80 (nI (cB W i)).toNatClampNeg (nI i)) 74 19 (((sA h1 80 (nI (cB W i)).toNatClampNeg (nI i)).1 74 19) + 1)) (fun h' => EqO (fun q => q = 74 ∨ q = 80) h h' ∧ (∀ k, k ≠ 19 → h'.1 74 k = h.1 74 k) ∧ FwV h' (nF W mx) (itK W)) v (nI mx) (nI fl) (nI (i + 1))) := fun wt => by
          rw [if_pos wt] at cs
          rw [nIc (by omega), sA_1, c, nI_1]
          refine ⟨in80 (by omega), ih (i + 1) (by omega) (by omega) _ ((e.trans (EqO.sA (F := fun q => q = 74 ∨ q = 80) (Or.inr rfl))).trans (EqO.sI (F := fun q => q = 74 ∨ q = 80) (Or.inl rfl))) (fun k hk => ?_) ?_ (fun k hk => ?_)⟩
          · rw [sI_1, if_pos rfl, if_neg hk]; exact z k hk
          · rw [sI_1, if_pos rfl, if_pos rfl, cs]
            congr 1
            split <;> omega
          · rw [sI_A, sA_A, if_pos rfl]
            by_cases d : k = cB W i
            · rw [if_pos d, d, itK_at i24 wt]
            · rw [if_neg d]
              refine a k ?_
              rw [cs] at hk
              split at hk <;> omega
        have wi' := wb i i8
        by_cases w : bO v i = true
        · rw [w, Bool.true_and] at wi'
          refine brF (bO_tt.mp w) ?_
          rw [nI_z (by omega)]
          refine ⟨fun f0 => ?_, fun f1 => (m_around hE (by omega) M1 i24).use ?_⟩
          · exact take (by rw [wi']; unfold flP; rw [decide_eq_true f0]; rfl)
          · have p8 := M.pk8 i24
            rw [bx_m1 (by omega), c]
            refine ⟨fun p0 => take (by rw [wi']; unfold flP; rw [decide_eq_true p0, Bool.or_true]), fun p0 => skip (by rw [wi']; unfold flP; rw [decide_eq_false f1, decide_eq_false p0]; rfl)⟩
        · have wf : bO v i = false := by simpa using w
          rw [wf, Bool.false_and] at wi'
          exact brT (bO_ft.mp wf) (skip wi')
      · rw [if_neg q] at c a ⊢
        have e1 : nF W mx = mx := if_neg (by omega)
        exact brT (Nat.le_refl _) ⟨e, z, by rw [e1]; exact c, by omega, fun k hk => ⟨a k (by omega), (itK_yes (by omega)).1⟩⟩
  refine main 16 8 (by omega) (by omega) _ (EqO.sI (F := fun q => q = 74 ∨ q = 80) (Or.inl rfl)) (fun k hk => by rw [sI_1, if_pos rfl, if_neg hk]) ?_ (fun k hk => ?_)
  · rw [sI_1, if_pos rfl, if_pos rfl, w8]
    by_cases q : 0 < mx
    · rw [if_pos q]; rfl
    · rw [if_neg q, show mx = 0 by omega]; rfl
  · rw [w8] at hk
    split at hk <;> omega
theorem m_sumOf (hE : EOk E) (hL : 3 ≤ L) (M : MdV h nB nT tv pk sn ck) {n c w : Nat} {mem : Nat → Nat} (F : FwV h n mem) (hc : c < 2 ^ 24) (hw : w < 7) : RdI E L m_M_sumOf 74 [.int (nI c), .int (nI w)] h (nI (sF tv mem w n c)) := by
  obtain ⟨f1, f2, f3⟩ := F
  refine B_M_sumOf hE (by omega) ?_
  refine upto (P := fun k => at_M_sumOf_5 E L h _ (nI c) (nI w) (nI (sF tv mem w k c)) (nI k)) (n := n) ?_ (fun k hk ih => ?_) 0 (by omega)
  · refine B_M_sumOf_5 ?_
    rw [f1]
    exact brT (nI_le (Nat.le_refl _) (by omega)) ⟨rfl, rfl⟩
  · refine B_M_sumOf_5 ?_
    unfold sF at ih ⊢
    rw [sE_s _ k] at ih
    rw [f1, bitN hc (by omega), nI_1, nIc (by omega), (f3 k hk).1, addz]
    refine brF (nI_ge hk (by omega)) ?_
    by_cases b : c.testBit k = true
    · rw [if_pos b] at ih ⊢
      refine brT' rfl ⟨in80 (by omega), (m_of hE (by omega) M (f3 k hk).2 hw).use ?_⟩
      rw [nI_add]; exact ih
    · rw [if_neg b] at ih ⊢
      exact brF' (by decide) ih
theorem m_passes (hE : EOk E) (hL : 3 ≤ L) (M : MdV h nB nT tv pk sn ck) {n c b : Nat} {mem : Nat → Nat} (F : FwV h n mem) (hc : c < 2 ^ 24) (hb : b < 24) : RdI E L m_M_passes 74 [.int (nI c), .int (nI b)] h (if psB tv mem n c (tv b 4) = true then 1 else 0) := by
  obtain ⟨f1, f2, f3⟩ := F
  have t4 := M.2.2.1 b 4 hb (by omega)
  refine B_M_passes hE (by omega) ?_
  have main : ∀ m k, m + k = n → (∀ j, j < k → c.testBit j = true → tv (mem j) 1 ≤ tv b 4) → at_M_passes_2 E L h (fun y h' => y = (if psB tv mem n c (tv b 4) = true then 1 else 0) ∧ h' = h) (nI c) (nI b) (nI k) := by
    intro m
    induction m with
    | zero =>
      intro k hk a
      refine B_M_passes_2 ?_
      rw [f1, show k = n by omega] at *
      exact brT (nI_le (Nat.le_refl _) (by omega)) ⟨by rw [if_pos (psB_iff.mpr a)], rfl⟩
    | succ m ih =>
      intro k hk a
      have t1 := M.2.2.1 (mem k) 1 (f3 k (by omega)).2 (by omega)
      refine B_M_passes_2 ?_
      rw [f1, bitN hc (by omega), nI_1, nIc (by omega), (f3 k (by omega)).1]
      refine brF (nI_ge (by omega) (by omega)) ?_
      by_cases bb : c.testBit k = true
      · rw [if_pos bb]
        refine brT' rfl ⟨in80 (by omega), (m_of hE (by omega) M (k := 1) (f3 k (by omega)).2 (by omega)).use ((m_of hE (by omega) M (k := 4) hb (by omega)).use ?_)⟩
        rw [nIl (by omega) (by omega)]
        refine ⟨fun q => ih (k + 1) (by omega) (fun j hj e => ?_), fun q => ⟨?_, rfl⟩⟩
        · by_cases d : j = k
          · rw [d]; exact q
          · exact a j (by omega) e
        · rw [if_neg (fun z => q (psB_iff.mp z k (by omega) bb))]
      · rw [if_neg bb]
        refine brF' (by decide) (ih (k + 1) (by omega) (fun j hj e => ?_))
        by_cases d : j = k
        · rw [d] at e; exact absurd e bb
        · exact a j (by omega) e
  exact main n 0 (by omega) (fun j hj => absurd hj (Nat.not_lt_zero j))
theorem m_asItems (hE : EOk E) (hL : 2 ≤ L) {n c : Nat} {mem : Nat → Nat} (F : FwV h n mem) (hc : c < 2 ^ 24) {v : Int32} (mv : Mk v (memP mem n c)) : RdI E L m_M_asItems 74 [.int (nI c)] h v := by
  obtain ⟨f1, f2, f3⟩ := F
  refine B_M_asItems hE (by omega) ?_
  refine upto (P := fun k => ∀ u, Mk u (memP mem k c) → at_M_asItems_4 E L h _ (nI c) u (nI k)) (n := n) (fun u mu => ?_) (fun k hk ih u mu => ?_) 0 (by omega) 0 (mk_cong mk_0 (fun i _ => rfl))
  · refine B_M_asItems_4 ?_
    rw [f1]
    exact brT (nI_le (Nat.le_refl _) (by omega)) ⟨mk_eq mu mv, rfl⟩
  · refine B_M_asItems_4 ?_
    rw [f1, bitN hc (by omega), nI_1, nIc (by omega), (f3 k hk).1, orz]
    refine brF (nI_ge hk (by omega)) ?_
    by_cases b : c.testBit k = true
    · rw [if_pos b]
      refine brT' rfl ⟨in80 (by omega), ih _ ?_⟩
      exact mk_cong (mk_or mu (f3 k hk).2) (fun i _ => by rw [memP_s, b, Bool.true_and]; congr 1; exact decide_eq_decide.mpr eq_comm)
    · rw [if_neg b]
      exact brF' (by decide) (ih _ (mk_cong mu (fun i _ => by rw [memP_s, show c.testBit k = false by simpa using b]; simp)))
end Few
