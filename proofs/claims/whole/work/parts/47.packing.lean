section Pack5
variable {E : EnvX} {L : Nat} {h : Hp} {K : Nat} {nB nT : Nat} {tv : Nat → Nat → Nat} {pk lv sn : Nat → Nat} {ck : Nat}
theorem blm_p {a c kd d : Nat} (ha : 0 < a) : blm (a, c) kd d = (a, c) := by unfold blm; exact if_pos (Nat.ne_of_gt ha)
theorem blm_0 {kd : Nat} {z : Nat × Nat} : blm z kd 0 = z := by unfold blm; split <;> rfl
theorem blm_y {kd c : Nat} (hc : c ≠ 0) : blm (0, 0) kd c = (kd, c) := by unfold blm; rw [if_neg (fun z => z rfl), if_neg hc]
theorem wrg_st {st : Nat} (h : st ≠ 0) : wrg pk tv nB st = (1, st) := by
  unfold wrg
  rw [blm_y h, blm_p (a := 1) (c := st) (by decide), blm_p (a := 1) (c := st) (by decide), blm_p (a := 1) (c := st) (by decide), blm_p (a := 1) (c := st) (by decide)]
theorem FrM.f17 {v : Int32} : FrM h (sI h 74 17 v) := ⟨EqO.sI (Or.inl rfl), (show EqS h (sI h 74 17 v) from EqS.sI).t⟩
theorem m_firstWrong (hE : EOk E) (hL : 8 ≤ L) (M : MdV h nB nT tv pk sn ck) (hp : ∀ i, i < 24 → pk i ≤ nB) : ConI E L m_M_firstWrong 74 [] h (fun y h' => y = bx (wrg pk tv nB 0).2 ∧ FrM h h' ∧ h'.2 = h.2 ∧ h'.1 74 17 = nI (wrg pk tv nB 0).1) := by
  have h8 := M.1.1
  have f17 : ∀ (h0 : Hp) (v : Int32), (sI h0 74 17 v).1 74 17 = v := fun h0 v => by rw [sI_1, if_pos rfl, if_pos rfl]
  refine B_M_firstWrong hE (by omega) (m_fw7 hE (by omega) (h := sI h 74 17 2) M ⟨fun c1 => ?_, fun c1 => ?_⟩)
  · have hA : acy pk := acy_of hp h8 (fun b hb => by
      rcases findF_min (fun b => wi pk (b + 1) 8 (b + 1)) nB 0 with ⟨-, q⟩ | ⟨j, -, -, -, q, -⟩
      · exact q b (Nat.zero_le _) (by omega)
      · unfold fIn at c1; rw [q] at c1; exact absurd c1 (Nat.succ_ne_zero j))
    refine m_fw40 hE (by omega) (h := sI (sI h 74 17 2) 74 17 3) M ⟨fun c2 => ?_, fun c2 => ?_⟩
    · refine m_fw97 hE (by omega) (h := sI (sI (sI h 74 17 2) 74 17 3) 74 17 4) M hA ⟨fun c3 => ?_, fun c3 => ?_⟩
      · refine m_fw137 hE (by omega) (h := sI (sI (sI (sI h 74 17 2) 74 17 3) 74 17 4) 74 17 5) M ⟨fun c4 => ?_, fun c4 => ?_⟩
        · have e : wrg pk tv nB 0 = (0, 0) := by unfold wrg; rw [c1, c2, c3, c4, blm_0, blm_0, blm_0, blm_0, blm_0]
          rw [e]
          exact ⟨rfl, (((FrM.f17.trans FrM.f17).trans FrM.f17).trans FrM.f17).trans FrM.f17, rfl, f17 _ _⟩
        · have e : wrg pk tv nB 0 = (5, fFl pk tv nB) := by unfold wrg; rw [c1, c2, c3, blm_0, blm_0, blm_0, blm_0, blm_y c4]
          rw [e]
          exact ⟨rfl, ((FrM.f17.trans FrM.f17).trans FrM.f17).trans FrM.f17, rfl, f17 _ _⟩
      · have e : wrg pk tv nB 0 = (4, fHv pk tv nB) := by unfold wrg; rw [c1, c2, blm_0, blm_0, blm_0, blm_y c3, blm_p (a := 4) (c := fHv pk tv nB) (by decide)]
        rw [e]
        exact ⟨rfl, (FrM.f17.trans FrM.f17).trans FrM.f17, rfl, f17 _ _⟩
    · have e : wrg pk tv nB 0 = (3, fWd pk tv) := by unfold wrg; rw [c1, blm_0, blm_0, blm_y c2, blm_p (a := 3) (c := fWd pk tv) (by decide), blm_p (a := 3) (c := fWd pk tv) (by decide)]
      rw [e]
      exact ⟨rfl, FrM.f17.trans FrM.f17, rfl, f17 _ _⟩
  · have e : wrg pk tv nB 0 = (2, fIn pk nB) := by unfold wrg; rw [blm_0, blm_y c1, blm_p (a := 2) (c := fIn pk nB) (by decide), blm_p (a := 2) (c := fIn pk nB) (by decide), blm_p (a := 2) (c := fIn pk nB) (by decide)]
    rw [e]
    exact ⟨rfl, FrM.f17, rfl, f17 _ _⟩
theorem pkU_le {ws : Nat → Int64} {k : Nat} (h8 : nB ≤ 8) : ∀ i, i < 24 → pkU nB nT ws k i ≤ nB := fun i _ => by
  unfold pkU
  split
  · by_cases c : cdB nB (ws (plc nB i)) = 0
    · omega
    · obtain ⟨b, hb, -, e⟩ := cdB_yes h8 c; omega
  · omega
theorem x_packRef (hE : EOk E) (hL : 4 ≤ L) {r : Nat} (hr : r < 4) (S : StV h 1 nB nT tv) (R : RowC h r) : RdI E L m_X_packingRefusal 0 [.int (nI r)] h (if h.1 (14 + 2 * r) 2 = -1 then -6 else if h.1 (14 + 2 * r) 2 = nI (nB + nT) then 0 else -7) := by
  obtain ⟨s13, c13⟩ := sh13 hr
  have r1 := x_rowRefusal (h := h) hE (L := L - 1) (by omega) hr
  by_cases c : h.1 (14 + 2 * r) 2 = -1
  · rw [if_pos c] at r1 ⊢
    exact B_X_packingRefusal hE (by omega) (r1.use (brF (by decide) ⟨rfl, rfl⟩))
  · rw [if_neg c] at r1 ⊢
    refine B_X_packingRefusal hE (by omega) (r1.use (brT rfl ⟨in13 hr, ?_⟩))
    rw [nIc (by omega), s13]
    refine (row_many hE (by omega) c13).use ((store_itemCount hE (by omega) S).use ⟨fun d => ?_, fun d => ?_⟩)
    · rw [if_pos d]; exact ⟨rfl, rfl⟩
    · rw [if_neg d]; exact ⟨rfl, rfl⟩
end Pack5
