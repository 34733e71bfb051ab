/-! ===== public methods, one by one: what each answers on both sides ===== -/
section Pub1
variable {E : EnvX} {L : Nat} {h : Hp} {K : Nat}
theorem eq_fault (hE : EOk E) (hL : 20 ≤ L) (I : Inv h K) (hK : K + 60 ≤ 100000) (v : Int32) : Same E L m_X_fault m_M_fault [.int v] h K := by
  have F := I.2.2.2.2.1
  refine same_rd (x := if v = 0 then h.1 74 13 else if v = 1 then h.1 74 14 else -1) I hK (RdX.of I.2.2.2.2.2.2 ?_) (fun h1 e I1 => ?_)
  · refine B_X_fault hE (by omega) ⟨fun c => ⟨fun c2 => ?_, fun c2 => ?_⟩, fun c => ?_⟩
    · rw [if_neg c, if_neg c2]; exact ⟨rfl, rfl⟩
    · rw [if_neg c, if_pos c2]; exact (show RdI E (L - 1) m_Reader_faultPlace 9 [] h (h.1 9 5) from B_Reader_faultPlace hE (by omega) ⟨rfl, rfl⟩).use ⟨F.2, rfl⟩
    · rw [if_pos c]; exact (show RdI E (L - 1) m_Reader_faultKind 9 [] h (h.1 9 4) from B_Reader_faultKind hE (by omega) ⟨rfl, rfl⟩).use ⟨F.1, rfl⟩
  · refine B_M_fault hE (by omega) ⟨fun c => ⟨fun c2 => ?_, fun c2 => ?_⟩, fun c => ?_⟩
    · rw [if_neg c, if_neg c2]; exact ⟨rfl, thr_eq _, I1.2.2.2.2.2.2⟩
    · rw [if_neg c, if_pos c2]; exact ⟨by rw [← e.f 74 14]; rfl, thr_eq _, I1.2.2.2.2.2.2⟩
    · rw [if_pos c]; exact ⟨by rw [← e.f 74 13]; rfl, thr_eq _, I1.2.2.2.2.2.2⟩
theorem eq_item (hE : EOk E) (hL : 20 ≤ L) (I : Inv h K) (hK : K + 60 ≤ 100000) (v w : Int32) : Same E L m_X_item m_M_item [.int v, .int w] h K := by
  obtain ⟨nB, nT, tv, pk, lv, sn, ck, hck, C⟩ := I.2.1
  have S := C.1
  have h8 := S.2.2.2.1
  have h16 := S.2.2.2.2.1
  by_cases hv : ∃ i, isIt nB nT i ∧ v = nI i
  · obtain ⟨i, hi, rfl⟩ := hv
    have hi24 : i < 24 := by rcases hi with q | q <;> omega
    by_cases hw : ∃ k, k < 7 ∧ w = nI k
    · obtain ⟨k, hk, rfl⟩ := hw
      refine same_rd (x := nI (tv i k)) I hK (RdX.of I.2.2.2.2.2.2 ?_) (fun h1 e I1 => ?_)
      · refine B_X_item hE (by omega) ?_
        rw [nI_l (by omega)]
        exact (hasItem_yes hE (by omega) S hi).use (brF (by decide) (brF (nIneg (by omega)) (brT (nLt 7 hk) ((store_told hE (by omega) S hi24 hk).use ⟨rfl, rfl⟩))))
      · have M := (C.keep e).2.2.1
        refine B_M_item hE (by omega) ?_
        rw [nI_l (by omega)]
        exact (m_isItem_yes (h := sI h1 74 0 0) hE (by omega) M hi).use (brF (by decide) ((m_w_yes (a := 0) (b := 6) hE (by omega) (by omega) (by omega) (by omega)).use (brF (by decide) ((m_of (h := sI h1 74 0 0) hE (by omega) M hi24 hk).use ⟨rfl, thr_eq _, I1.2.2.2.2.2.2⟩))))
    · have hw2 := not_small (n := 7) (by omega) hw
      refine same_rd (x := -2) I hK (RdX.of I.2.2.2.2.2.2 ?_) (fun h1 e I1 => ?_)
      · refine B_X_item hE (by omega) ?_
        rw [nI_l (by omega)]
        refine (hasItem_yes hE (by omega) S hi).use (brF (by decide) ⟨fun _ => ⟨rfl, rfl⟩, fun c => brF (fun c2 => ?_) ⟨rfl, rfl⟩⟩)
        have := hw2.resolve_left c
        rw [i32_le] at this; rw [i32_lt] at c2
        have e7 : (7 : Int32) = nI 7 := rfl
        rw [e7] at c2; omega
      · have M := (C.keep e).2.2.1
        refine B_M_item hE (by omega) ?_
        rw [nI_l (by omega)]
        exact (m_isItem_yes (h := sI h1 74 0 0) hE (by omega) M hi).use (brF (by decide) ((m_w_no (a := 0) (b := 6) hE (by omega) (by omega) (by omega) (fun z => hw (by obtain ⟨k, -, q, r⟩ := z; exact ⟨k, by omega, r⟩))).use (brT rfl ⟨rfl, thr_eq _, I1.2.2.2.2.2.2⟩)))
  · refine same_rd (x := -2) I hK (RdX.of I.2.2.2.2.2.2 ?_) (fun h1 e I1 => ?_)
    · exact B_X_item hE (by omega) ((hasItem_no hE (by omega) S (noItem h8 h16 hv)).use (brT rfl ⟨rfl, rfl⟩))
    · have M := (C.keep e).2.2.1
      exact B_M_item hE (by omega) ((m_isItem_no (h := sI h1 74 0 0) hE (by omega) M (noItem h8 h16 hv)).use (brT rfl ⟨rfl, thr_eq _, I1.2.2.2.2.2.2⟩))
theorem eq_lies (hE : EOk E) (hL : 20 ≤ L) (I : Inv h K) (hK : K + 60 ≤ 100000) (v w : Int32) : Same E L m_X_lies m_M_lies [.int v, .int w] h K := by
  obtain ⟨nB, nT, tv, pk, lv, sn, ck, hck, C⟩ := I.2.1
  have S := C.1
  have Y := C.2.1
  have hA := C.2.2.2.1
  have hO := C.2.2.2.2.1
  have h8 := S.2.2.2.1
  have h16 := S.2.2.2.2.1
  by_cases hv : ∃ i, isIt nB nT i ∧ v = nI i
  · obtain ⟨i, hi, rfl⟩ := hv
    have hi24 : i < 24 := by rcases hi with q | q <;> omega
    have b1 := ly_boxOf hE (L := L - 1) (by omega) Y (c := i + 1) (by omega)
    have l1 := ly_liftings hE (L := L - 1) (by omega) Y (c := i + 1) (by omega) 0
    have a1 := ly_around hE (L := L - 1) (by omega) Y (c := i + 1) (by omega)
    rw [bx_S] at b1 l1 a1
    rw [nx_S] at b1
    by_cases hw : ∃ k, k < 4 ∧ w = nI k
    · obtain ⟨k, hk, rfl⟩ := hw
      have hx : ∀ x : Int32, (k = 0 → x = bx (pk i)) → (k = 1 → x = nI (lft pk lv (bO 0) 9 (i + 1))) → (k = 2 → x = nI (hft pk tv nB i)) → (k = 3 → x = nI (dpt pk 9 (i + 1))) → Same E L m_X_lies m_M_lies [.int (nI i), .int (nI k)] h K := by
        intro x x0 x1 x2 x3
        refine same_rd (x := x) I hK (RdX.of I.2.2.2.2.2.2 ?_) (fun h1 e I1 => ?_)
        · refine B_X_lies hE (by omega) ?_
          rw [nI_l (by omega)]
          refine (hasItem_yes hE (by omega) S hi).use (brF' (by decide) ?_)
          rw [nIe (by omega) (by omega), nIe (by omega) (by omega), nIe (by omega) (by omega), nIe (by omega) (by omega)]
          refine ⟨fun q => b1.use ⟨(x0 q).symm, rfl⟩, fun q => l1.use ⟨(x1 q).symm, rfl⟩, fun q => (ly_heftOf hE (by omega) Y S hi24).use ⟨(x2 q).symm, rfl⟩, fun q => a1.use ⟨(x3 q).symm, rfl⟩, fun q => ?_⟩
          rcases q with q | q
          · exact absurd q (nIneg (by omega))
          · exact absurd q (nI_ge hk (by omega))
        · have M := (C.keep e).2.2.1
          refine B_M_lies hE (by omega) ?_
          rw [nI_l (by omega)]
          refine (m_isItem_yes (h := sI h1 74 0 0) hE (by omega) M hi).use (brF (by decide) ((m_w_yes (a := 0) (b := 3) hE (by omega) (by omega) (by omega) (by omega)).use (brF' (by decide) ?_)))
          rw [nI_z (by omega), show (1 : Int32) = nI 1 from rfl, show (2 : Int32) = nI 2 from rfl, nIe (by omega) (by omega), nIe (by omega) (by omega)]
          exact ⟨fun q0 => ⟨fun q1 => ⟨fun q2 => (m_depthOf (h := sI h1 74 0 0) hE (by omega) M hA hi24).use ⟨(x3 (by omega)).symm, thr_eq _, I1.2.2.2.2.2.2⟩, fun q2 => (m_heftOf (h := sI h1 74 0 0) hE (by omega) M hA hi).use ⟨(x2 q2).symm, thr_eq _, I1.2.2.2.2.2.2⟩⟩, fun q1 => (m_over (h := sI h1 74 0 0) hE (by omega) M hA hO hi24).use ⟨(x1 q1).symm, thr_eq _, I1.2.2.2.2.2.2⟩⟩, fun q0 => (m_around (h := sI h1 74 0 0) hE (by omega) M hi24).use ⟨(x0 q0).symm, thr_eq _, I1.2.2.2.2.2.2⟩⟩
      rcases (show k = 0 ∨ k = 1 ∨ k = 2 ∨ k = 3 by omega) with rfl | rfl | rfl | rfl
      · exact hx _ (fun _ => rfl) (fun q => by omega) (fun q => by omega) (fun q => by omega)
      · exact hx _ (fun q => by omega) (fun _ => rfl) (fun q => by omega) (fun q => by omega)
      · exact hx _ (fun q => by omega) (fun q => by omega) (fun _ => rfl) (fun q => by omega)
      · exact hx _ (fun q => by omega) (fun q => by omega) (fun q => by omega) (fun _ => rfl)
    · have hw2 := not_small (n := 4) (by omega) hw
      refine same_rd (x := -2) I hK (RdX.of I.2.2.2.2.2.2 ?_) (fun h1 e I1 => ?_)
      · refine B_X_lies hE (by omega) ?_
        rw [nI_l (by omega)]
        exact (hasItem_yes hE (by omega) S hi).use (brF' (by decide) ⟨fun q => absurd q (no_eq hw2 (by omega) (by omega)), fun q => absurd q (no_eq hw2 (by omega) (by omega)), fun q => absurd q (no_eq hw2 (by omega) (by omega)), fun q => absurd q (no_eq hw2 (by omega) (by omega)), fun _ => ⟨rfl, rfl⟩⟩)
      · have M := (C.keep e).2.2.1
        refine B_M_lies hE (by omega) ?_
        rw [nI_l (by omega)]
        exact (m_isItem_yes (h := sI h1 74 0 0) hE (by omega) M hi).use (brF (by decide) ((m_w_no (a := 0) (b := 3) hE (by omega) (by omega) (by omega) (fun z => hw (by obtain ⟨k, -, q, r⟩ := z; exact ⟨k, by omega, r⟩))).use (brT' rfl ⟨rfl, thr_eq _, I1.2.2.2.2.2.2⟩)))
  · refine same_rd (x := -2) I hK (RdX.of I.2.2.2.2.2.2 ?_) (fun h1 e I1 => ?_)
    · exact B_X_lies hE (by omega) ((hasItem_no hE (by omega) S (noItem h8 h16 hv)).use (brT' rfl ⟨rfl, rfl⟩))
    · have M := (C.keep e).2.2.1
      exact B_M_lies hE (by omega) ((m_isItem_no (h := sI h1 74 0 0) hE (by omega) M (noItem h8 h16 hv)).use (brT rfl ⟨rfl, thr_eq _, I1.2.2.2.2.2.2⟩))
end Pub1
