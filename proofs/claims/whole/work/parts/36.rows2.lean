section RowsT
variable {E : EnvX} {L : Nat} {h : Hp} {K : Nat} {nB nT : Nat} {tv : Nat → Nat → Nat} {pk lv sn : Nat → Nat} {ck : Nat}
theorem m_itemMany (hE : EOk E) (hL : 1 ≤ L) (M : MdV h nB nT tv pk sn ck) : RdI E L m_M_itemMany 74 [] h (nI (nB + nT)) := by
  refine B_M_itemMany hE hL ⟨in75 (k := 0) (by omega), in75 (k := 1) (by omega), ?_⟩
  rw [show (0 : Int32).toNatClampNeg = 0 from rfl, show (1 : Int32).toNatClampNeg = 1 from rfl, M.2.1.1, show h.2.1 75 1 = nI nT from M.2.1.2.1, nI_add]
  exact ⟨rfl, rfl⟩
theorem m_itemAt (hE : EOk E) (hL : 1 ≤ L) (M : MdV h nB nT tv pk sn ck) {k : Nat} (hk : k < 1000) : RdI E L m_M_itemAt 74 [.int (nI k)] h (nI (if k < nB then k else 8 + k - nB)) := by
  have h8 := M.1.1
  refine B_M_itemAt hE hL ⟨in75 (k := 0) (by omega), ?_⟩
  rw [show (0 : Int32).toNatClampNeg = 0 from rfl, M.2.1.1, nIl (by omega) (by omega)]
  refine ⟨fun c => ⟨in75 (k := 0) (by omega), ?_⟩, fun c => ?_⟩
  · rw [if_neg (by omega), show (8 : Int32) = nI 8 from rfl, nI_add, nI_sub (by omega)]; exact ⟨rfl, rfl⟩
  · rw [if_pos (by omega)]; exact ⟨rfl, rfl⟩
theorem cut_bx {c s : Nat} (hc : c ≤ 8) (hs : s ≤ 3) : cutF (nI s) (bx c).toInt64 = (bx c).toInt64 :=
  (show ∀ c, c < 9 → ∀ s, s < 4 → cutF (nI s) (bx c).toInt64 = (bx c).toInt64 by decide) c (by omega) s (by omega)
def itA (nB k : Nat) : Nat := if k < nB then k else 8 + k - nB
theorem itA_lt {nB nT k : Nat} (h8 : nB ≤ 8) (h16 : nT ≤ 16) (hk : k < nB + nT) : itA nB k < 24 := by
  unfold itA; split <;> omega
theorem eq_copy (hE : EOk E) (hL : 20 ≤ L) (I : Inv h K) (hK : K + 60 ≤ 100000) (u : Int32) : Same E L m_X_copy m_M_copy [.int u] h K := by
  obtain ⟨nB, nT, tv, pk, lv, sn, ck, hck, C⟩ := I.2.1
  have h8 := C.1.2.2.2.1
  have h16 := C.1.2.2.2.2.1
  have fin : Inv (sI h 74 0 0) (K + 60) := I.keep (thr_eq h) I.2.2.2.2.2.2 (by omega) hK
  by_cases hu : ∃ r, r < 4 ∧ u = nI r
  · obtain ⟨r, hr, rfl⟩ := hu
    obtain ⟨s13, c13⟩ := sh13 hr
    have w1 : ∀ h1 : Hp, RdI E (L - 1) m_M_within 0 [.long (nI r).toInt64, .long 0, .long 3] (sI h1 74 0 0) 1 := fun h1 => m_w_yes (a := 0) (b := 3) hE (by omega) (by omega) (by omega) (by omega)
    rcases I.2.2.1 r hr with ⟨q1, q2⟩ | ⟨n, s, q1, q2, q3, q4, q5, q6, q7⟩
    · have r1 := x_rowRefusal (h := h) hE (L := L - 1) (by omega) hr
      rw [if_pos q1] at r1
      refine B_X_copy hE (by omega) (r1.use (brF (by decide) ?_))
      refine B_M_copy hE (by omega) ((w1 h).use (brF' (by decide) ⟨in93 hr, ?_⟩))
      rw [nIc (by omega)]
      exact brT' q2 ⟨rfl, fin⟩
    · have r1 := x_rowRefusal (h := h) hE (L := L - 1) (by omega) hr
      rw [if_neg (by rw [q3]; exact nIm1 (by omega))] at r1
      have ps : ¬ (h.2.1 93 r) = -1 := by rw [q5]; exact nIm1 (by omega)
      have m1 := row_many (h := h) hE (L := L - 1) (by omega) c13
      rw [q3] at m1
      refine B_X_copy hE (by omega) (r1.use (brT rfl ((store_itemCount hE (by omega) C.1).use ⟨in13 hr, ?_⟩)))
      rw [nIc (by omega), s13]
      refine m1.use ?_
      rw [nIl (by omega) (by omega)]
      refine ⟨fun c => ?_, fun c => ?_⟩
      · -- both loops
        have keyM : ∀ h1 : Hp, FrX r h h1 → (∀ j, j < nB + nT → h1.2.2 (15 + 2 * r) j = (bx (pk (itA nB j))).toInt64) → (∀ j, nB + nT ≤ j → h1.2.2 (15 + 2 * r) j = h.2.2 (15 + 2 * r) j) → h1.1 = h.1 → ConI E L m_M_copy 74 [.int (nI r)] h1 (fun y2 h2 => nI (nB + nT) = y2 ∧ Inv h2 (K + 60)) := by
          intro h1 e1 a1 a2 a3
          have M1 : MdV h1 nB nT tv pk sn ck := MsV_eq C.2.2.1 (e1 75 (by omega)).2.1
          refine B_M_copy hE (by omega) ((w1 h1).use (brF' (by decide) ⟨in93 hr, ?_⟩))
          rw [nIc (by omega), show (sI h1 74 0 0).2.1 93 r = h.2.1 93 r by rw [sI_A, (e1 93 (by omega)).2.1], show (sI h1 74 0 0).2.1 94 r = nI n by rw [sI_A, (e1 94 (by omega)).2.1]; exact q6]
          refine brF' ps ⟨in94 hr, (m_itemMany (h := sI h1 74 0 0) hE (by omega) M1).use ?_⟩
          rw [nIl (by omega) (by omega)]
          refine brT c ?_
          have loop : ∀ m k, m + k = nB + nT → ∀ h2, FrQ r h1 h2 → h2.2.1 = h1.2.1 → (∀ j, j < k → h2.2.2 95 (40 * r + j) = (bx (pk (itA nB j))).toInt64) → (∀ j, k ≤ j → j < 40 → h2.2.2 95 (40 * r + j) = h.2.2 95 (40 * r + j)) → at_M_copy_51 E L h2 (fun y2 h2 => nI (nB + nT) = y2 ∧ Inv h2 (K + 60)) (nI r) (nI k) := by
            intro m
            induction m with
            | zero =>
              intro k hk h2 f2 b1 b2 b3
              have M2 : MdV h2 nB nT tv pk sn ck := MsV_eq M1 (by rw [b1])
              refine B_M_copy_51 ((m_itemMany hE (by omega) M2).use (brT (nI_le (by omega) (by omega)) ((m_itemMany hE (by omega) M2).use ⟨rfl, ?_⟩)))
              have g1 := f2.1 (14 + 2 * r) (by omega)
              have g2 := f2.1 (15 + 2 * r) (by omega)
              refine inv_rows I hr e1 f2 (Or.inr ⟨n, s, q1, q2, by rw [g1.1, a3]; exact q3, by rw [g1.1, a3]; exact q4, by rw [b1, (e1 93 (by omega)).2.1]; exact q5, by rw [b1, (e1 94 (by omega)).2.1]; exact q6, fun j hj => ?_⟩) (by omega) hK
              rw [g2.2.2]
              rcases Nat.lt_or_ge j k with z | z
              · rw [b2 j z, a1 j (by omega)]
              · rw [b3 j z (by omega), a2 j (by omega)]; exact q7 j hj
            | succ m ih =>
              intro k hk h2 f2 b1 b2 b3
              have M2 : MdV h2 nB nT tv pk sn ck := MsV_eq M1 (by rw [b1])
              have hit := itA_lt h8 h16 (show k < nB + nT by omega)
              refine B_M_copy_51 ((m_itemMany hE (by omega) M2).use (brF (nI_ge (by omega) (by omega)) ((m_itemAt hE (by omega) M2 (by omega)).use ((m_around hE (by omega) M2 (i := itA nB k) hit).use ?_))))
              rw [show (40 : Int32) = nI 40 from rfl, nI_mul, nI_add, nIc (by omega), nI_1]
              refine ⟨in95 (by omega), ih (k + 1) (by omega) _ (f2.trans (FrQ.s95 (by omega))) b1 (fun j hj => ?_) (fun j hj hj2 => ?_)⟩
              · rw [sL_L, if_pos rfl]
                by_cases e : j = k
                · rw [if_pos (by omega), e]
                · rw [if_neg (by omega)]; exact b2 j (by omega)
              · rw [sL_L, if_pos rfl, if_neg (by omega)]; exact b3 j (by omega) hj2
          refine loop (nB + nT) 0 (by omega) _ FrQ.thr rfl (fun j hj => absurd hj (Nat.not_lt_zero j)) (fun j _ _ => ?_)
          show h1.2.2 95 (40 * r + j) = _
          rw [(e1 95 (by omega)).2.2]
        have loopX : ∀ m k, m + k = nB + nT → ∀ h1, FrX r h h1 → h1.1 = h.1 → (∀ j, j < k → h1.2.2 (15 + 2 * r) j = (bx (pk (itA nB j))).toInt64) → (∀ j, k ≤ j → h1.2.2 (15 + 2 * r) j = h.2.2 (15 + 2 * r) j) → at_X_copy_39 E L h1 (fun y1 h1 => ConI E L m_M_copy 74 [.int (nI r)] h1 (fun y2 h2 => y1 = y2 ∧ Inv h2 (K + 60))) (nI r) (nI (nB + nT)) (nI k) := by
          intro m
          induction m with
          | zero =>
            intro k hk h1 e1 a3 a1 a2
            exact B_X_copy_39 (brT (nI_le (by omega) (by omega)) (keyM h1 e1 (fun j hj => a1 j (by omega)) (fun j hj => a2 j (by omega)) a3))
          | succ m ih =>
            intro k hk h1 e1 a3 a1 a2
            have S1 : StV h1 1 nB nT tv := C.1.keep e1 (by omega) (by omega)
            have Y1 : LyV h1 3 pk lv := C.2.1.keep e1 (by omega) (by omega)
            have hit := itA_lt h8 h16 (show k < nB + nT by omega)
            have b1 := ly_boxOf hE (L := L - 1) (by omega) Y1 (c := itA nB k + 1) (by omega)
            rw [bx_S, nx_S] at b1
            have st := row_set (h := h1) hE (L := L - 1) (by omega) c13 (n := n) (s := s) (k := k) (by rw [a3]; exact q3) q1 (by rw [a3]; exact q4) q2 (by omega) (bx (pk (itA nB k))).toInt64
            rw [cut_bx (C.2.2.1.pk8 hit) q2] at st
            refine B_X_copy_39 (brF (nI_ge (by omega) (by omega)) ⟨in13 hr, (store_itemAt hE (by omega) S1 (by omega)).use (b1.use ?_)⟩)
            rw [nIc (by omega), s13, nI_1]
            refine st.use (ih (k + 1) (by omega) _ (e1.trans (EqO.sL (by omega))) a3 (fun j hj => ?_) (fun j hj => ?_))
            · rw [sL_L, if_pos (show 15 + 2 * r = 14 + 2 * r + 1 by omega)]
              by_cases e : j = k
              · rw [if_pos e, e]
              · rw [if_neg e]; exact a1 j (by omega)
            · rw [sL_L, if_pos (show 15 + 2 * r = 14 + 2 * r + 1 by omega), if_neg (by omega)]; exact a2 j (by omega)
        exact loopX (nB + nT) 0 (by omega) h EqO.rfl' rfl (fun j hj => absurd hj (Nat.not_lt_zero j)) (fun j _ => rfl)
      · refine B_M_copy hE (by omega) ((w1 h).use (brF' (by decide) ⟨in93 hr, ?_⟩))
        rw [nIc (by omega), show (sI h 74 0 0).2.1 94 r = nI n from q6]
        refine brF' ps ⟨in94 hr, (m_itemMany (h := sI h 74 0 0) hE (by omega) C.2.2.1).use ?_⟩
        rw [nIl (by omega) (by omega)]
        exact brF c ⟨rfl, fin⟩
  · refine B_X_copy hE (by omega) ((x_rowRefusal_no hE (by omega) hu).use (brF (by decide) ?_))
    exact B_M_copy hE (by omega) ((m_w_no (a := 0) (b := 3) hE (by omega) (by omega) (by omega) (w3 hu)).use (brT' rfl ⟨rfl, fin⟩))
end RowsT
