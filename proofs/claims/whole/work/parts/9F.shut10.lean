section Shut12
variable {E : EnvX} {L : Nat} {h : Hp} {K : Nat}
theorem inv_sh {nB nT : Nat} {tv : Nat → Nat → Nat} {pk lv sn : Nat → Nat} {ck : Nat} (I : Inv h K) (hck : ck ≤ K) (hK : K + 60 ≤ 100000) (C : CurV h 1 3 0 nB nT tv pk lv sn ck) {h2 h5 : Hp} (e2 : EqO (fun q => 53 ≤ q ∧ q ≤ 58) h h2) (M5 : MdV h5 nB nT tv pk sn ck) (e5 : EqO (fun q => q = 74 ∨ q = 75 ∨ q = 79 ∨ q = 83 ∨ q = 84) (sI h2 74 0 0) h5) (T : EqT (sI h2 74 0 0) h5) : Inv h5 (K + 60) := by
  have sX : EqS h h2 := EqS.of e2 (fun p hp => (show ∀ p ∈ persF, ¬ (53 ≤ p.1 ∧ p.1 ≤ 58) by decide) p hp) (fun p hp => (show ∀ p ∈ persA, ¬ (53 ≤ p ∧ p ≤ 58) by decide) p hp)
  have gg : ∀ q, (q < 6 ∨ (41 ≤ q ∧ q ≤ 44)) → h5.1 q = h.1 q ∧ h5.2.1 q = h.2.1 q := fun q hq => by
    have s1 := e2 q (by omega)
    have s5 := e5 q (by omega)
    have s2 : (sI h2 74 0 0).1 q = h2.1 q := if_neg (by omega)
    exact ⟨s5.1.trans (s2.trans s1.1), s5.2.1.trans s1.2.1⟩
  exact I.move ((sX.t.trans (thr_eq h2).t).trans T) ⟨nB, nT, tv, pk, lv, sn, ck, by omega, StV_eq C.1 (by rw [(gg 1 (by omega)).1]) (by rw [(gg 1 (by omega)).1]) (gg 2 (by omega)).2, LyV_eq C.2.1 (gg 4 (by omega)).2 (gg 5 (by omega)).2, M5, C.2.2.2⟩ (PickZ_eq I.2.2.2.2.2.2 (fun a h1 h2 => (gg a (by omega)).2)) (by omega) hK
theorem eq_shut (hE : EOk E) (hL : 20 ≤ L) (I : Inv h K) (hK : K + 60 ≤ 100000) (u v : Int32) : Same E L m_X_shut m_M_shut [.int u, .int v] h K := by
  obtain ⟨nB, nT, tv, pk, lv, sn, ck, hck, C⟩ := I.2.1
  have S := C.1
  have h8 := C.1.2.2.2.1
  have h16 := C.1.2.2.2.2.1
  by_cases hu : ∃ b, b < nB ∧ u = nI b
  · obtain ⟨b, hb, rfl⟩ := hu
    have eb : (nI b).toInt64 = lN b := nI_l (by omega)
    have hx := hasBox_yes (h := h) hE (L := L - 1) (by omega) S hb
    rw [← eb] at hx
    have mb : ∀ h', MdV h' nB nT tv pk sn ck → RdI E (L - 1) m_M_isBox 74 [.long (nI b).toInt64] h' 1 := fun h' M => by rw [eb]; exact m_isBox_yes hE (by omega) M hb
    rcases shutSet (pk := pk) (sn := sn) (ck := ck) hE (L := L - 1) (by omega) S hb v with ⟨t1, t2⟩ | ⟨t1, t2, x, x24, rfl, m6, xi⟩
    · refine same_rd (x := -3) I hK (RdX.of I.2.2.2.2.2.2 (B_X_shut hE (by omega) (hx.use (brF' (by decide) (t1.use (brT' rfl ⟨rfl, rfl⟩)))))) (fun h1 e I1 => ?_)
      have M1 : MdV (sI h1 74 0 0) nB nT tv pk sn ck := (C.keep e).2.2.1
      rcases t2 _ M1 with m1 | ⟨m1, m2⟩
      · exact B_M_shut hE (by omega) ((mb _ M1).use (brF' (by decide) (m1.use (brT rfl ⟨rfl, thr_eq _, I1.2.2.2.2.2.2⟩))))
      · exact B_M_shut hE (by omega) ((mb _ M1).use (brF' (by decide) (m1.use (brF (by decide) (m2.use (brF' (by decide) ⟨rfl, thr_eq _, I1.2.2.2.2.2.2⟩))))))
    · refine B_X_shut hE (by omega) (hx.use (brF' (by decide) (t1.use (brF' (by decide) ((sh_seek hE (by omega) S hb x24 m6 xi 0).mono (fun h2 z2 => ?_))))))
      obtain ⟨e2, p2, -⟩ := z2
      have w2 := p2 (Or.inl rfl)
      refine (show RdI E (L - 1) m_Shutting_ways 53 [] h2 _ from B_Shutting_ways hE (by omega) ⟨w2, rfl⟩).use ?_
      have M2 : MdV (sI h2 74 0 0) nB nT tv pk sn ck := MsV_eq C.2.2.1 (show h2.2.1 75 = _ from (e2 75 (by omega)).2.1)
      obtain ⟨m1, m2⟩ := t2 _ M2
      refine B_M_shut hE (by omega) ((mb _ M2).use (brF' (by decide) (m1.use (brF (by decide) (m2.use (brT' rfl ((m_shutWays hE (by omega) M2 hb x24 m6 xi).mono (fun y h5 z5 => ?_))))))))
      obtain ⟨y5, M5, e5, T5, -, -⟩ := z5
      exact ⟨y5.symm, inv_sh I hck hK C e2 M5 e5 T5⟩
  · refine same_rd (x := -2) I hK (RdX.of I.2.2.2.2.2.2 (B_X_shut hE (by omega) ((hasBox_no hE (by omega) S (noBox h8 hu)).use (brT' rfl ⟨rfl, rfl⟩)))) (fun h1 e I1 => ?_)
    exact B_M_shut hE (by omega) ((m_isBox_no (h := sI h1 74 0 0) hE (by omega) (C.keep e).2.2.1 (noBox h8 hu)).use (brT' rfl ⟨rfl, thr_eq _, I1.2.2.2.2.2.2⟩))
theorem eq_shutIn (hE : EOk E) (hL : 20 ≤ L) (I : Inv h K) (hK : K + 60 ≤ 100000) (u v w : Int32) : Same E L m_X_shutIn m_M_shutIn [.int u, .int v, .int w] h K := by
  obtain ⟨nB, nT, tv, pk, lv, sn, ck, hck, C⟩ := I.2.1
  have S := C.1
  have h8 := C.1.2.2.2.1
  have h16 := C.1.2.2.2.2.1
  by_cases hu : ∃ b, b < nB ∧ u = nI b
  · obtain ⟨b, hb, rfl⟩ := hu
    have eb : (nI b).toInt64 = lN b := nI_l (by omega)
    have hx := hasBox_yes (h := h) hE (L := L - 1) (by omega) S hb
    rw [← eb] at hx
    have mb : ∀ h', MdV h' nB nT tv pk sn ck → RdI E (L - 1) m_M_isBox 74 [.long (nI b).toInt64] h' 1 := fun h' M => by rw [eb]; exact m_isBox_yes hE (by omega) M hb
    by_cases hw : ∃ i, isIt nB nT i ∧ w = nI i
    · obtain ⟨i, hi, rfl⟩ := hw
      have i24 : i < 24 := by rcases hi with q | q <;> omega
      have ei : (nI i).toInt64 = lN i := nI_l (by omega)
      have hxi := hasItem_yes (h := h) hE (L := L - 2) (by omega) S hi
      rw [← ei] at hxi
      have mi : ∀ h', MdV h' nB nT tv pk sn ck → RdI E (L - 1) m_M_isItem 74 [.long (nI i).toInt64] h' 1 := fun h' M => by rw [ei]; exact m_isItem_yes hE (by omega) M hi
      have w23 : ∀ h' : Hp, RdI E (L - 2) m_M_within 0 [.long (nI i).toInt64, .long 0, .long 23] h' 1 := fun h' => m_w_yes (a := 0) (b := 23) hE (by omega) (by omega) (by omega) (by omega)
      by_cases bv : bt v i = true
      · have xi : RdI E (L - 1) m_X_isItemOf 0 [.int (nI i), .int v] h 1 := by
          refine B_X_isItemOf hE (by omega) (hxi.use (brF (by decide) ?_))
          rw [bt_test v i24, if_pos bv]
          exact brF (by decide) ⟨rfl, rfl⟩
        have mo : ∀ h' : Hp, RdI E (L - 1) m_M_isOf 0 [.int v, .int (nI i)] h' 1 := fun h' => by
          refine B_M_isOf hE (by omega) ((w23 h').use (brF (by decide) ?_))
          rw [bt_test v i24, if_pos bv]
          exact brT' rfl ⟨rfl, rfl⟩
        rcases shutSet (pk := pk) (sn := sn) (ck := ck) hE (L := L - 1) (by omega) S hb v with ⟨t1, t2⟩ | ⟨t1, t2, x, x24, rfl, m6, xs⟩
        · refine same_rd (x := -3) I hK (RdX.of I.2.2.2.2.2.2 (B_X_shutIn hE (by omega) (hx.use (brF (by decide) (xi.use (brF' (by decide) (t1.use (brT' rfl ⟨rfl, rfl⟩)))))))) (fun h1 e I1 => ?_)
          have M1 : MdV (sI h1 74 0 0) nB nT tv pk sn ck := (C.keep e).2.2.1
          rcases t2 _ M1 with m1 | ⟨m1, m2⟩
          · exact B_M_shutIn hE (by omega) ((mb _ M1).use (brF (by decide) ((mi _ M1).use (brF (by decide) ((mo _).use (brF' (by decide) (m1.use (brT rfl ⟨rfl, thr_eq _, I1.2.2.2.2.2.2⟩))))))))
          · exact B_M_shutIn hE (by omega) ((mb _ M1).use (brF (by decide) ((mi _ M1).use (brF (by decide) ((mo _).use (brF' (by decide) (m1.use (brF (by decide) (m2.use (brF (by decide) ⟨rfl, thr_eq _, I1.2.2.2.2.2.2⟩))))))))))
        · have tx : x.testBit i = true := by
            have e1 := bt_test (nI x) i24
            rw [mk_test (mk_nat x24) i24, if_pos bv] at e1
            by_cases c : x.testBit i = true
            · exact c
            · rw [if_neg c] at e1; exact absurd e1 (by decide)
          have wl := wy_le (tv := tv) (it := itK (fun i => x.testBit i)) (Hs := hoS nB x b) (m := cB (fun i => x.testBit i) 24) h8 (cB (fun i => x.testBit i) 24) (fun _ => 0)
          have pp := p8 _ m6
          refine B_X_shutIn hE (by omega) (hx.use (brF (by decide) (xi.use (brF' (by decide) (t1.use (brF' (by decide) ((sh_seek hE (by omega) S hb x24 m6 xs 1).mono (fun h2 z2 => ?_))))))))
          obtain ⟨e2, p2, q2⟩ := z2
          have M2 : MdV (sI h2 74 0 0) nB nT tv pk sn ck := MsV_eq C.2.2.1 (show h2.2.1 75 = _ from (e2 75 (by omega)).2.1)
          obtain ⟨m1, m2⟩ := t2 _ M2
          have ch := cB_lt (W := fun i => x.testBit i) tx i24
          have ik : itK (fun i => x.testBit i) (cB (fun i => x.testBit i) i) = i := itK_at (W := fun i => x.testBit i) i24 tx
          have iy : ∀ j, j < cB (fun i => x.testBit i) 24 → j < cB (fun i => x.testBit i) i → itK (fun i => x.testBit i) j ≠ i := fun j hj hj2 e => by
            have := (itK_yes (W := fun i => x.testBit i) hj).2.2
            rw [e] at this; omega
          have i24' : ∀ j, j < cB (fun i => x.testBit i) 24 → itK (fun i => x.testBit i) j < 24 := fun j hj => (itK_yes (W := fun i => x.testBit i) hj).1
          have mw := m_shutWays hE (L := L - 1) (by omega) M2 hb x24 m6 xs
          generalize hW : wy tv nB (itK (fun i => x.testBit i)) (hoS nB x b) (cB (fun i => x.testBit i) 24) (cB (fun i => x.testBit i) 24) (fun _ => 0) = W at *
          generalize hG : fw tv nB (itK (fun i => x.testBit i)) (hoS nB x b) (cB (fun i => x.testBit i) 24) (cB (fun i => x.testBit i) 24) (fun _ => 0) = G at *
          have mm : ∀ ans : Int32, (W = 0 → ans = -1) → (W ≠ 0 → ans = bx (G i)) → ConI E L m_M_shutIn 74 [.int (nI b), .int (nI x), .int (nI i)] h2 (fun y2 h3 => ans = y2 ∧ Inv h3 (K + 60)) := by
            intro ans a0 a1
            refine B_M_shutIn hE (by omega) ((mb _ M2).use (brF (by decide) ((mi _ M2).use (brF (by decide) ((mo _).use (brF' (by decide) (m1.use (brF (by decide) (m2.use (brT rfl (mw.mono (fun y h5 z5 => ?_))))))))))))
            obtain ⟨y5, M5, e5, T5, n5, f5⟩ := z5
            have I5 : Inv h5 (K + 60) := inv_sh I hck hK C e2 M5 e5 T5
            rw [y5, nI_z (by omega)]
            refine ⟨fun c => ?_, fun c => ⟨a0 c, I5⟩⟩
            have lp : ∀ g j, g + j = cB (fun i => x.testBit i) i → at_M_shutIn_67 E L h5 (fun y2 h3 => ans = y2 ∧ Inv h3 (K + 60)) (nI i) (nI j) := by
              intro g
              induction g with
              | zero =>
                intro j hj
                have ej : j = cB (fun i => x.testBit i) i := by omega
                refine B_M_shutIn_67 ⟨(in83 (by omega)).1, ?_⟩
                rw [nIc (by omega), n5 j (by omega), f5 c j (by omega), ej, ik]
                exact brT rfl ⟨(in83 (by omega)).2, a1 c, I5⟩
              | succ g ih =>
                intro j hj
                refine B_M_shutIn_67 ⟨(in83 (by omega)).1, ?_⟩
                have := i24' j (by omega)
                rw [nIc (by omega), n5 j (by omega), nIe (by omega) (by omega), nI_1]
                exact brF (iy j (by omega) (by omega)) (ih (j + 1) (by omega))
            exact lp (cB (fun i => x.testBit i) i) 0 (by omega)
          by_cases c : W = 0
          · have w2 := p2 (Or.inr c)
            rw [c] at w2
            exact (show RdI E (L - 1) m_Shutting_ways 53 [] h2 0 from B_Shutting_ways hE (by omega) ⟨w2, rfl⟩).use (brT' rfl (mm _ (fun _ => rfl) (fun z => absurd c z)))
          · obtain ⟨V2, w2⟩ := q2 (by decide) c
            have bo := sh_boxOf hE (L := L - 1) (by omega) V2 (c := i + 1) (by omega)
            rw [bx_S, nx_S] at bo
            exact (show RdI E (L - 1) m_Shutting_ways 53 [] h2 1 from B_Shutting_ways hE (by omega) ⟨w2, rfl⟩).use (brF' (by decide) (bo.use (mm _ (fun z => absurd z c) (fun _ => rfl))))
      · have xi : RdI E (L - 1) m_X_isItemOf 0 [.int (nI i), .int v] h 0 := by
          refine B_X_isItemOf hE (by omega) (hxi.use (brF (by decide) ?_))
          rw [bt_test v i24, if_neg bv]
          exact brT rfl ⟨rfl, rfl⟩
        have mo : ∀ h' : Hp, RdI E (L - 1) m_M_isOf 0 [.int v, .int (nI i)] h' 0 := fun h' => by
          refine B_M_isOf hE (by omega) ((w23 h').use (brF (by decide) ?_))
          rw [bt_test v i24, if_neg bv]
          exact brF' (by decide) ⟨rfl, rfl⟩
        refine same_rd (x := -2) I hK (RdX.of I.2.2.2.2.2.2 (B_X_shutIn hE (by omega) (hx.use (brF (by decide) (xi.use (brT' rfl ⟨rfl, rfl⟩)))))) (fun h1 e I1 => ?_)
        have M1 : MdV (sI h1 74 0 0) nB nT tv pk sn ck := (C.keep e).2.2.1
        exact B_M_shutIn hE (by omega) ((mb _ M1).use (brF (by decide) ((mi _ M1).use (brF (by decide) ((mo _).use (brT' rfl ⟨rfl, thr_eq _, I1.2.2.2.2.2.2⟩))))))
    · have xi : RdI E (L - 1) m_X_isItemOf 0 [.int w, .int v] h 0 := B_X_isItemOf hE (by omega) ((hasItem_no hE (by omega) S (noItem h8 h16 hw)).use (brT rfl ⟨rfl, rfl⟩))
      refine same_rd (x := -2) I hK (RdX.of I.2.2.2.2.2.2 (B_X_shutIn hE (by omega) (hx.use (brF (by decide) (xi.use (brT' rfl ⟨rfl, rfl⟩)))))) (fun h1 e I1 => ?_)
      have M1 : MdV (sI h1 74 0 0) nB nT tv pk sn ck := (C.keep e).2.2.1
      exact B_M_shutIn hE (by omega) ((mb _ M1).use (brF (by decide) ((m_isItem_no hE (by omega) M1 (noItem h8 h16 hw)).use (brT rfl ⟨rfl, thr_eq _, I1.2.2.2.2.2.2⟩))))
  · refine same_rd (x := -2) I hK (RdX.of I.2.2.2.2.2.2 (B_X_shutIn hE (by omega) ((hasBox_no hE (by omega) S (noBox h8 hu)).use (brT rfl ⟨rfl, rfl⟩)))) (fun h1 e I1 => ?_)
    exact B_M_shutIn hE (by omega) ((m_isBox_no (h := sI h1 74 0 0) hE (by omega) (C.keep e).2.2.1 (noBox h8 hu)).use (brT rfl ⟨rfl, thr_eq _, I1.2.2.2.2.2.2⟩))
end Shut12
