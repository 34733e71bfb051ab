section Pack6
variable {E : EnvX} {L : Nat} {h : Hp} {K : Nat}
theorem eq_packing (hE : EOk E) (hL : 20 ≤ L) (I : Inv h K) (hK : K + 60 ≤ 100000) (u v : Int32) : Same E L m_X_packing m_M_packing [.int u, .int v] h K := by
  obtain ⟨nB, nT, tv, pk, lv, sn, ck, hck, C⟩ := I.2.1
  have h8 := C.1.2.2.2.1
  have h16 := C.1.2.2.2.2.1
  by_cases hu : ∃ r, r < 4 ∧ u = nI r
  · obtain ⟨r, hr, rfl⟩ := hu
    obtain ⟨s13, c13⟩ := sh13 hr
    have w1 : ∀ h1 : Hp, RdI E (L - 1) m_M_within 0 [.long (nI r).toInt64, .long 0, .long 3] (sI h1 74 0 0) 1 := fun h1 => m_w_yes (a := 0) (b := 3) hE (by omega) (by omega) (by omega) (by omega)
    by_cases hv : ∃ k, k < 2 ∧ v = nI k
    · obtain ⟨k, hk, rfl⟩ := hv
      have w2 : ∀ h1 : Hp, RdI E (L - 1) m_M_within 0 [.long (nI k).toInt64, .long 0, .long 1] (sI h1 74 0 0) 1 := fun h1 => m_w_yes (a := 0) (b := 1) hE (by omega) (by omega) (by omega) (by omega)
      have p1 := x_packRef (h := h) hE (L := L - 1) (by omega) hr C.1 (I.2.2.1 r hr)
      rcases I.2.2.1 r hr with ⟨q1, q2⟩ | ⟨n, s, q1, q2, q3, q4, q5, q6, q7⟩
      · rw [if_pos q1] at p1
        refine same_rd (x := -6) I hK (RdX.of I.2.2.2.2.2.2 (B_X_packing hE (by omega) ((x_isRow hE (by omega) hr).use (brF (by decide) (brF (nIneg (by omega)) (brT (show nI k ≤ nI 1 from nI_le (by omega) (by omega)) (p1.use (brF (by decide) ⟨rfl, rfl⟩)))))))) (fun h1 e I1 => ?_)
        refine B_M_packing hE (by omega) ((w1 h1).use (brF (by decide) ((w2 h1).use (brF' (by decide) ⟨in93 hr, ?_⟩))))
        rw [nIc (by omega), show (sI h1 74 0 0).2.1 93 r = h.2.1 93 r by rw [sI_A, e.a 93]]
        exact brT' q2 ⟨rfl, thr_eq _, I1.2.2.2.2.2.2⟩
      · rw [q3, if_neg (nIm1 (by omega))] at p1
        have ps : ¬ (h.2.1 93 r) = -1 := by rw [q5]; exact nIm1 (by omega)
        by_cases cn : n = nB + nT
        · subst cn
          rw [if_pos rfl] at p1
          have ws7 : ∀ j, j < nB + nT → h.2.2 95 (40 * r + j) = h.2.2 (14 + 2 * r + 1) j := fun j hj => by rw [← q7 j hj, show 15 + 2 * r = 14 + 2 * r + 1 by omega]
          refine B_X_packing hE (by omega) ((x_isRow hE (by omega) hr).use (brF (by decide) (brF (nIneg (by omega)) (brT (show nI k ≤ nI 1 from nI_le (by omega) (by omega)) (p1.use (brT rfl ⟨in13 hr, ?_⟩))))))
          rw [nIc (by omega), s13]
          have rd := pk_read (h := h) hE (L := L - 1) (by omega) C.1 c13 (by omega) q3
          have stl := stK_le (ws := h.2.2 (14 + 2 * r + 1)) h8 h16 (nB + nT) (Nat.le_refl _)
          have wsE : ∀ j, j < nB + nT → h.2.2 95 (40 * r + j) = h.2.2 (14 + 2 * r + 1) j := ws7
          generalize hws : h.2.2 (14 + 2 * r + 1) = ws at rd stl wsE
          refine rd.mono (fun y h1 z => ?_)
          obtain ⟨-, e1, a1, Y1⟩ := z
          refine (pk_findWrong hE (by omega) (C.1.keep e1 (by omega) (by omega)) Y1 a1 (by omega)).mono (fun h2 z2 => ?_)
          obtain ⟨e2, b3, b4⟩ := z2
          have eX : EqO (fun q => 35 ≤ q ∧ q ≤ 38) h h2 := e1.trans (e2.wk (fun q z => by omega))
          have sX : EqS h h2 := EqS.of eX (fun p hp => (show ∀ p ∈ persF, ¬ (35 ≤ p.1 ∧ p.1 ≤ 38) by decide) p hp) (fun p hp => (show ∀ p ∈ persA, ¬ (35 ≤ p ∧ p ≤ 38) by decide) p hp)
          have zX : PickZ h2 := PickZ_eq I.2.2.2.2.2.2 (fun a h1 h2 => (eX a (by omega)).2.1)
          have mm : ∀ ans : Int32, (k = 0 → ans = nI (wrg (pkU nB nT ws (nB + nT)) tv nB (stK nB ws (nB + nT))).1) → (k = 1 → ans = bx (wrg (pkU nB nT ws (nB + nT)) tv nB (stK nB ws (nB + nT))).2) → ConI E L m_M_packing 74 [.int (nI r), .int (nI k)] h2 (fun y2 h3 => ans = y2 ∧ Inv h3 (K + 60)) := by
            intro ans a0 a1
            have M1 : MdV h2 nB nT tv pk sn ck := MsV_eq C.2.2.1 (eX 75 (by omega)).2.1
            have w95 : ∀ j, j < nB + nT → (sI h2 74 0 0).2.2 95 (40 * r + j) = ws j := fun j hj => by rw [sI_A, (eX 95 (by omega)).2.2]; exact wsE j hj
            refine B_M_packing hE (by omega) ((w1 h2).use (brF (by decide) ((w2 h2).use (brF' (by decide) ⟨in93 hr, ?_⟩))))
            rw [nIc (by omega), show (sI h2 74 0 0).2.1 93 r = h.2.1 93 r by rw [sI_A, (eX 93 (by omega)).2.1], show (sI h2 74 0 0).2.1 94 r = nI (nB + nT) by rw [sI_A, (eX 94 (by omega)).2.1]; exact q6]
            refine brF' ps ⟨in94 hr, (m_itemMany (h := sI h2 74 0 0) hE (by omega) M1).use (brT rfl ((m_firstNoBox (h := sI h2 74 0 0) hE (by omega) M1 hr w95).use ?_))⟩
            rw [bx_m1 (by omega)]
            refine ⟨fun c => ?_, fun c => ?_⟩
            · rw [c] at a0 a1
              refine (m_lays (h := sI h2 74 0 0) hE (by omega) M1 hr w95 c).mono (fun h3 z3 => ?_)
              obtain ⟨e3, k3, t3, M3⟩ := z3
              refine (m_firstWrong hE (by omega) M3 (pkU_le h8)).mono (fun y4 h4 z4 => ?_)
              obtain ⟨rfl, f4, g4, v4⟩ := z4
              refine (m_isAgain (h := h4) hE (by omega)).mono (fun h5 z5 => ?_)
              obtain ⟨e5, a5, b5⟩ := z5
              have M5 : MdV h5 nB nT tv pk sn ck := MsV_back M1 M3 (fun j hj => by rw [a5 j hj, g4, k3 j hj]; rfl) (fun j hj => by rw [b5 j (Or.inl hj), g4])
              have t5 : EqT h h5 := by
                have ta : EqT (sI h2 74 0 0) h3 := ⟨fun p hp => by rw [(e3 p.1 ((show ∀ p ∈ perF2, ¬ (p.1 = 75 ∨ p.1 = 79) by decide) p hp)).1], fun q hq => (e3 q ((show ∀ p ∈ perA2, ¬ (p = 75 ∨ p = 79) by decide) q hq)).2, t3⟩
                have tb : EqT h4 h5 := ⟨fun p hp => by rw [(e5 p.1 ((show ∀ p ∈ perF2, ¬ (p.1 = 75) by decide) p hp)).1], fun q hq => (e5 q ((show ∀ p ∈ perA2, ¬ (p = 75) by decide) q hq)).2, fun k hk => b5 k (Or.inr hk)⟩
                exact (((sX.t.trans (thr_eq h2).t).trans ta).trans f4.2).trans tb
              have gg : ∀ q, (q < 6 ∨ (41 ≤ q ∧ q ≤ 44)) → h5.1 q = h.1 q ∧ h5.2.1 q = h.2.1 q := fun q hq => by
                have s1 := eX q (by omega)
                have s3 := e3 q (by omega)
                have s4 := f4.1 q (by omega)
                have s5 := e5 q (by omega)
                have s2 : (sI h2 74 0 0).1 q = h2.1 q := if_neg (by omega)
                exact ⟨((s5.1.trans s4.1).trans s3.1).trans (s2.trans s1.1), (s5.2.1.trans s4.2.1).trans (s3.2.1.trans s1.2.1)⟩
              have I5 : Inv h5 (K + 60) := I.move t5 ⟨nB, nT, tv, pk, lv, sn, ck, by omega, StV_eq C.1 (by rw [(gg 1 (by omega)).1]) (by rw [(gg 1 (by omega)).1]) (gg 2 (by omega)).2, LyV_eq C.2.1 (gg 4 (by omega)).2 (gg 5 (by omega)).2, M5, C.2.2.2⟩ (PickZ_eq I.2.2.2.2.2.2 (fun a h1 h2 => (gg a (by omega)).2)) (by omega) hK
              rw [nI_z (by omega)]
              refine ⟨fun d => ⟨a1 (by omega), I5⟩, fun d => ⟨?_, I5⟩⟩
              rw [a0 d, (e5 74 (by omega)).1]; exact v4.symm
            · have I3 : Inv (sI h2 74 0 0) (K + 60) := I.keep (sX.trans (thr_eq h2)) zX (by omega) hK
              rw [wrg_st c] at a0 a1
              rw [nI_z (by omega)]
              exact ⟨fun d => ⟨a1 (by omega), I3⟩, fun d => ⟨a0 d, I3⟩⟩
          rw [nI_z (by omega)]
          refine ⟨fun d => (show RdI E (L - 1) m_Packing_culprit 35 [] h2 (bx (wrg (pkU nB nT ws (nB + nT)) tv nB (stK nB ws (nB + nT))).2) from B_Packing_culprit hE (by omega) ⟨b4, rfl⟩).use (mm _ (fun z => by omega) (fun _ => rfl)), fun d => (show RdI E (L - 1) m_Packing_wrong 35 [] h2 (nI (wrg (pkU nB nT ws (nB + nT)) tv nB (stK nB ws (nB + nT))).1) from B_Packing_wrong hE (by omega) ⟨b3, rfl⟩).use (mm _ (fun _ => rfl) (fun z => by omega))⟩
        · rw [if_neg (fun z => cn ((nIe (by omega) (by omega)).mp z))] at p1
          refine same_rd (x := -7) I hK (RdX.of I.2.2.2.2.2.2 (B_X_packing hE (by omega) ((x_isRow hE (by omega) hr).use (brF (by decide) (brF (nIneg (by omega)) (brT (show nI k ≤ nI 1 from nI_le (by omega) (by omega)) (p1.use (brF (by decide) ⟨rfl, rfl⟩)))))))) (fun h1 e I1 => ?_)
          refine B_M_packing hE (by omega) ((w1 h1).use (brF (by decide) ((w2 h1).use (brF' (by decide) ⟨in93 hr, ?_⟩))))
          rw [nIc (by omega), show (sI h1 74 0 0).2.1 93 r = h.2.1 93 r by rw [sI_A, e.a 93], show (sI h1 74 0 0).2.1 94 r = nI n by rw [sI_A, e.a 94]; exact q6]
          refine brF' ps ⟨in94 hr, (m_itemMany (h := sI h1 74 0 0) hE (by omega) (C.keep e).2.2.1).use ?_⟩
          rw [nIe (by omega) (by omega)]
          exact brF cn ⟨rfl, thr_eq _, I1.2.2.2.2.2.2⟩
    · have hv2 := not_small (n := 2) (by omega) hv
      refine same_rd (x := -2) I hK (RdX.of I.2.2.2.2.2.2 ?_) (fun h1 e I1 => ?_)
      · refine B_X_packing hE (by omega) ((x_isRow hE (by omega) hr).use (brF (by decide) ?_))
        by_cases c : v < 0
        · exact brT c ⟨rfl, rfl⟩
        · refine brF c (brF (fun z => ?_) ⟨rfl, rfl⟩)
          have c2 := hv2.resolve_left c
          rw [i32_le, nI_int (by omega)] at c2
          rw [i32_le] at z
          have e40 : (1 : Int32).toInt = 1 := rfl
          omega
      · exact B_M_packing hE (by omega) ((w1 h1).use (brF (by decide) ((m_w_no (a := 0) (b := 1) hE (by omega) (by omega) (by omega) (fun ⟨k, _, q, r⟩ => hv ⟨k, by omega, r⟩)).use (brT' rfl ⟨rfl, thr_eq _, I1.2.2.2.2.2.2⟩))))
  · refine same_rd (x := -2) I hK (RdX.of I.2.2.2.2.2.2 ?_) (fun h1 e I1 => ?_)
    · exact B_X_packing hE (by omega) ((x_isRow_no hE (by omega) hu).use (brT rfl ⟨rfl, rfl⟩))
    · exact B_M_packing hE (by omega) ((m_w_no (a := 0) (b := 3) hE (by omega) (by omega) (by omega) (w3 hu)).use (brT rfl ⟨rfl, thr_eq _, I1.2.2.2.2.2.2⟩))
end Pack6
