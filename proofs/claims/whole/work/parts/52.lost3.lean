section Lost3
variable {E : EnvX} {L : Nat} {h : Hp} {K : Nat}
theorem x_packRef_no (hE : EOk E) (hL : 4 ≤ L) {v : Int32} (hv : ¬ ∃ r, r < 4 ∧ v = nI r) : RdI E L m_X_packingRefusal 0 [.int v] h (-2) :=
  B_X_packingRefusal hE (by omega) ((x_rowRefusal_no hE (by omega) hv).use (brF (by decide) ⟨rfl, rfl⟩))
theorem eq_lost (hE : EOk E) (hL : 20 ≤ L) (I : Inv h K) (hK : K + 60 ≤ 100000) (u : Int32) : Same E L m_X_lost m_M_lost [.int u] h K := by
  obtain ⟨nB, nT, tv, pk, lv, sn, ck, hck, C⟩ := I.2.1
  have h8 := C.1.2.2.2.1
  have h16 := C.1.2.2.2.2.1
  by_cases hu : ∃ r, r < 4 ∧ u = nI r
  · obtain ⟨r, hr, rfl⟩ := hu
    obtain ⟨s13, c13⟩ := sh13 hr
    have w1 : ∀ h1 : Hp, RdI E (L - 1) m_M_within 0 [.long (nI r).toInt64, .long 0, .long 3] (sI h1 74 0 0) 1 := fun h1 => m_w_yes (a := 0) (b := 3) hE (by omega) (by omega) (by omega) (by omega)
    have p1 := x_packRef (h := h) hE (L := L - 1) (by omega) hr C.1 (I.2.2.1 r hr)
    rcases I.2.2.1 r hr with ⟨q1, q2⟩ | ⟨n, s, q1, q2, q3, q4, q5, q6, q7⟩
    · rw [if_pos q1] at p1
      refine same_rd (x := -6) I hK (RdX.of I.2.2.2.2.2.2 (B_X_lost hE (by omega) (p1.use (brF (by decide) ⟨rfl, rfl⟩)))) (fun h1 e I1 => ?_)
      refine B_M_lost hE (by omega) ((w1 h1).use (brF' (by decide) ⟨in93 hr, ?_⟩))
      rw [nIc (by omega), show (sI h1 74 0 0).2.1 93 r = h.2.1 93 r by rw [sI_A, e.a 93]]
      exact brT' q2 ⟨rfl, thr_eq _, I1.2.2.2.2.2.2⟩
    · rw [q3, if_neg (nIm1 (by omega))] at p1
      have ps : ¬ (h.2.1 93 r) = -1 := by rw [q5]; exact nIm1 (by omega)
      by_cases cn : n = nB + nT
      · subst cn
        rw [if_pos rfl] at p1
        refine B_X_lost hE (by omega) (p1.use (brT rfl ⟨in13 hr, ?_⟩))
        rw [nIc (by omega), s13]
        have rd := pk_read (h := h) hE (L := L - 1) (by omega) C.1 c13 (by omega) q3
        have stl := stK_le (ws := h.2.2 (14 + 2 * r + 1)) h8 h16 (nB + nT) (Nat.le_refl _)
        have wsE : ∀ j, j < nB + nT → h.2.2 95 (40 * r + j) = h.2.2 (14 + 2 * r + 1) j := fun j hj => by rw [← q7 j hj, show 15 + 2 * r = 14 + 2 * r + 1 by omega]
        generalize hws : h.2.2 (14 + 2 * r + 1) = ws at rd stl wsE
        refine rd.mono (fun y h2 z => ?_)
        obtain ⟨rfl, eX, -, Y1⟩ := z
        have sX : EqS h h2 := EqS.of eX (fun p hp => (show ∀ p ∈ persF, ¬ (35 ≤ p.1 ∧ p.1 ≤ 38) by decide) p hp) (fun p hp => (show ∀ p ∈ persA, ¬ (35 ≤ p ∧ p ≤ 38) by decide) p hp)
        have zX : PickZ h2 := PickZ_eq I.2.2.2.2.2.2 (fun a h1 h2 => (eX a (by omega)).2.1)
        have M1 : MdV h2 nB nT tv pk sn ck := MsV_eq C.2.2.1 (eX 75 (by omega)).2.1
        have w95 : ∀ j, j < nB + nT → (sI h2 74 0 0).2.2 95 (40 * r + j) = ws j := fun j hj => by rw [sI_A, (eX 95 (by omega)).2.2]; exact wsE j hj
        have I3 : Inv (sI h2 74 0 0) (K + 60) := I.keep (sX.trans (thr_eq h2)) zX (by omega) hK
        have topM : ∀ {ans : Int32}, ((stK nB ws (nB + nT) = 0 → ConV E (L - 1) m_M_lays 74 [.int (nI r)] (sI h2 74 0 0) (fun h7 => at_M_lost_70 E L h7 (fun y2 h3 => ans = y2 ∧ Inv h3 (K + 60)) 0 0)) ∧ (¬ stK nB ws (nB + nT) = 0 → ans = -3 ∧ Inv (sI h2 74 0 0) (K + 60))) → ConI E L m_M_lost 74 [.int (nI r)] h2 (fun y2 h3 => ans = y2 ∧ Inv h3 (K + 60)) := by
          intro ans H
          refine B_M_lost hE (by omega) ((w1 h2).use (brF' (by decide) ⟨in93 hr, ?_⟩))
          rw [nIc (by omega), show (sI h2 74 0 0).2.1 93 r = h.2.1 93 r by rw [sI_A, (eX 93 (by omega)).2.1], show (sI h2 74 0 0).2.1 94 r = nI (nB + nT) by rw [sI_A, (eX 94 (by omega)).2.1]; exact q6]
          refine brF' ps ⟨in94 hr, (m_itemMany (h := sI h2 74 0 0) hE (by omega) M1).use (brT rfl ((m_firstNoBox (h := sI h2 74 0 0) hE (by omega) M1 hr w95).use ?_))⟩
          rw [bx_m1 (by omega)]
          exact H
        by_cases c : stK nB ws (nB + nT) = 0
        · rw [if_pos c]
          refine brF (by decide) ((pk_lostBits hE (by omega) Y1).mono (fun v h2' z => ?_))
          obtain ⟨ez, mkv⟩ := z
          rw [ez]
          refine topM ⟨fun _ => ?_, fun z => absurd c z⟩
          refine (m_lays (h := sI h2 74 0 0) hE (by omega) M1 hr w95 c).mono (fun h3 z3 => ?_)
          obtain ⟨e3, k3, t3, M3⟩ := z3
          have hp := pkU_le (nB := nB) (nT := nT) (ws := ws) (k := nB + nT) h8
          refine m_lost70 hE (by omega) M3 (fun v1 mk1 => ?_) nB 0 (by omega) 0 (mk_cong mk_0 (fun i _ => by rw [decide_eq_false (Nat.not_lt_zero i)]; rfl))
          refine m_lost106 hE (by omega) M3 hp (fun v2 mk2 => ?_) 24 (fun _ => false) _ 0 v1 (Nat.le_add_right _ _) mk_0 mk1 (fun i z => by cases z) (fun b hb z => by rw [decide_eq_true hb, z]; rfl) (fun i _ _ z => by cases z) (fun i hi z => ?_)
          · refine (m_isAgain (h := h3) hE (by omega)).mono (fun h5 z5 => ⟨mk_eq mkv mk2, ?_⟩)
            obtain ⟨e5, a5, b5⟩ := z5
            have M5 : MdV h5 nB nT tv pk sn ck := MsV_back M1 M3 (fun j hj => by rw [a5 j hj, k3 j hj]; rfl) (fun j hj => by rw [b5 j (Or.inl hj)])
            have t5 : EqT h h5 := by
              have ta : EqT (sI h2 74 0 0) h3 := ⟨fun p hp => by rw [(e3 p.1 ((show ∀ p ∈ perF2, ¬ (p.1 = 75 ∨ p.1 = 79) by decide) p hp)).1], fun q hq => (e3 q ((show ∀ p ∈ perA2, ¬ (p = 75 ∨ p = 79) by decide) q hq)).2, t3⟩
              have tb : EqT h3 h5 := ⟨fun p hp => by rw [(e5 p.1 ((show ∀ p ∈ perF2, ¬ (p.1 = 75) by decide) p hp)).1], fun q hq => (e5 q ((show ∀ p ∈ perA2, ¬ (p = 75) by decide) q hq)).2, fun k hk => b5 k (Or.inr hk)⟩
              exact ((sX.t.trans (thr_eq h2).t).trans ta).trans tb
            have gg : ∀ q, (q < 6 ∨ (41 ≤ q ∧ q ≤ 44)) → h5.1 q = h.1 q ∧ h5.2.1 q = h.2.1 q := fun q hq => by
              have s1 := eX q (by omega)
              have s3 := e3 q (by omega)
              have s5 := e5 q (by omega)
              have s2 : (sI h2 74 0 0).1 q = h2.1 q := if_neg (by omega)
              exact ⟨(s5.1.trans s3.1).trans (s2.trans s1.1), s5.2.1.trans (s3.2.1.trans s1.2.1)⟩
            exact I.move t5 ⟨nB, nT, tv, pk, lv, sn, ck, by omega, StV_eq C.1 (by rw [(gg 1 (by omega)).1]) (by rw [(gg 1 (by omega)).1]) (gg 2 (by omega)).2, LyV_eq C.2.1 (gg 4 (by omega)).2 (gg 5 (by omega)).2, M5, C.2.2.2⟩ (PickZ_eq I.2.2.2.2.2.2 (fun a h1 h2 => (gg a (by omega)).2)) (by omega) hK
          · rw [Bool.and_eq_true] at z
            exact lost_ring z.2
        · rw [if_neg c]
          exact brT rfl (topM ⟨fun z => absurd z c, fun _ => ⟨rfl, I3⟩⟩)
      · rw [if_neg (fun z => cn ((nIe (by omega) (by omega)).mp z))] at p1
        refine same_rd (x := -7) I hK (RdX.of I.2.2.2.2.2.2 (B_X_lost hE (by omega) (p1.use (brF (by decide) ⟨rfl, rfl⟩)))) (fun h1 e I1 => ?_)
        refine B_M_lost hE (by omega) ((w1 h1).use (brF' (by decide) ⟨in93 hr, ?_⟩))
        rw [nIc (by omega), show (sI h1 74 0 0).2.1 93 r = h.2.1 93 r by rw [sI_A, e.a 93], show (sI h1 74 0 0).2.1 94 r = nI n by rw [sI_A, e.a 94]; exact q6]
        refine brF' ps ⟨in94 hr, (m_itemMany (h := sI h1 74 0 0) hE (by omega) (C.keep e).2.2.1).use ?_⟩
        rw [nIe (by omega) (by omega)]
        exact brF cn ⟨rfl, thr_eq _, I1.2.2.2.2.2.2⟩
  · refine same_rd (x := -2) I hK (RdX.of I.2.2.2.2.2.2 (B_X_lost hE (by omega) ((x_packRef_no hE (by omega) hu).use (brF (by decide) ⟨rfl, rfl⟩)))) (fun h1 e I1 => ?_)
    exact B_M_lost hE (by omega) ((m_w_no (a := 0) (b := 3) hE (by omega) (by omega) (by omega) (w3 hu)).use (brT' rfl ⟨rfl, thr_eq _, I1.2.2.2.2.2.2⟩))
end Lost3
