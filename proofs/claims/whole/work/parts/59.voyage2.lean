section Voy2
variable {E : EnvX} {L : Nat} {h : Hp} {K : Nat}
/-- the reference's state is again what it was: the invariant again -/
theorem inv_again {nB nT : Nat} {tv : Nat → Nat → Nat} {pk lv sn pk3 sn3 : Nat → Nat} {ck ck3 : Nat} (I : Inv h K) (hck : ck ≤ K + 60) (hK : K + 60 ≤ 100000) (C : CurV h 1 3 0 nB nT tv pk lv sn ck) {h2 h5 : Hp} (F : ∀ q, (q < 6 ∨ (41 ≤ q ∧ q ≤ 44)) → h2.1 q = h.1 q ∧ h2.2.1 q = h.2.1 q) (T : EqT h h2) (M3 : MdV h2 nB nT tv pk3 sn3 ck3) (k3 : ∀ j, j < 49 → h2.2.1 79 j = h.2.1 75 (171 + j)) (z5 : EqO (fun q => q = 75) h2 h5 ∧ (∀ j, j < 49 → h5.2.1 75 (171 + j) = h2.2.1 79 j) ∧ (∀ k, k < 171 ∨ 220 ≤ k → h5.2.1 75 k = h2.2.1 75 k)) : Inv h5 (K + 60) := by
  obtain ⟨e5, a5, b5⟩ := z5
  have M5 : MdV h5 nB nT tv pk sn ck := MsV_back C.2.2.1 M3 (fun j hj => by rw [a5 j hj, k3 j hj]) (fun j hj => by rw [b5 j (Or.inl hj)])
  have tb : EqT h2 h5 := ⟨fun p hp => by rw [(e5 p.1 ((show ∀ p ∈ perF2, ¬ (p.1 = 75) by decide) p hp)).1], fun q hq => (e5 q ((show ∀ p ∈ perA2, ¬ (p = 75) by decide) q hq)).2, fun k hk => b5 k (Or.inr hk)⟩
  have gg : ∀ q, (q < 6 ∨ (41 ≤ q ∧ q ≤ 44)) → h5.1 q = h.1 q ∧ h5.2.1 q = h.2.1 q := fun q hq => by
    have s1 := F q hq
    have s5 := e5 q (by omega)
    exact ⟨s5.1.trans s1.1, s5.2.1.trans s1.2⟩
  exact I.move (T.trans tb) ⟨nB, nT, tv, pk, lv, sn, ck, hck, StV_eq C.1 (by rw [(gg 1 (by omega)).1]) (by rw [(gg 1 (by omega)).1]) (gg 2 (by omega)).2, LyV_eq C.2.1 (gg 4 (by omega)).2 (gg 5 (by omega)).2, M5, C.2.2.2⟩ (PickZ_eq I.2.2.2.2.2.2 (fun a h1 h2 => (gg a (by omega)).2)) (by omega) hK
theorem eq_voyage (hE : EOk E) (hL : 20 ≤ L) (I : Inv h K) (hK : K + 60 ≤ 100000) (u : Int32) : Same E L m_X_voyage m_M_voyage [.int u] h K := by
  obtain ⟨nB, nT, tv, pk, lv, sn, ck, hck, C⟩ := I.2.1
  have h8 := C.1.2.2.2.1
  have h16 := C.1.2.2.2.2.1
  have hp : ∀ i, i < 24 → pk i ≤ 8 := fun i hi => C.2.2.1.pk8 hi
  by_cases hu : ∃ r, r < 4 ∧ u = nI r
  · obtain ⟨r, hr, rfl⟩ := hu
    obtain ⟨s13, c13⟩ := sh13 hr
    have w1 : ∀ h1 : Hp, RdI E (L - 1) m_M_within 0 [.long (nI r).toInt64, .long 0, .long 3] (sI h1 74 0 0) 1 := fun h1 => m_w_yes (a := 0) (b := 3) hE (by omega) (by omega) (by omega) (by omega)
    have p1 := x_rowRefusal (h := h) hE (L := L - 1) (by omega) hr
    rcases I.2.2.1 r hr with ⟨q1, q2⟩ | ⟨n, s, q1, q2, q3, q4, q5, q6, q7⟩
    · rw [if_pos q1] at p1
      refine same_rd (x := -6) I hK (RdX.of I.2.2.2.2.2.2 (B_X_voyage hE (by omega) (p1.use (brF (by decide) ⟨rfl, rfl⟩)))) (fun h1 e I1 => ?_)
      refine B_M_voyage hE (by omega) ((w1 h1).use (brF' (by decide) ⟨in93 hr, ?_⟩))
      rw [nIc (by omega), show (sI h1 74 0 0).2.1 93 r = h.2.1 93 r by rw [sI_A, e.a 93]]
      exact brT' q2 ⟨rfl, thr_eq _, I1.2.2.2.2.2.2⟩
    · rw [q3, if_neg (nIm1 (by omega))] at p1
      have ps : ¬ (h.2.1 93 r) = -1 := by rw [q5]; exact nIm1 (by omega)
      have ar := vo_areItems (h := h) hE (L := L - 1) (by omega) C.1 (mx := 40) c13 q3 q1 (by omega)
      have li := fun hb => vo_liftings (h := h) hE (L := L - 1) (by omega) C.2.1 h8 h16 c13 q3 q1 hb
      have w95 : ∀ j, j < n → (sI h 74 0 0).2.2 95 (40 * r + j) = h.2.2 (14 + 2 * r + 1) j := fun j hj => by rw [sI_A, ← q7 j hj, show 15 + 2 * r = 14 + 2 * r + 1 by omega]
      have am := m_areItems (h := sI h 74 0 0) hE (L := L - 1) (by omega) C.2.2.1 hr q1 (by rw [sI_A]; exact q6) w95
      generalize hws : h.2.2 (14 + 2 * r + 1) = ws at ar li w95 am
      have mm : ∀ ans : Int32, (findF (badV nB nT ws) n 0 ≠ 0 → ans = -3) → (findF (badV nB nT ws) n 0 = 0 → ans = nI (vSm pk lv ws n)) → ConI E L m_M_voyage 74 [.int (nI r)] h (fun y2 h3 => ans = y2 ∧ Inv h3 (K + 60)) := by
        intro ans a0 a1
        refine B_M_voyage hE (by omega) ((w1 h).use (brF' (by decide) ⟨in93 hr, ?_⟩))
        rw [nIc (by omega), show (sI h 74 0 0).2.1 93 r = h.2.1 93 r by rw [sI_A]]
        refine brF' ps (am.use ?_)
        by_cases c : findF (badV nB nT ws) n 0 = 0
        · rw [if_pos c]
          refine brF' (by decide) ((m_keeps (h := sI h 74 0 0) hE (by omega)).mono (fun h5 z5 => ?_))
          obtain ⟨e5, k5⟩ := z5
          have bn : ∀ k, k < n → badV nB nT ws k = false := by
            rcases findF_min (badV nB nT ws) n 0 with ⟨-, a⟩ | ⟨j, -, -, -, a, -⟩
            · exact fun k hk => a k (Nat.zero_le _) (by omega)
            · omega
          have M5 : MdV h5 nB nT tv (pkG pk (snK ws 0)) sn ck := by
            have : pkG pk (snK ws 0) = pk := funext (fun i => pkG_f rfl)
            rw [this]
            exact MsV_eq C.2.2.1 (e5 75 (by omega)).2.1
          have T5 : EqT h h5 := (thr_eq h).t.trans ⟨fun p hp => by rw [(e5 p.1 ((show ∀ p ∈ perF2, ¬ (p.1 = 79) by decide) p hp)).1], fun q hq => (e5 q ((show ∀ p ∈ perA2, ¬ (p = 79) by decide) q hq)).2, fun k hk => by rw [(e5 75 (by omega)).2.1]⟩
          have main : ∀ m k, m + k = n → ∀ hk, FrM h5 hk → hk.2.1 79 = h5.2.1 79 → MdV hk nB nT tv (pkG pk (snK ws k)) sn ck → at_M_voyage_52 E L hk (fun y2 h3 => ans = y2 ∧ Inv h3 (K + 60)) (nI r) (nI (vSm pk lv ws k)) (nI k) := by
            intro m
            induction m with
            | zero =>
              intro k hk hh F f79 M
              rw [show k = n by omega] at M ⊢
              refine B_M_voyage_52 ⟨in94 hr, ?_⟩
              rw [nIc (by omega), show hh.2.1 94 r = nI n by rw [(F.1 94 (by omega)).2.1, (e5 94 (by omega)).2.1]; exact q6]
              refine brT (nI_le (Nat.le_refl _) (by omega)) ((m_isAgain (h := hh) hE (by omega)).mono (fun h6 z6 => ⟨a1 c, ?_⟩))
              refine inv_again I (by omega) hK C (fun q hq => ?_) (T5.trans F.2) M (fun j hj => ?_) z6
              · have s1 := F.1 q (by omega)
                have s2 := e5 q (by omega)
                have s3 : (sI h 74 0 0).1 q = h.1 q := if_neg (by omega)
                exact ⟨(s1.1.trans s2.1).trans s3, s1.2.1.trans s2.2.1⟩
              · rw [f79, k5 j hj]; rfl
            | succ m ih =>
              intro k hk hh F f79 M
              obtain ⟨i, hi, i24, e, ea, es⟩ := badV_no h8 h16 (bn k (by omega))
              refine B_M_voyage_52 ⟨in94 hr, ?_⟩
              rw [show (40 : Int32) = nI 40 from rfl, nI_mul, nI_add, nIc (by omega), nIc (by omega), show hh.2.1 94 r = nI n by rw [(F.1 94 (by omega)).2.1, (e5 94 (by omega)).2.1]; exact q6, show hh.2.2 95 (40 * r + k) = ws k by rw [(F.1 95 (by omega)).2.2, (e5 95 (by omega)).2.2]; exact w95 k (by omega), e, lN_i]
              refine brF (nI_ge (by omega) (by omega)) ⟨in95 (by omega), (m_lifts hE (by omega) M C.2.2.2.1 C.2.2.2.2.1 hp i24).use ?_⟩
              have M' : MdV (sA hh 75 (171 + i) 0) nB nT tv (pkG pk (snK ws (k + 1))) sn ck := by
                have z := sT_MsV M i24
                rw [pkG_up] at z
                have e9 : MdV (sA hh 75 (171 + i) 0) nB nT tv (pkG pk (fun j => snK ws k j || decide (j = i))) sn ck := z
                exact MsV_pk e9 (fun j hj => by unfold pkG; rw [snK_s i24 e j hj])
              have r1 := ih (k + 1) (by omega) _ (F.trans (FrM.s75 (by omega))) ?_ M'
              · rw [nI_add, nI_1]
                unfold vSm at r1 ⊢
                rw [sE_s _ k, ea] at r1
                exact r1
              · rw [← f79]; exact ((EqO.sA (F := fun q => q = 75) rfl) 79 (by omega)).2.1
          exact main n 0 (by omega) h5 FrM.rfl' rfl M5
        · rw [if_neg c]
          exact brT' rfl ⟨a0 c, I.keep (thr_eq h) I.2.2.2.2.2.2 (by omega) hK⟩
      refine B_X_voyage hE (by omega) (p1.use (brT rfl ⟨in13 hr, ?_⟩))
      rw [nIc (by omega), s13]
      refine ar.use ?_
      by_cases c : findF (badV nB nT ws) n 0 = 0
      · rw [if_pos ⟨c, q1⟩]
        have bn : ∀ k, k < n → badV nB nT ws k = false := by
          rcases findF_min (badV nB nT ws) n 0 with ⟨-, a⟩ | ⟨j, -, -, -, a, -⟩
          · exact fun k hk => a k (Nat.zero_le _) (by omega)
          · omega
        exact brF (by decide) ⟨in13 hr, (li bn).use (mm _ (fun z => absurd c z) (fun _ => rfl))⟩
      · rw [if_neg (fun z => c z.1)]
        exact brT rfl (mm _ (fun _ => rfl) (fun z => absurd z c))
  · refine same_rd (x := -2) I hK (RdX.of I.2.2.2.2.2.2 (B_X_voyage hE (by omega) ((x_rowRefusal_no hE (by omega) hu).use (brF (by decide) ⟨rfl, rfl⟩)))) (fun h1 e I1 => ?_)
    exact B_M_voyage hE (by omega) ((m_w_no (a := 0) (b := 3) hE (by omega) (by omega) (by omega) (w3 hu)).use (brT' rfl ⟨rfl, thr_eq _, I1.2.2.2.2.2.2⟩))
end Voy2
