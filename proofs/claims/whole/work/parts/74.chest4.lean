section Chest4
variable {E : EnvX} {L : Nat} {h : Hp} {K : Nat}
def chG (x : Nat) : Prop := (39 ≤ x ∧ x ≤ 44) ∨ (59 ≤ x ∧ x ≤ 63)
theorem inv_ch {h1 h5 : Hp} (I : Inv h K) (hK : K + 60 ≤ 100000) (e1 : EqO chG h h1) (Z : PickZ h1) (e5 : EqO (fun x => x = 74 ∨ x = 80 ∨ (90 ≤ x ∧ x ≤ 92)) (sI h1 74 0 0) h5) (k5 : ∀ k, k ≠ 19 → h5.1 74 k = (sI h1 74 0 0).1 74 k) : Inv h5 (K + 60) := by
  have sX : EqS h h1 := EqS.of e1 (fun p hp => (show ∀ p ∈ persF, ¬ ((39 ≤ p.1 ∧ p.1 ≤ 44) ∨ (59 ≤ p.1 ∧ p.1 ≤ 63)) by decide) p hp) (fun p hp => (show ∀ p ∈ persA, ¬ ((39 ≤ p ∧ p ≤ 44) ∨ (59 ≤ p ∧ p ≤ 63)) by decide) p hp)
  refine I.keep (sX.trans ((thr_eq h1).trans ⟨fun p hp => ?_, fun q hq => ?_⟩)) (PickZ_eq Z (fun a h1 h2 => (e5 a (by omega)).2.1)) (by omega) hK
  · by_cases d : p.1 = 74
    · have : p.2 ≠ 19 := (show ∀ p ∈ persF, p.1 = 74 → p.2 ≠ 19 by decide) p hp d
      rw [d, k5 p.2 this]
    · have : p.1 ≠ 80 ∧ ¬ (90 ≤ p.1 ∧ p.1 ≤ 92) := (show ∀ p ∈ persF, p.1 ≠ 80 ∧ ¬ (90 ≤ p.1 ∧ p.1 ≤ 92) by decide) p hp
      rw [(e5 p.1 (by omega)).1]
  · have : q ≠ 74 ∧ q ≠ 80 ∧ ¬ (90 ≤ q ∧ q ≤ 92) := (show ∀ p ∈ persA, p ≠ 74 ∧ p ≠ 80 ∧ ¬ (90 ≤ p ∧ p ≤ 92) by decide) q hq
    exact (e5 q (by omega)).2
theorem ch_found (hE : EOk E) (hL : 1 ≤ L) {q : Nat → Bool} {n c : Nat} (V : ChV h q n c) : RdI E L m_Chest_found 59 [] h (nI (cB q c)) := B_Chest_found hE hL ⟨V.1, rfl⟩
theorem eq_chest (hE : EOk E) (hL : 20 ≤ L) (I : Inv h K) (hK : K + 60 ≤ 100000) (u v n w : Int32) : Same E L m_X_chest m_M_chest [.int u, .int v, .int n, .int w] h K := by
  obtain ⟨nB, nT, tv, pk, lv, sn, ck, hck, C⟩ := I.2.1
  rcases chest_ways (L := L - 1) hE (by omega) I C u v n w with ⟨a, b⟩ | ⟨a, b⟩ | ⟨b, x, y, hb, hx, hy, rfl, rfl, rfl, a, c⟩
  · exact same_rd (x := -2) I hK (RdX.of I.2.2.2.2.2.2 (B_X_chest hE (by omega) (a.use (brF (by decide) ⟨rfl, rfl⟩)))) (fun h1 e I1 => B_M_chest hE (by omega) ((b (sI h1 74 0 0) (C.keep e).2.2.1).use (brT' rfl ⟨rfl, thr_eq _, I1.2.2.2.2.2.2⟩)))
  · exact same_rd (x := -3) I hK (RdX.of I.2.2.2.2.2.2 (B_X_chest hE (by omega) (a.use (brF (by decide) ⟨rfl, rfl⟩)))) (fun h1 e I1 => B_M_chest hE (by omega) ((b (sI h1 74 0 0) (C.keep e).2.2.1).1.use (brF' (by decide) ((b (sI h1 74 0 0) (C.keep e).2.2.1).2.use (brT rfl ⟨rfl, thr_eq _, I1.2.2.2.2.2.2⟩)))))
  · refine B_X_chest hE (by omega) (a.mono (fun z h1 zz => ?_))
    obtain ⟨z0, e1, Z1, P1, V1⟩ := zz
    have M1 : MdV (sI h1 74 0 0) nB nT tv pk sn ck := MsV_eq C.2.2.1 (show h1.2.1 75 = _ from (e1 75 (by unfold chF; omega)).2.1)
    refine brT z0 ((ch_found hE (by omega) V1).use ?_)
    refine B_M_chest hE (by omega) ((c _ M1).1.use (brF' (by decide) ((c _ M1).2.use (brF (by decide) ((m_laysChest hE (by omega) M1 v (by have := C.1.2.2.2.1; omega) hx hy).mono (fun y5 h5 z5 => ?_))))))
    obtain ⟨rfl, e5, k5, -, -⟩ := z5
    exact ⟨rfl, inv_ch I hK (e1.wk (fun x z => by unfold chF at z; unfold chG; omega)) Z1 (e5.wk (fun x z => by omega)) k5⟩
theorem eq_sounded (hE : EOk E) (hL : 20 ≤ L) (I : Inv h K) (hK : K + 60 ≤ 100000) (u v n w : Int32) : Same E L m_X_sounded m_M_sounded [.int u, .int v, .int n, .int w] h K := by
  obtain ⟨nB, nT, tv, pk, lv, sn, ck, hck, C⟩ := I.2.1
  have S := C.1
  have h8 := C.1.2.2.2.1
  have h16 := C.1.2.2.2.2.1
  by_cases hu : ∃ b, b < nB ∧ u = nI b
  · obtain ⟨b, hb, rfl⟩ := hu
    have eb : (nI b).toInt64 = lN b := nI_l (by omega)
    have hx := hasBox_yes (h := h) hE (L := L - 1) (by omega) S hb
    rw [← eb] at hx
    have mb : ∀ h', MdV h' nB nT tv pk sn ck → RdI E (L - 1) m_M_isBox 74 [.long (nI b).toInt64] h' 1 := fun h' M => by rw [eb]; exact m_isBox_yes hE (by omega) M hb
    have ho := x_hasOnly (h := h) hE (L := L - 1) (by omega) v (tAll nT)
    by_cases hs : v &&& (tAll nT ^^^ (-1)) = 0
    · rw [if_pos hs] at ho
      by_cases hn : n < 0
      · refine same_rd (x := -3) I hK (RdX.of I.2.2.2.2.2.2 (B_X_sounded hE (by omega) (hx.use (brF' (by decide) ((st_thingBits hE (by omega) S).use (ho.use (brF (by decide) (brT hn ⟨rfl, rfl⟩)))))))) (fun h1 e I1 => ?_)
        exact B_M_sounded hE (by omega) ((mb (sI h1 74 0 0) (C.keep e).2.2.1).use (brF' (by decide) ((m_thingsAll (h := sI h1 74 0 0) hE (by omega) (C.keep e).2.2.1).use (brT' hs (brT hn ⟨rfl, thr_eq _, I1.2.2.2.2.2.2⟩)))))
      · by_cases hw : w < 0
        · refine same_rd (x := -3) I hK (RdX.of I.2.2.2.2.2.2 (B_X_sounded hE (by omega) (hx.use (brF' (by decide) ((st_thingBits hE (by omega) S).use (ho.use (brF (by decide) (brF hn (brF (fun z => absurd hw (nlt_le.mpr z)) ⟨rfl, rfl⟩))))))))) (fun h1 e I1 => ?_)
          exact B_M_sounded hE (by omega) ((mb (sI h1 74 0 0) (C.keep e).2.2.1).use (brF' (by decide) ((m_thingsAll (h := sI h1 74 0 0) hE (by omega) (C.keep e).2.2.1).use (brT' hs (brF hn (brF (fun z => absurd hw (nlt_le.mpr z)) ⟨rfl, thr_eq _, I1.2.2.2.2.2.2⟩))))))
        · obtain ⟨x, hx2, rfl⟩ := nI_of hn
          obtain ⟨y, hy2, rfl⟩ := nI_of hw
          refine B_X_sounded hE (by omega) (hx.use (brF' (by decide) ((st_thingBits hE (by omega) S).use (ho.use (brF (by decide) (brF hn (brT (nlt_le.mp hw) ((ch_sound hE (by omega) S I.2.2.2.2.2.2 v (show b < 24 by omega) hx2 hy2).mono (fun h1 zz => ?_)))))))))
          obtain ⟨e1, Z1, P1, V1⟩ := zz
          have M1 : MdV (sI h1 74 0 0) nB nT tv pk sn ck := MsV_eq C.2.2.1 (show h1.2.1 75 = _ from (e1 75 (by unfold chF; omega)).2.1)
          refine (ch_found hE (by omega) V1).use ?_
          refine B_M_sounded hE (by omega) ((mb _ M1).use (brF' (by decide) ((m_thingsAll hE (by omega) M1).use (brT' hs (brF hn (brT (nlt_le.mp hw) ((m_takesFew hE (by omega) M1 v (mx := 12) (fl := 0) (by omega) (by omega)).mono (fun h4 z4 => ?_))))))))
          obtain ⟨e4, k4, F4⟩ := z4
          rw [show wS v (flP pk 0) = wS v (fun _ => true) from rfl] at F4
          generalize nF (wS v (fun _ => true)) 12 = m at *
          generalize itK (wS v (fun _ => true)) = mem at *
          have n12 := F4.2.1
          have p4 := pow13 (n := m) (by omega)
          have M4 : MdV h4 nB nT tv pk sn ck := MsV_eq M1 (e4 75 (by omega)).2.1
          have t6 := (M4.2.2.1 b 6 (by omega) (by omega)).2
          have t0 := (M4.2.2.1 b 0 (by omega) (by omega)).2
          have t5 := (M4.2.2.1 b 5 (by omega) (by omega)).2
          have mul : tv b 0 * tv b 5 ≤ 9999 * 9999 := Nat.mul_le_mul t0 t5
          have I4 : Inv h4 (K + 60) := inv_ch I hK (e1.wk (fun x z => by unfold chF at z; unfold chG; omega)) Z1 (e4.wk (fun x z => by omega)) k4
          have main : ∀ f c, f + c = 2 ^ m → at_M_sounded_54 E L h4 (fun y2 h3 => nI (cB (qS tv mem m b x y) (2 ^ m)) = y2 ∧ Inv h3 (K + 60)) (nI b) (nI x) (nI y) (nI (cB (qS tv mem m b x y) c)) (nI c) := by
            intro f
            induction f with
            | zero =>
              intro c hc
              rw [show c = 2 ^ m by omega]
              refine B_M_sounded_54 ?_
              rw [F4.1, shlN (by omega)]
              exact brT (nI_le (Nat.le_refl _) (by omega)) ⟨rfl, I4⟩
            | succ f ih =>
              intro c hc
              have hcn : c < 2 ^ m := by omega
              have m24 : ∀ k, k < m → mem k < 24 := fun k hk => (F4.2.2 k hk).2
              have s2 := sF_le (c := c) (w := 2) M4 n12 m24 (by omega)
              have s0 := sF_le (c := c) (w := 0) M4 n12 m24 (by omega)
              have ih1 := ih (c + 1) (by omega)
              rw [cB_s] at ih1
              have no : qS tv mem m b x y c = false → at_M_sounded_54 E L h4 (fun y2 h3 => nI (cB (qS tv mem m b x y) (2 ^ m)) = y2 ∧ Inv h3 (K + 60)) (nI b) (nI x) (nI y) (nI (cB (qS tv mem m b x y) c)) (nI (c + 1)) := fun q => by
                rw [if_neg (by rw [q]; decide), Nat.add_zero] at ih1; exact ih1
              refine B_M_sounded_54 ?_
              rw [F4.1, shlN (by omega), addz, nI_1, nI_1]
              refine brF (nI_ge hcn (by omega)) ((m_sumOf hE (by omega) M4 F4 (w := 2) (by omega) (by omega)).use ?_)
              rw [nIe (by omega) (by omega)]
              refine ⟨fun d => no (by unfold qS; rw [decide_eq_false d]; rfl), fun d => (m_sumOf hE (by omega) M4 F4 (w := 0) (by omega) (by omega)).use ?_⟩
              rw [nIe (by omega) (by omega)]
              refine ⟨fun d2 => no (by unfold qS; rw [decide_eq_false d2, Bool.false_and, Bool.and_false]), fun d2 => (m_passes hE (by omega) M4 F4 (by omega) (by omega)).use ?_⟩
              by_cases p1 : psB tv mem m c (tv b 4) = true
              · rw [if_pos p1]
                refine brF (by decide) ((m_of hE (by omega) M4 (k := 6) (by omega) (by omega)).use ?_)
                rw [nIt (by omega) (by omega)]
                refine ⟨fun d3 => no (by unfold qS goB; rw [decide_eq_false (show ¬ sF tv mem 2 m c ≤ tv b 6 by omega)]; simp), fun d3 => ?_⟩
                refine (m_of hE (by omega) M4 (k := 0) (by omega) (by omega)).use ((m_of hE (by omega) M4 (k := 5) (by omega) (by omega)).use ?_)
                rw [nI_mul, nIt (by omega) (by omega)]
                refine ⟨fun d4 => no (by unfold qS goB; rw [decide_eq_false (show ¬ sF tv mem 0 m c ≤ tv b 0 * tv b 5 by omega)]; simp), fun d4 => ?_⟩
                have qt : qS tv mem m b x y c = true := by unfold qS goB; rw [decide_eq_true d, decide_eq_true d2, p1, decide_eq_true (show sF tv mem 2 m c ≤ tv b 6 by omega), decide_eq_true (show sF tv mem 0 m c ≤ tv b 0 * tv b 5 by omega)]; rfl
                rw [if_pos qt] at ih1
                exact ih1
              · rw [if_neg p1]
                exact brT rfl (no (by unfold qS goB; rw [show psB tv mem m c (tv b 4) = false by simpa using p1]; simp))
          exact main (2 ^ m) 0 (by omega)
    · rw [if_neg hs] at ho
      refine same_rd (x := -3) I hK (RdX.of I.2.2.2.2.2.2 (B_X_sounded hE (by omega) (hx.use (brF' (by decide) ((st_thingBits hE (by omega) S).use (ho.use (brT rfl ⟨rfl, rfl⟩))))))) (fun h1 e I1 => ?_)
      exact B_M_sounded hE (by omega) ((mb (sI h1 74 0 0) (C.keep e).2.2.1).use (brF' (by decide) ((m_thingsAll (h := sI h1 74 0 0) hE (by omega) (C.keep e).2.2.1).use (brF' hs ⟨rfl, thr_eq _, I1.2.2.2.2.2.2⟩))))
  · refine same_rd (x := -2) I hK (RdX.of I.2.2.2.2.2.2 ?_) (fun h1 e I1 => ?_)
    · exact B_X_sounded hE (by omega) ((hasBox_no hE (by omega) S (noBox h8 hu)).use (brT' rfl ⟨rfl, rfl⟩))
    · exact B_M_sounded hE (by omega) ((m_isBox_no (h := sI h1 74 0 0) hE (by omega) (C.keep e).2.2.1 (noBox h8 hu)).use (brT' rfl ⟨rfl, thr_eq _, I1.2.2.2.2.2.2⟩))
end Chest4
