section Even2
variable {E : EnvX} {L : Nat} {h : Hp} {K : Nat}
theorem inv_bx {h1 h5 : Hp} (I : Inv h K) (hK : K + 60 ≤ 100000) (e1 : EqO (fun x => 39 ≤ x ∧ x ≤ 52) h h1) (Z : PickZ h1) (e5 : EqO (fun x => x = 74 ∨ (80 ≤ x ∧ x ≤ 82)) (sI h1 74 0 0) h5) (k5 : ∀ k, k ≠ 19 → h5.1 74 k = (sI h1 74 0 0).1 74 k) : Inv h5 (K + 60) := by
  have sX : EqS h h1 := EqS.of e1 (fun p hp => (show ∀ p ∈ persF, ¬ (39 ≤ p.1 ∧ p.1 ≤ 52) by decide) p hp) (fun p hp => (show ∀ p ∈ persA, ¬ (39 ≤ p ∧ p ≤ 52) by decide) p hp)
  refine I.keep (sX.trans ((thr_eq h1).trans ⟨fun p hp => ?_, fun q hq => ?_⟩)) (PickZ_eq Z (fun a h1 h2 => (e5 a (by omega)).2.1)) (by omega) hK
  · by_cases d : p.1 = 74
    · have : p.2 ≠ 19 := (show ∀ p ∈ persF, p.1 = 74 → p.2 ≠ 19 by decide) p hp d
      rw [d, k5 p.2 this]
    · have : ¬ (80 ≤ p.1 ∧ p.1 ≤ 82) := (show ∀ p ∈ persF, ¬ (80 ≤ p.1 ∧ p.1 ≤ 82) by decide) p hp
      rw [(e5 p.1 (by omega)).1]
  · have : q ≠ 74 ∧ ¬ (80 ≤ q ∧ q ≤ 82) := (show ∀ p ∈ persA, p ≠ 74 ∧ ¬ (80 ≤ p ∧ p ≤ 82) by decide) q hq
    exact (e5 q (by omega)).2
theorem eq_even (hE : EOk E) (hL : 20 ≤ L) (I : Inv h K) (hK : K + 60 ≤ 100000) (u o v w : Int32) : Same E L m_X_even m_M_even [.int u, .int o, .int v, .int w] h K := by
  obtain ⟨nB, nT, tv, pk, lv, sn, ck, hck, C⟩ := I.2.1
  have S := C.1
  have h8 := C.1.2.2.2.1
  have h16 := C.1.2.2.2.2.1
  by_cases hu : ∃ b, b < nB ∧ u = nI b
  · obtain ⟨b, hb, rfl⟩ := hu
    have eb : (nI b).toInt64 = lN b := nI_l (by omega)
    have hx := hasBox_yes (h := h) hE (L := L - 1) (by omega) S hb
    rw [← eb] at hx
    have mb : ∀ h', MdV h' nB nT tv pk sn ck → RdI E (L - 1) m_M_isBox 74 [.long (nI b).toInt64] h' 1 := fun h' M => by rw [eb]; exact m_isBox_yes hE (by omega) M hb
    by_cases hu2 : ∃ b, b < nB ∧ o = nI b
    · obtain ⟨b2, hb2, rfl⟩ := hu2
      have eb2 : (nI b2).toInt64 = lN b2 := nI_l (by omega)
      have hx2 := hasBox_yes (h := h) hE (L := L - 1) (by omega) S hb2
      rw [← eb2] at hx2
      have mb2 : ∀ h', MdV h' nB nT tv pk sn ck → RdI E (L - 1) m_M_isBox 74 [.long (nI b2).toInt64] h' 1 := fun h' M => by rw [eb2]; exact m_isBox_yes hE (by omega) M hb2
      by_cases ne : nI b = nI b2
      · refine same_rd (x := -2) I hK (RdX.of I.2.2.2.2.2.2 (B_X_even hE (by omega) (hx.use (brF (by decide) (hx2.use (brF (by decide) (brT ne ⟨rfl, rfl⟩))))))) (fun h1 e I1 => ?_)
        exact B_M_even hE (by omega) ((mb (sI h1 74 0 0) (C.keep e).2.2.1).use (brF (by decide) ((mb2 (sI h1 74 0 0) (C.keep e).2.2.1).use (brF (by decide) (brT ne ⟨rfl, thr_eq _, I1.2.2.2.2.2.2⟩)))))
      · by_cases hw : ∃ k, k < 2 ∧ w = nI k
        · obtain ⟨k, hk, rfl⟩ := hw
          have w2 : ∀ h1 : Hp, RdI E (L - 1) m_M_within 0 [.long (nI k).toInt64, .long 0, .long 1] h1 1 := fun h1 => m_w_yes (a := 0) (b := 1) hE (by omega) (by omega) (by omega) (by omega)
          have topX : ∀ {post : Int32 → Hp → Prop}, _ → ConI E L m_X_even 0 [.int (nI b), .int (nI b2), .int v, .int (nI k)] h post := fun {post} H => B_X_even hE (by omega) (hx.use (brF (by decide) (hx2.use (brF (by decide) (brF ne (brF (nIneg (by omega)) (brT (show nI k ≤ nI 1 from nI_le (by omega) (by omega)) H)))))))
          have topM : ∀ h1 {post : Int32 → Hp → Prop}, MdV (sI h1 74 0 0) nB nT tv pk sn ck → _ → ConI E L m_M_even 74 [.int (nI b), .int (nI b2), .int v, .int (nI k)] h1 post := fun h1 {post} M H => B_M_even hE (by omega) ((mb _ M).use (brF (by decide) ((mb2 _ M).use (brF (by decide) (brF ne ((w2 _).use (brF' (by decide) H)))))))
          rcases thingSet (pk := pk) (sn := sn) (ck := ck) hE (L := L - 1) (by omega) S v with ⟨t1, t2⟩ | ⟨t1, t2, -⟩
          · refine same_rd (x := -3) I hK (RdX.of I.2.2.2.2.2.2 (topX (t1.use (brT' rfl ⟨rfl, rfl⟩)))) (fun h1 e I1 => ?_)
            have M1 : MdV (sI h1 74 0 0) nB nT tv pk sn ck := (C.keep e).2.2.1
            exact topM h1 M1 ((t2 _ M1).use (brT' rfl ⟨rfl, thr_eq _, I1.2.2.2.2.2.2⟩))
          · refine topX (t1.use (brF' (by decide) ((pc_pick hE (by omega) S I.2.2.2.2.2.2 v (mx := 10) (by omega)).mono (fun h2 z2 => ?_))))
            obtain ⟨eX, zX, P2⟩ := z2
            have nle := nF_le (W := wS v (fun _ => true)) (mx := 10)
            have S2 : StV h2 1 nB nT tv := S.keep eX (by omega) (by omega)
            have M2 : MdV (sI h2 74 0 0) nB nT tv pk sn ck := MsV_eq C.2.2.1 (show h2.2.1 75 = _ from (eX 75 (by omega)).2.1)
            have tf := m_takesFew hE (L := L - 1) (by omega) M2 v (mx := 10) (fl := 0) (by omega) (by omega)
            rw [show wS v (flP pk 0) = wS v (fun _ => true) from rfl] at tf
            generalize nF (wS v (fun _ => true)) 10 = n at *
            generalize itK (wS v (fun _ => true)) = mem at *
            have p4 := pow11 (n := n) (by omega)
            have ay := fun z => am_yes (p := evP tv mem n b b2) (f := evF tv mem n) (n := 2 ^ n) z
            have A1 : (am (evP tv mem n b b2) (evF tv mem n) (2 ^ n)).1 ≤ 2 ^ n := by
              by_cases z : (am (evP tv mem n b b2) (evF tv mem n) (2 ^ n)).1 = 0
              · omega
              · exact (ay z).1
            obtain ⟨vb, mvb, rb⟩ := pc_bits hE (L := L - 1) (by omega) P2.1 (c := (am (evP tv mem n b b2) (evF tv mem n) (2 ^ n)).1 - 1) (by omega)
            have mm : ∀ ans : Int32, ((am (evP tv mem n b b2) (evF tv mem n) (2 ^ n)).1 = 0 → ans = -1) → ((am (evP tv mem n b b2) (evF tv mem n) (2 ^ n)).1 ≠ 0 → k = 0 → ans = nI (am (evP tv mem n b b2) (evF tv mem n) (2 ^ n)).2) → ((am (evP tv mem n b b2) (evF tv mem n) (2 ^ n)).1 ≠ 0 → k = 1 → ans = vb) → ConI E L m_M_even 74 [.int (nI b), .int (nI b2), .int v, .int (nI k)] h2 (fun y2 h3 => ans = y2 ∧ Inv h3 (K + 60)) := by
              intro ans a0 a1 a2
              refine topM h2 M2 ((t2 _ M2).use (brF' (by decide) (tf.mono (fun h4 z4 => ?_))))
              obtain ⟨e4, k4, F4⟩ := z4
              have M4 : MdV h4 nB nT tv pk sn ck := MsV_eq M2 (e4 75 (by omega)).2.1
              refine (m_laysBoxes hE (by omega) M4 F4 (by omega)).mono (fun h5 z5 => ?_)
              obtain ⟨e5, f5, -⟩ := z5
              have F5 : FwV h5 n mem := ⟨by rw [(e5 74 (by omega)).1]; exact F4.1, F4.2.1, fun k hk => by rw [(e5 80 (by omega)).2.1]; exact F4.2.2 k hk⟩
              have M5 : MdV h5 nB nT tv pk sn ck := MsV_eq M4 (e5 75 (by omega)).2.1
              have I5 : Inv h5 (K + 60) := inv_bx I hK (eX.wk (fun x z => by omega)) zX ((e4.wk (fun x z => by omega)).trans (e5.wk (fun x z => by omega))) (fun k hk => by rw [(e5 74 (by omega)).1]; exact k4 k hk)
              have m24 : ∀ k, k < n → mem k < 24 := fun k hk => (F4.2.2 k hk).2
              rw [F5.1, shlN (by omega), pred1 (by omega)]
              have main : ∀ f c, f + c = 2 ^ n → at_M_even_84 E L h5 (fun y2 h3 => ans = y2 ∧ Inv h3 (K + 60)) (nI b) (nI b2) (nI k) (nI (2 ^ n - 1)) (bx (am (evP tv mem n b b2) (evF tv mem n) c).1) (nI (am (evP tv mem n b b2) (evF tv mem n) c).2) (nI c) := by
                intro f
                induction f with
                | zero =>
                  intro c hc
                  rw [show c = 2 ^ n by omega]
                  refine B_M_even_84 (brT (nI_lt (by omega) (by omega)) ?_)
                  rw [bx_m1 (by omega), nI_z (by omega)]
                  refine ⟨fun A0 => ⟨fun k0 => ?_, fun k0 => ⟨a1 A0 k0, I5⟩⟩, fun A0 => ⟨a0 A0, I5⟩⟩
                  rw [bx_pos (by omega)]
                  exact (m_asItems hE (by omega) F5 (by omega) mvb).use ⟨a2 A0 (by omega), I5⟩
                | succ f ih =>
                  intro c hc
                  have hcn : c < 2 ^ n := by omega
                  have xl : (2 ^ n - 1) ^^^ c < 2 ^ n := Nat.xor_lt_two_pow (by omega) hcn
                  have ih1 := ih (c + 1) (by omega)
                  have s1 := sF_le (c := c) (w := 3) M5 F4.2.1 m24 (by omega)
                  have s2 := sF_le (c := 2 ^ n - 1) (w := 3) M5 F4.2.1 m24 (by omega)
                  have aN := am_no (p := evP tv mem n b b2) (f := evF tv mem n) (k := c)
                  have aU := am_up (p := evP tv mem n b b2) (f := evF tv mem n) (k := c)
                  have aK := am_kp (p := evP tv mem n b b2) (f := evF tv mem n) (k := c)
                  have fb : ∀ x, evF tv mem n x < 1000000 := fun x => by
                    have s3 := sF_le (c := x) (w := 3) M5 F4.2.1 m24 (by omega)
                    unfold evF dif; split <;> omega
                  have A1' : (am (evP tv mem n b b2) (evF tv mem n) c).1 ≤ c ∧ (am (evP tv mem n b b2) (evF tv mem n) c).2 < 1000000 := by
                    by_cases z : (am (evP tv mem n b b2) (evF tv mem n) c).1 = 0
                    · rw [am_zero z]; omega
                    · obtain ⟨q1, q2, q3⟩ := am_yes (p := evP tv mem n b b2) (f := evF tv mem n) (n := c) z
                      exact ⟨q1, by rw [q3]; exact fb _⟩
                  have fl : evF tv mem n c < 1000000 := by unfold evF dif; split <;> omega
                  generalize am (evP tv mem n b b2) (evF tv mem n) (c + 1) = A' at *
                  generalize am (evP tv mem n b b2) (evF tv mem n) c = A at *
                  have no : evP tv mem n b b2 c = false → at_M_even_84 E L h5 (fun y2 h3 => ans = y2 ∧ Inv h3 (K + 60)) (nI b) (nI b2) (nI k) (nI (2 ^ n - 1)) (bx A.1) (nI A.2) (nI (c + 1)) := fun q => by rw [aN q] at ih1; exact ih1
                  refine B_M_even_84 (brF (nI_nlt (by omega) (by omega)) ?_)
                  rw [xorN (by omega) (by omega), show (1024 : Int32) = nI 1024 from rfl, nI_mul, nI_mul, nI_add, nI_add, nIc (show 1024 * b + c < 2147483648 by omega), nIc (show 1024 * b2 + ((2 ^ n - 1) ^^^ c) < 2147483648 by omega), f5 b c hb hcn, f5 b2 _ hb2 xl, nI_1]
                  refine ⟨in81 (by omega), ?_⟩
                  by_cases g1 : goB tv mem n b c = true
                  · rw [if_pos g1]
                    refine brF (by decide) ⟨in81 (by omega), ?_⟩
                    by_cases g2 : goB tv mem n b2 ((2 ^ n - 1) ^^^ c) = true
                    · rw [if_pos g2]
                      have ev : evP tv mem n b b2 c = true := by unfold evP; rw [g1, g2]; rfl
                      refine brF' (by decide) ((m_sumOf hE (by omega) M5 F5 (w := 3) (by omega) (by omega)).use ((m_sumOf hE (by omega) M5 F5 (c := 2 ^ n - 1) (w := 3) (by omega) (by omega)).use ?_))
                      rw [show (2 : Int32) = nI 2 from rfl, nI_mul]
                      obtain ⟨d1, d2⟩ := dif_m (a := 2 * sF tv mem 3 n c) (b := sF tv mem 3 n (2 ^ n - 1)) (by omega) (by omega)
                      have upd : ∀ V : Int32, V = nI (evF tv mem n c) → ((bx A.1 = -1 → at_M_even_84 E L h5 (fun y2 h3 => ans = y2 ∧ Inv h3 (K + 60)) (nI b) (nI b2) (nI k) (nI (2 ^ n - 1)) (nI c) V (nI (c + 1))) ∧ (¬ bx A.1 = -1 → ((V < nI A.2 → at_M_even_84 E L h5 (fun y2 h3 => ans = y2 ∧ Inv h3 (K + 60)) (nI b) (nI b2) (nI k) (nI (2 ^ n - 1)) (nI c) V (nI (c + 1))) ∧ (¬ V < nI A.2 → at_M_even_84 E L h5 (fun y2 h3 => ans = y2 ∧ Inv h3 (K + 60)) (nI b) (nI b2) (nI k) (nI (2 ^ n - 1)) (bx A.1) (nI A.2) (nI (c + 1)))))) := fun V eV => by
                        rw [eV, bx_m1 (by omega), nIt (by omega) (by omega)]
                        refine ⟨fun A0 => ?_, fun A0 => ⟨fun d => ?_, fun d => ?_⟩⟩
                        · rw [aU ev (Or.inl A0), show ((c + 1, evF tv mem n c) : Nat × Nat).1 = c + 1 from rfl, bx_S] at ih1; exact ih1
                        · rw [aU ev (Or.inr d), show ((c + 1, evF tv mem n c) : Nat × Nat).1 = c + 1 from rfl, bx_S] at ih1; exact ih1
                        · rw [aK ev A0 d] at ih1; exact ih1
                      exact ⟨fun q => upd _ (d1 q), fun q => upd _ (d2 q)⟩
                    · rw [if_neg g2]
                      exact brT' rfl (no (by unfold evP; rw [show goB tv mem n b2 ((2 ^ n - 1) ^^^ c) = false by simpa using g2, Bool.and_false]))
                  · rw [if_neg g1]
                    exact brT rfl (no (by unfold evP; rw [show goB tv mem n b c = false by simpa using g1, Bool.false_and]))
              exact main (2 ^ n) 0 (by omega)
            refine (pc_evenest hE (by omega) S2 P2 (show b < 24 by omega) (show b2 < 24 by omega)).use ?_
            rw [bx_m1 (by omega), nI_z (by omega)]
            refine ⟨fun A0 => ?_, fun A0 => mm _ (fun _ => rfl) (fun z => absurd A0 z) (fun z => absurd A0 z)⟩
            obtain ⟨q1, q2, q3⟩ := ay A0
            rw [bx_pos (by omega)]
            refine ⟨fun k0 => rb.use (mm _ (fun z => absurd z A0) (fun _ z => absurd z k0) (fun _ _ => rfl)), fun k0 => ?_⟩
            have pa := pc_apart hE (L := L - 1) (by omega) S2 P2 (show (am (evP tv mem n b b2) (evF tv mem n) (2 ^ n)).1 - 1 < 2 ^ n by omega)
            rw [← q3] at pa
            exact pa.use (mm _ (fun z => absurd z A0) (fun _ _ => rfl) (fun _ z => by omega))
        · have hv2 := not_small (n := 2) (by omega) hw
          refine same_rd (x := -2) I hK (RdX.of I.2.2.2.2.2.2 ?_) (fun h1 e I1 => ?_)
          · refine B_X_even hE (by omega) (hx.use (brF (by decide) (hx2.use (brF (by decide) (brF ne ?_)))))
            by_cases c : w < 0
            · exact brT c ⟨rfl, rfl⟩
            · refine brF c (brF (fun z => ?_) ⟨rfl, rfl⟩)
              have c2 := hv2.resolve_left c
              rw [i32_le, nI_int (by omega)] at c2
              rw [i32_le] at z
              have e40 : (1 : Int32).toInt = 1 := rfl
              omega
          · exact B_M_even hE (by omega) ((mb (sI h1 74 0 0) (C.keep e).2.2.1).use (brF (by decide) ((mb2 (sI h1 74 0 0) (C.keep e).2.2.1).use (brF (by decide) (brF ne ((m_w_no (a := 0) (b := 1) hE (by omega) (by omega) (by omega) (fun ⟨k, _, q, r⟩ => hw ⟨k, by omega, r⟩)).use (brT' rfl ⟨rfl, thr_eq _, I1.2.2.2.2.2.2⟩)))))))
    · refine same_rd (x := -2) I hK (RdX.of I.2.2.2.2.2.2 (B_X_even hE (by omega) (hx.use (brF (by decide) ((hasBox_no hE (by omega) S (noBox h8 hu2)).use (brT rfl ⟨rfl, rfl⟩)))))) (fun h1 e I1 => ?_)
      exact B_M_even hE (by omega) ((mb (sI h1 74 0 0) (C.keep e).2.2.1).use (brF (by decide) ((m_isBox_no (h := sI h1 74 0 0) hE (by omega) (C.keep e).2.2.1 (noBox h8 hu2)).use (brT rfl ⟨rfl, thr_eq _, I1.2.2.2.2.2.2⟩))))
  · refine same_rd (x := -2) I hK (RdX.of I.2.2.2.2.2.2 ?_) (fun h1 e I1 => ?_)
    · exact B_X_even hE (by omega) ((hasBox_no hE (by omega) S (noBox h8 hu)).use (brT rfl ⟨rfl, rfl⟩))
    · exact B_M_even hE (by omega) ((m_isBox_no (h := sI h1 74 0 0) hE (by omega) (C.keep e).2.2.1 (noBox h8 hu)).use (brT rfl ⟨rfl, thr_eq _, I1.2.2.2.2.2.2⟩))
end Even2
