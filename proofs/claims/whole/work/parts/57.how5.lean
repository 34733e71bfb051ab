section How5
variable {E : EnvX} {L : Nat} {h : Hp} {K : Nat}
theorem wrg_in {pk : Nat → Nat} {tv : Nat → Nat → Nat} {nB : Nat} (h : (wrg pk tv nB 0).1 = 0) : fIn pk nB = 0 := Classical.byContradiction fun c => by
  unfold wrg at h
  rw [blm_0, blm_y c, blm_p (a := 2) (by decide), blm_p (a := 2) (by decide), blm_p (a := 2) (by decide)] at h
  cases h
theorem fIn_acy {pk : Nat → Nat} {nB : Nat} (hp : ∀ i, i < 24 → pk i ≤ nB) (h8 : nB ≤ 8) (h : fIn pk nB = 0) : acy pk := by
  refine acy_of hp h8 (fun b hb => ?_)
  rcases findF_min (fun b => wi pk (b + 1) 8 (b + 1)) nB 0 with ⟨-, a⟩ | ⟨j, -, -, -, a, -⟩
  · exact a b (Nat.zero_le _) (by omega)
  · unfold fIn at h; omega
theorem wrg_lt {pk : Nat → Nat} {tv : Nat → Nat → Nat} {nB st : Nat} : (wrg pk tv nB st).1 < 100 := by
  have b : ∀ (z : Nat × Nat) kd c, z.1 < 100 → kd < 100 → (blm z kd c).1 < 100 := fun z kd c hz hk => by
    unfold blm; split
    · exact hz
    · split
      · exact hz
      · exact hk
  unfold wrg
  exact b _ _ _ (b _ _ _ (b _ _ _ (b _ _ _ (b _ _ _ (by decide) (by decide)) (by decide)) (by decide)) (by decide)) (by decide)
theorem in32 {v : Int32} {T : Nat} (hT : T < 2147483648) : (0 ≤ v ∧ v < nI T) ↔ ∃ k, k < T ∧ v = nI k := by
  constructor
  · rintro ⟨q1, q2⟩
    rw [i32_le] at q1
    rw [i32_lt, nI_int hT] at q2
    have e0 : (0 : Int32).toInt = 0 := rfl
    refine ⟨v.toInt.toNat, by omega, ?_⟩
    rw [i32_eq, nI_int (by omega)]
    omega
  · rintro ⟨k, q, rfl⟩
    rw [i32_le, i32_lt, nI_int (by omega), nI_int hT]
    have e0 : (0 : Int32).toInt = 0 := rfl
    omega
theorem inL32 {v : Int32} {T : Nat} (hT : T ≤ 100) : (¬ v.toInt64 < 0 ∧ ¬ (nI T - 1).toInt64 < v.toInt64) ↔ ∃ k, k < T ∧ v = nI k := by
  have h1 : (v.toInt64).toInt = v.toInt := Int32.toInt_toInt64 v
  rw [i64_lt, i64_lt, h1, sub1_64 hT]
  have e0 : (0 : Int64).toInt = 0 := rfl
  constructor
  · rintro ⟨q1, q2⟩
    refine ⟨v.toInt.toNat, by omega, ?_⟩
    rw [i32_eq, nI_int (by omega)]
    omega
  · rintro ⟨k, q, rfl⟩
    rw [nI_int (by omega)]
    omega
/-- with a wrong kind the reference's loop ends at once -/
theorem m_how79w {nB nT : Nat} {tv : Nat → Nat → Nat} {pk sn : Nat → Nat} {ck : Nat} {post : Int32 → Hp → Prop} (hE : EOk E) (hL : 3 ≤ L) (M : MdV h nB nT tv pk sn ck) (hk0 : ¬ h.1 74 17 = 0) {v2 : Int32} (H : ConV E (L - 1) m_M_isAgain 74 [] h (fun h' => ¬ h'.1 74 17 = 0 ∧ post (-5) h')) : at_M_how_79 E L h post v2 0 0 0 := by
  refine B_M_how_79 ((m_itemMany hE (by omega) M).use ⟨fun _ => H.mono (fun h5 z => brF z.1 z.2), fun _ => brF' hk0 (H.mono (fun h5 z => brF z.1 z.2))⟩)
theorem eq_how (hE : EOk E) (hL : 20 ≤ L) (I : Inv h K) (hK : K + 60 ≤ 100000) (u v : Int32) : Same E L m_X_how m_M_how [.int u, .int v] h K := by
  obtain ⟨nB, nT, tv, pk, lv, sn, ck, hck, C⟩ := I.2.1
  have h8 := C.1.2.2.2.1
  have h16 := C.1.2.2.2.2.1
  by_cases hu : ∃ r, r < 4 ∧ u = nI r
  · obtain ⟨r, hr, rfl⟩ := hu
    obtain ⟨s13, c13⟩ := sh13 hr
    have w1 : ∀ h1 : Hp, RdI E (L - 1) m_M_within 0 [.long (nI r).toInt64, .long 0, .long 3] (sI h1 74 0 0) 1 := fun h1 => m_w_yes (a := 0) (b := 3) hE (by omega) (by omega) (by omega) (by omega)
    have p1 := x_packRef (h := h) hE (L := L - 1) (by omega) hr C.1 (I.2.2.1 r hr)
    rcases I.2.2.1 r hr with ⟨q1, q2⟩ | ⟨n, s, q1, q2, q3, q4, q5, q6, q7⟩
    · rw [if_pos q1] at p1
      refine same_rd (x := -6) I hK (RdX.of I.2.2.2.2.2.2 (B_X_how hE (by omega) (p1.use (brF (by decide) ⟨rfl, rfl⟩)))) (fun h1 e I1 => ?_)
      refine B_M_how hE (by omega) ((w1 h1).use (brF' (by decide) ⟨in93 hr, ?_⟩))
      rw [nIc (by omega), show (sI h1 74 0 0).2.1 93 r = h.2.1 93 r by rw [sI_A, e.a 93]]
      exact brT' q2 ⟨rfl, thr_eq _, I1.2.2.2.2.2.2⟩
    · rw [q3, if_neg (nIm1 (by omega))] at p1
      have ps : ¬ (h.2.1 93 r) = -1 := by rw [q5]; exact nIm1 (by omega)
      by_cases cn : n = nB + nT
      · subst cn
        rw [if_pos rfl] at p1
        refine B_X_how hE (by omega) (p1.use (brT rfl ⟨in13 hr, ?_⟩))
        rw [nIc (by omega), s13]
        have rd := pk_read (h := h) hE (L := L - 1) (by omega) C.1 c13 (by omega) q3
        have stl := stK_le (ws := h.2.2 (14 + 2 * r + 1)) h8 h16 (nB + nT) (Nat.le_refl _)
        have wsE : ∀ j, j < nB + nT → h.2.2 95 (40 * r + j) = h.2.2 (14 + 2 * r + 1) j := fun j hj => by rw [← q7 j hj, show 15 + 2 * r = 14 + 2 * r + 1 by omega]
        generalize hws : h.2.2 (14 + 2 * r + 1) = ws at rd stl wsE
        refine rd.mono (fun y h1 z => ?_)
        obtain ⟨-, e1, a1, Y1⟩ := z
        refine (pk_findWrong hE (by omega) (C.1.keep e1 (by omega) (by omega)) Y1 a1 (by omega)).mono (fun h2 z2 => ?_)
        obtain ⟨e2, b3, b4⟩ := z2
        have Y2 : LyV h2 36 (pkU nB nT ws (nB + nT)) (fun _ => 0) := LyV_eq Y1 (e2 37 (by omega)).2.1 (e2 38 (by omega)).2.1
        have eX : EqO (fun q => 35 ≤ q ∧ q ≤ 38) h h2 := e1.trans (e2.wk (fun q z => by omega))
        have sX : EqS h h2 := EqS.of eX (fun p hp => (show ∀ p ∈ persF, ¬ (35 ≤ p.1 ∧ p.1 ≤ 38) by decide) p hp) (fun p hp => (show ∀ p ∈ persA, ¬ (35 ≤ p ∧ p ≤ 38) by decide) p hp)
        have zX : PickZ h2 := PickZ_eq I.2.2.2.2.2.2 (fun a h1 h2 => (eX a (by omega)).2.1)
        have hp := pkU_le (nB := nB) (nT := nT) (ws := ws) (k := nB + nT) h8
        have M1 : MdV h2 nB nT tv pk sn ck := MsV_eq C.2.2.1 (eX 75 (by omega)).2.1
        have w95 : ∀ j, j < nB + nT → (sI h2 74 0 0).2.2 95 (40 * r + j) = ws j := fun j hj => by rw [sI_A, (eX 95 (by omega)).2.2]; exact wsE j hj
        have I3 : Inv (sI h2 74 0 0) (K + 60) := I.keep (sX.trans (thr_eq h2)) zX (by omega) hK
        generalize hpq : pkU nB nT ws (nB + nT) = pq at Y2 hp b3 b4
        have T24 : sE (fun i => if pq i = 0 then 0 else 1) 24 ≤ 24 * 1 := sE_le (fun k _ => by split <;> omega)
        have mm : ∀ ans : Int32, ((wrg pq tv nB (stK nB ws (nB + nT))).1 ≠ 0 → ans = -5) → ((wrg pq tv nB (stK nB ws (nB + nT))).1 = 0 → v = -1 → ans = nI (sE (fun i => if pq i = 0 then 0 else 1) 24)) → ((wrg pq tv nB (stK nB ws (nB + nT))).1 = 0 → ¬ v = -1 → ans = if 0 ≤ v ∧ v < nI (sE (fun i => if pq i = 0 then 0 else 1) 24) then nI (actV pq v.toNatClampNeg) else -1) → ConI E L m_M_how 74 [.int (nI r), .int v] h2 (fun y2 h3 => ans = y2 ∧ Inv h3 (K + 60)) := by
          intro ans a0 a1 a2
          refine B_M_how hE (by omega) ((w1 h2).use (brF' (by decide) ⟨in93 hr, ?_⟩))
          rw [nIc (by omega), show (sI h2 74 0 0).2.1 93 r = h.2.1 93 r by rw [sI_A, (eX 93 (by omega)).2.1], show (sI h2 74 0 0).2.1 94 r = nI (nB + nT) by rw [sI_A, (eX 94 (by omega)).2.1]; exact q6]
          refine brF' ps ⟨in94 hr, (m_itemMany (h := sI h2 74 0 0) hE (by omega) M1).use (brT rfl ((m_firstNoBox (h := sI h2 74 0 0) hE (by omega) M1 hr w95).use ?_))⟩
          rw [bx_m1 (by omega)]
          refine ⟨fun c => ?_, fun c => ?_⟩
          · rw [c] at a0 a1 a2
            have ly := m_lays (h := sI h2 74 0 0) hE (L := L - 1) (by omega) M1 hr w95 c
            rw [hpq] at ly
            refine ly.mono (fun h3 z3 => ?_)
            obtain ⟨e3, k3, t3, M3⟩ := z3
            refine (m_firstWrong hE (by omega) M3 hp).mono (fun y4 h4 z4 => ?_)
            obtain ⟨-, f4, g4, v4⟩ := z4
            have M4 : MdV h4 nB nT tv pq sn ck := MsV_eq M3 (by rw [g4])
            have fin : ∀ h' h5, EqO (fun q => q = 89) h4 h' → (EqO (fun q => q = 75) h' h5 ∧ (∀ j, j < 49 → h5.2.1 75 (171 + j) = h'.2.1 79 j) ∧ (∀ k, k < 171 ∨ 220 ≤ k → h5.2.1 75 k = h'.2.1 75 k)) → Inv h5 (K + 60) := by
              intro h' h5 e8 z5
              obtain ⟨e5, a5, b5⟩ := z5
              have M5 : MdV h5 nB nT tv pk sn ck := MsV_back M1 M3 (fun j hj => by rw [a5 j hj, (e8 79 (by omega)).2.1, g4, k3 j hj]; rfl) (fun j hj => by rw [b5 j (Or.inl hj), (e8 75 (by omega)).2.1, g4])
              have t5 : EqT h h5 := by
                have ta : EqT (sI h2 74 0 0) h3 := ⟨fun p hp => by rw [(e3 p.1 ((show ∀ p ∈ perF2, ¬ (p.1 = 75 ∨ p.1 = 79) by decide) p hp)).1], fun q hq => (e3 q ((show ∀ p ∈ perA2, ¬ (p = 75 ∨ p = 79) by decide) q hq)).2, t3⟩
                have tc : EqT h4 h' := ⟨fun p hp => by rw [(e8 p.1 ((show ∀ p ∈ perF2, ¬ (p.1 = 89) by decide) p hp)).1], fun q hq => (e8 q ((show ∀ p ∈ perA2, ¬ (p = 89) by decide) q hq)).2, fun k hk => by rw [(e8 75 (by omega)).2.1]⟩
                have tb : EqT h' h5 := ⟨fun p hp => by rw [(e5 p.1 ((show ∀ p ∈ perF2, ¬ (p.1 = 75) by decide) p hp)).1], fun q hq => (e5 q ((show ∀ p ∈ perA2, ¬ (p = 75) by decide) q hq)).2, fun k hk => b5 k (Or.inr hk)⟩
                exact ((((sX.t.trans (thr_eq h2).t).trans ta).trans f4.2).trans tc).trans tb
              have gg : ∀ q, (q < 6 ∨ (41 ≤ q ∧ q ≤ 44)) → h5.1 q = h.1 q ∧ h5.2.1 q = h.2.1 q := fun q hq => by
                have s1 := eX q (by omega)
                have s3 := e3 q (by omega)
                have s4 := f4.1 q (by omega)
                have s8 := e8 q (by omega)
                have s5 := e5 q (by omega)
                have s2 : (sI h2 74 0 0).1 q = h2.1 q := if_neg (by omega)
                exact ⟨(((s5.1.trans s8.1).trans s4.1).trans s3.1).trans (s2.trans s1.1), ((s5.2.1.trans s8.2.1).trans s4.2.1).trans (s3.2.1.trans s1.2.1)⟩
              exact I.move t5 ⟨nB, nT, tv, pk, lv, sn, ck, by omega, StV_eq C.1 (by rw [(gg 1 (by omega)).1]) (by rw [(gg 1 (by omega)).1]) (gg 2 (by omega)).2, LyV_eq C.2.1 (gg 4 (by omega)).2 (gg 5 (by omega)).2, M5, C.2.2.2⟩ (PickZ_eq I.2.2.2.2.2.2 (fun a h1 h2 => (gg a (by omega)).2)) (by omega) hK
            by_cases w0 : (wrg pq tv nB 0).1 = 0
            · have hA : acy pq := fIn_acy hp h8 (wrg_in w0)
              have k0 : h4.1 74 17 = 0 := by rw [v4, w0]; rfl
              refine m_how79 hE (by omega) M4 hA k0 (fun h' e8 rows => ?_) _ 0 (Nat.add_zero _) (nB + nT) 0 (Nat.add_zero _) (fun j hj => absurd hj (Nat.not_lt_zero j)) h4 0 EqO.rfl' (fun t ht => absurd ht (Nat.not_lt_zero t)) (mk_cong mk_0 (fun i _ => rfl))
              refine (m_isAgain (h := h') hE (by omega)).mono (fun h5 z5 => ?_)
              have I5 := fin h' h5 e8 z5
              rw [show h5.1 74 17 = 0 by rw [(z5.1 74 (by omega)).1, (e8 74 (by omega)).1]; exact k0]
              refine brT rfl ⟨fun d => ?_, fun d => ⟨a1 w0 d, I5⟩⟩
              have aa := a2 w0 d
              generalize hT : sE (fun i => if pq i = 0 then 0 else 1) 24 = T at *
              refine (m_within hE (by omega) v.toInt64 0 (nI T - 1).toInt64).use ?_
              by_cases c0 : ∃ k, k < T ∧ v = nI k
              · rw [if_pos ((in32 (by omega)).mpr c0)] at aa
                rw [if_pos ((inL32 (by omega)).mpr c0)]
                obtain ⟨k, hk, rfl⟩ := c0
                rw [nIc (by omega)] at aa ⊢
                refine brF (by decide) ⟨in89 (by omega), ?_, I5⟩
                rw [aa, (z5.1 89 (by omega)).2.1]
                exact (rows k hk).symm
              · rw [if_neg (fun z => c0 ((in32 (by omega)).mp z))] at aa
                rw [if_neg (fun z => c0 ((inL32 (by omega)).mp z))]
                exact brT rfl ⟨aa, I5⟩
            · have k0 : ¬ h4.1 74 17 = 0 := by
                rw [v4]; exact fun z => w0 ((nI_z (Nat.lt_trans wrg_lt (by decide))).mp z)
              refine m_how79w hE (by omega) M4 k0 ((m_isAgain (h := h4) hE (by omega)).mono (fun h5 z5 => ⟨?_, a0 w0, fin h4 h5 EqO.rfl' z5⟩))
              rw [(z5.1 74 (by omega)).1]; exact k0
          · rw [wrg_st c] at a0
            exact ⟨a0 Nat.one_ne_zero, I3⟩
        refine (show RdI E (L - 1) m_Packing_wrong 35 [] h2 (nI (wrg pq tv nB (stK nB ws (nB + nT))).1) from B_Packing_wrong hE (by omega) ⟨b3, rfl⟩).use ?_
        by_cases w0 : (wrg pq tv nB (stK nB ws (nB + nT))).1 = 0
        · rw [w0]
          refine brT rfl ⟨fun d => ?_, fun d => ?_⟩
          · have w00 : (wrg pq tv nB 0).1 = 0 := by
              by_cases c : stK nB ws (nB + nT) = 0
              · rw [c] at w0; exact w0
              · rw [wrg_st c] at w0; cases w0
            have ac := pk_act hE (L := L - 1) (by omega) Y2 (fIn_acy hp h8 (wrg_in w00)) v
            rw [packed_eq] at ac
            exact ac.use (mm _ (fun z => absurd w0 z) (fun _ z => absurd z d) (fun _ _ => rfl))
          · have mp := ly_manyPacked hE (L := L - 2) (by omega) Y2
            rw [packed_eq] at mp
            exact (show RdI E (L - 1) m_Packing_manyPacked 35 [] h2 (nI (sE (fun i => if pq i = 0 then 0 else 1) 24)) from B_Packing_manyPacked hE (by omega) (mp.use ⟨rfl, rfl⟩)).use (mm _ (fun z => absurd w0 z) (fun _ _ => rfl) (fun _ z => absurd d z))
        · refine brF (fun z => w0 ((nI_z (Nat.lt_trans wrg_lt (by decide))).mp z)) (mm _ (fun _ => rfl) (fun z => absurd z w0) (fun z => absurd z w0))
      · rw [if_neg (fun z => cn ((nIe (by omega) (by omega)).mp z))] at p1
        refine same_rd (x := -7) I hK (RdX.of I.2.2.2.2.2.2 (B_X_how hE (by omega) (p1.use (brF (by decide) ⟨rfl, rfl⟩)))) (fun h1 e I1 => ?_)
        refine B_M_how hE (by omega) ((w1 h1).use (brF' (by decide) ⟨in93 hr, ?_⟩))
        rw [nIc (by omega), show (sI h1 74 0 0).2.1 93 r = h.2.1 93 r by rw [sI_A, e.a 93], show (sI h1 74 0 0).2.1 94 r = nI n by rw [sI_A, e.a 94]; exact q6]
        refine brF' ps ⟨in94 hr, (m_itemMany (h := sI h1 74 0 0) hE (by omega) (C.keep e).2.2.1).use ?_⟩
        rw [nIe (by omega) (by omega)]
        exact brF cn ⟨rfl, thr_eq _, I1.2.2.2.2.2.2⟩
  · refine same_rd (x := -2) I hK (RdX.of I.2.2.2.2.2.2 (B_X_how hE (by omega) ((x_packRef_no hE (by omega) hu).use (brF (by decide) ⟨rfl, rfl⟩)))) (fun h1 e I1 => ?_)
    exact B_M_how hE (by omega) ((m_w_no (a := 0) (b := 3) hE (by omega) (by omega) (by omega) (w3 hu)).use (brT' rfl ⟨rfl, thr_eq _, I1.2.2.2.2.2.2⟩))
end How5
