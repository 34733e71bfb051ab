section LooksM
variable {E : EnvX} {L : Nat} {h : Hp} {K : Nat} {st : Nat → Nat} {F m : Nat}
theorem one_pc {S : Nat} (h1 : S < 4096) : S &&& (S - 1) = 0 ↔ pcn S ≤ 1 := by
  have := (show ∀ a, a < 64 → ∀ b, b < 64 → ((a + 64 * b) &&& (a + 64 * b - 1) = 0 ↔ pcn (a + 64 * b) ≤ 1) by decide +kernel) (S % 64) (by omega) (S / 64) (by omega)
  rw [show S % 64 + 64 * (S / 64) = S by omega] at this
  exact this
theorem ch_looks (hE : EOk E) (hL : 5 ≤ L) (hd : ∀ i j, i < F → j < F → st i = st j → i = j) (hl : ∀ i, i < F → st i < 2 ^ m) (hm : m ≤ 12) (hF : F ≤ 12) (hF0 : F ≠ 0) (h5 : h.1 59 5 = nI F) (h60 : ∀ j, j < F → h.2.1 60 j = nI (st j)) : ConI E L m_Chest_looksNeeded 59 [] h (fun y h' => y = nI (lk st F m (2 ^ F - 1)) ∧ EqO (fun x => x = 62 ∨ x = 63) h h') := by
  have p4 := pow13 (n := F) (by omega)
  have p1 : 2 ≤ 2 ^ F := by
    have : 2 ^ 1 ≤ 2 ^ F := Nat.pow_le_pow_right (by decide) (by omega)
    omega
  have pm := pow13 (n := m) (by omega)
  refine B_Chest_looksNeeded hE (by omega) ?_
  rw [h5, nI_z (by omega), show (12 : Int32) = nI 12 from rfl, nIl (by omega) (by omega)]
  refine brF' hF0 (brT hF ((ch_sets hE (by omega) hF h5 h60 (fun j hj => by have := hl j hj; omega)).mono (fun h1 z1 => ?_)))
  obtain ⟨e1, s1⟩ := z1
  rw [(e1 59 (by omega)).1, h5, shlN (by omega), pred1 (by omega)]
  have main : ∀ f S, f + S = 2 ^ F → 1 ≤ S → ∀ h2, EqO (fun x => x = 63) h1 h2 → (∀ x, x ≠ 0 → x < S → h2.2.1 63 x = nI (lk st F m x)) → at_Chest_looksNeeded_36 E L h2 (fun y h' => y = nI (lk st F m (2 ^ F - 1)) ∧ EqO (fun x => x = 62 ∨ x = 63) h h') (nI (2 ^ F - 1)) (nI S) := by
    intro f
    induction f with
    | zero =>
      intro S hS S1 h2 e2 a
      refine B_Chest_looksNeeded_36 (brT (nI_lt (by omega) (by omega)) ⟨in63 (by omega), ?_, (e1.wk (fun x z => Or.inl z)).trans (e2.wk (fun x z => Or.inr z))⟩)
      rw [nIc (by omega)]; exact a _ (by omega) (by omega)
    | succ f ih =>
      intro S hS S1 h2 e2 a
      have pp := pcn_pos (x := S) (by omega) (by omega)
      have al : S &&& (S - 1) ≤ S := Nat.and_le_left
      refine B_Chest_looksNeeded_36 (brF (nI_nlt (by omega) (by omega)) ?_)
      rw [pred1 (by omega), andA, nI_z (by omega), one_pc (by omega), nI_1, nIc (by omega)]
      have up : ∀ v : Int32, v = nI (lk st F m S) → at_Chest_looksNeeded_36 E L (sA h2 63 S v) (fun y h' => y = nI (lk st F m (2 ^ F - 1)) ∧ EqO (fun x => x = 62 ∨ x = 63) h h') (nI (2 ^ F - 1)) (nI (S + 1)) := fun v ev => by
        refine ih (S + 1) (by omega) (by omega) _ (e2.trans (EqO.sA (F := fun x => x = 63) rfl)) (fun x x0 hx => ?_)
        rw [sA_A, if_pos rfl]
        by_cases d : x = S
        · rw [if_pos d, d, ev]
        · rw [if_neg d]; exact a x x0 (by omega)
      refine ⟨fun q => ?_, fun q => ⟨in63 (by omega), up 0 ?_⟩⟩
      · exact (ch_looksFor hE (by omega) hd hl hm hF (fun k hk => by rw [(e2 62 (by omega)).2.1]; exact s1 k hk) (S := S) (by omega) (by omega) a).use ⟨in63 (by omega), up _ rfl⟩
      · unfold lk stp; rw [if_pos (by omega)]; rfl
  exact main (2 ^ F - 1) 1 (by omega) (by omega) h1 EqO.rfl' (fun x x0 hx => absurd x0 (by omega))
theorem k91 : (akd 91 = 1 ∧ 12 ≤ aln 91 ∧ aln 91 < 2147483648) ∧ (akd 92 = 1 ∧ 4096 ≤ aln 92 ∧ aln 92 < 2147483648) := by decide +kernel
theorem in91 {k : Nat} (hk : k < 12) : inI 91 (nI k) := inI_of k91.1.1 (by have := k91.1.2.1; omega) k91.1.2.2
theorem in92 {k : Nat} (hk : k < 4096) : inI 92 (nI k) := inI_of k91.2.1 (by have := k91.2.2.1; omega) k91.2.2.2
theorem sw_and {k j S : Nat} (hj : j < 12) (hS : S < 4096) : nI (S &&& swN st k j) ||| (if S.testBit j = true ∧ (st j).testBit k = true then (1 : Int32) <<< (nI j &&& 31) else 0) = nI (S &&& swN st k (j + 1)) := by
  have l1 := sw_lt st k j
  have p := pow13 (n := j) (by omega)
  have al : S &&& swN st k j ≤ S := Nat.and_le_left
  have e : S &&& swN st k (j + 1) = (S &&& swN st k j) ||| (if S.testBit j = true ∧ (st j).testBit k = true then 2 ^ j else 0) := Nat.eq_of_testBit_eq (fun i => by
    rw [Nat.testBit_and, sw_bit, Nat.testBit_or, Nat.testBit_and, sw_bit]
    by_cases d : j = i
    · subst d
      rw [decide_eq_true (Nat.lt_succ_self j), decide_eq_false (Nat.lt_irrefl j)]
      by_cases b : S.testBit j = true ∧ (st j).testBit k = true
      · rw [if_pos b, Nat.testBit_two_pow, decide_eq_true rfl, b.1, b.2]; rfl
      · rw [if_neg b, Nat.zero_testBit]
        cases h1 : S.testBit j <;> cases h2 : (st j).testBit k <;> first | rfl | exact absurd ⟨h1, h2⟩ b
    · rw [show decide (i < j + 1) = decide (i < j) from decide_eq_decide.mpr (by omega)]
      have : (if S.testBit j = true ∧ (st j).testBit k = true then 2 ^ j else 0).testBit i = false := by
        split
        · rw [Nat.testBit_two_pow, decide_eq_false d]
        · exact Nat.zero_testBit i
      rw [this, Bool.or_false])
  rw [e]
  by_cases b : S.testBit j = true ∧ (st j).testBit k = true
  · rw [if_pos b, if_pos b, shlN (by omega), orN (by omega) (by omega)]
  · rw [if_neg b, if_neg b, orz, Nat.or_zero]
theorem m_looks110 (hE : EOk E) (hL : 3 ≤ L) (hd : ∀ i j, i < F → j < F → st i = st j → i = j) (hl : ∀ i, i < F → st i < 2 ^ m) (hm : m ≤ 12) (hF : F ≤ 12) (hF0 : F ≠ 0) (h19 : h.1 74 19 = nI m) (h91 : ∀ j, j < F → h.2.1 91 j = nI (st j)) {post : Int32 → Hp → Prop} (H : ∀ h', EqO (fun x => x = 92) h h' → post (nI (lk st F m (2 ^ F - 1))) h') : ∀ f S, f + S = 2 ^ F → 1 ≤ S → ∀ h2, EqO (fun x => x = 92) h h2 → (∀ x, x ≠ 0 → x < S → h2.2.1 92 x = nI (lk st F m x)) → at_M_looks_110 E L h2 post (nI F) (nI S) := by
  have p4 := pow13 (n := F) (by omega)
  have pm := pow13 (n := m) (by omega)
  have p1 : 2 ≤ 2 ^ F := by
    have : 2 ^ 1 ≤ 2 ^ F := Nat.pow_le_pow_right (by decide) (by omega)
    omega
  intro f
  induction f with
  | zero =>
    intro S hS S1 h2 e2 a
    refine B_M_looks_110 ?_
    rw [shlN (by omega), pred1 (by omega), nIc (by omega), show S = 2 ^ F by omega, a (2 ^ F - 1) (by omega) (by omega)]
    exact brT (nI_le (Nat.le_refl _) (by omega)) ⟨in92 (by omega), H h2 e2⟩
  | succ f ih =>
    intro S hS S1 h2 e2 a
    have S40 : S < 4096 := by omega
    have pp := pcn_pos (x := S) (by omega) (by omega)
    have pl := (bcN (x := S) (by omega)).2
    have nxt : ∀ h3, EqO (fun x => x = 92) h2 h3 → (∀ x, x ≠ S → h3.2.1 92 x = h2.2.1 92 x) → h3.2.1 92 S = nI (lk st F m S) → at_M_looks_110 E L h3 post (nI F) (nI (S + 1)) := fun h3 e3 o3 v3 => by
      refine ih (S + 1) (by omega) (by omega) h3 (e2.trans e3) (fun x x0 hx => ?_)
      by_cases d : x = S
      · rw [d]; exact v3
      · rw [o3 x d]; exact a x x0 (by omega)
    refine B_M_looks_110 ?_
    rw [shlN (by omega)]
    refine brF (nI_ge (by omega) (by omega)) ((m_bitsOf hE (by omega) (by omega)).use ?_)
    rw [nIc (by omega), show (1 : Int32) = nI 1 from rfl, nIe (by omega) (by omega)]
    by_cases o1 : pcn S = 1
    · refine brT' o1 ⟨in92 S40, ?_⟩
      have el : lk st F m S = 0 := by unfold lk stp; rw [if_pos o1]
      have fin : at_M_looks_110 E L (sA h2 92 S 0) post (nI F) (nI (S + 1)) := nxt _ (EqO.sA (F := fun x => x = 92) rfl) (fun x hx => by rw [sA_A, if_pos rfl, if_neg hx]) (by rw [sA_A, if_pos rfl, if_pos rfl, el]; rfl)
      refine B_M_looks_144 ?_
      rw [nI_1]
      exact ⟨fun _ => fin, fun _ => (m_bitsOf hE (by omega) (by omega)).use (brT (by rw [show (1 : Int32) = nI 1 from rfl, nIl (by omega) (by omega)]; omega) fin)⟩
    · refine brF' o1 ⟨in92 S40, ?_⟩
      have el : lk st F m S = fd (gk st F (tbl st F m S) S) 99 m := by unfold lk stp; rw [if_neg o1]
      have l144 : ∀ g k, g + k = m → ∀ h3, EqO (fun x => x = 92) h2 h3 → (∀ x, x ≠ S → h3.2.1 92 x = h2.2.1 92 x) → h3.2.1 92 S = nI (fd (gk st F (tbl st F m S) S) 99 k) → at_M_looks_144 E L h3 post (nI F) (nI S) (nI k) := by
        intro g
        induction g with
        | zero =>
          intro k hk h3 e3 o3 v3
          refine B_M_looks_144 ?_
          rw [(e3 74 (by omega)).1, (e2 74 (by omega)).1, h19, nI_1]
          rw [show k = m by omega] at v3 ⊢
          exact brT (nI_le (Nat.le_refl _) (by omega)) (nxt h3 e3 o3 (by rw [el]; exact v3))
        | succ g ihg =>
          intro k hk h3 e3 o3 v3
          have fl := fd_le (gk st F (tbl st F m S) S) 99 k
          have wl : S &&& swN st k F ≤ S := Nat.and_le_left
          refine B_M_looks_144 ?_
          rw [(e3 74 (by omega)).1, (e2 74 (by omega)).1, h19]
          refine brF (nI_ge (by omega) (by omega)) ((m_bitsOf hE (by omega) (by omega)).use (brF (by rw [show (1 : Int32) = nI 1 from rfl, nIl (by omega) (by omega)]; omega) ?_))
          have l168 : ∀ g2 j, g2 + j = F → at_M_looks_168 E L h3 post (nI F) (nI S) (nI k) (nI (S &&& swN st k j)) (nI j) := by
            intro g2
            induction g2 with
            | zero =>
              intro j hj
              have hfd := fd_s (gk st F (tbl st F m S) S) 99 k
              refine B_M_looks_168 ?_
              rw [show j = F by omega, nI_1]
              refine brT (nI_le (Nat.le_refl _) (by omega)) ?_
              rw [nI_z (by omega), nIe (show S &&& swN st k F < 2147483648 by omega) (show S < 2147483648 by omega)]
              have skip : gk st F (tbl st F m S) S k = 0 → at_M_looks_144 E L h3 post (nI F) (nI S) (nI (k + 1)) := fun gz => by
                rw [if_pos gz] at hfd
                exact ihg (k + 1) (by omega) h3 e3 o3 (by rw [hfd]; exact v3)
              refine ⟨fun w0 => skip (by unfold gk; rw [if_pos (Or.inl w0)]), fun w0 => ⟨fun w1 => ?_, fun w1 => skip (by unfold gk; rw [if_pos (Or.inr w1)])⟩⟩
              obtain ⟨r1, r2, r3⟩ := parts w0 w1
              have c1 := (lk_bd hd hl hF S _ r1 w0 (by omega)).1
              have c2 := (lk_bd hd hl hF S _ r2 r3 (by omega)).1
              have d1 := (bcN (x := S &&& swN st k F) (by omega)).2
              have d2 := (bcN (x := S ^^^ (S &&& swN st k F)) (by omega)).2
              have gz : gk st F (tbl st F m S) S k = 1 + (1 + vmx (lk st F m (S &&& swN st k F)) (lk st F m (S ^^^ (S &&& swN st k F)))) := by
                unfold gk; rw [if_neg (fun z => z.elim w0 w1), tbl_lk r1, tbl_lk r2]
              rw [gz, if_neg (by omega)] at hfd
              have a1 : h3.2.1 92 (S &&& swN st k F) = nI (lk st F m (S &&& swN st k F)) := by rw [o3 _ (by omega)]; exact a _ w0 r1
              have a2 : h3.2.1 92 (S ^^^ (S &&& swN st k F)) = nI (lk st F m (S ^^^ (S &&& swN st k F))) := by rw [o3 _ (by omega)]; exact a _ r3 r2
              rw [xorN (by omega) (by omega), nIc (show S &&& swN st k F < 2147483648 by omega), nIc (show S ^^^ (S &&& swN st k F) < 2147483648 by omega), nIc (show S < 2147483648 by omega), a1, a2, v3, show (1 : Int32) = nI 1 from rfl, nI_add, nI_add, nIl (by omega) (by omega), nIl (by omega) (by omega), nIl (by omega) (by omega)]
              have fin : ∀ v : Nat, v = fd (gk st F (tbl st F m S) S) 99 (k + 1) → at_M_looks_144 E L (sA h3 92 S (nI v)) post (nI F) (nI S) (nI (k + 1)) := fun v ev => by
                refine ihg (k + 1) (by omega) _ (e3.trans (EqO.sA (F := fun x => x = 92) rfl)) (fun x hx => ?_) ?_
                · rw [sA_A, if_pos rfl, if_neg hx]; exact o3 x hx
                · rw [sA_A, if_pos rfl, if_pos rfl, ev]
              refine ⟨in92 (by omega), in92 (by omega), fun q => ⟨in92 S40, fun q2 => ⟨in92 S40, in92 S40, fin _ ?_⟩, fun q2 => ⟨in92 S40, fin _ ?_⟩⟩, fun q => ⟨in92 S40, fun q2 => ⟨in92 S40, in92 S40, fin _ ?_⟩, fun q2 => ⟨in92 S40, fin _ ?_⟩⟩⟩
              · rw [hfd]; unfold vmx; split <;> split <;> omega
              · rw [hfd]; unfold vmx; split <;> split <;> omega
              · rw [hfd]; unfold vmx; split <;> split <;> omega
              · rw [hfd]; unfold vmx; split <;> split <;> omega
            | succ g2 ih2 =>
              intro j hj
              have sj := hl j (by omega)
              have ih3 := ih2 (j + 1) (by omega)
              have so := sw_and (st := st) (k := k) (j := j) (S := S) (by omega) S40
              rw [← so] at ih3
              refine B_M_looks_168 (brF (nI_ge (by omega) (by omega)) ?_)
              rw [bitN (by omega) (by omega), nIc (show j < 2147483648 by omega), (e3 91 (by omega)).2.1, (e2 91 (by omega)).2.1, h91 j (by omega), bitN (by omega) (by omega), nI_1]
              by_cases b1 : S.testBit j = true
              · rw [if_pos b1]
                refine brT' rfl ⟨in91 (by omega), ?_⟩
                by_cases b2 : (st j).testBit k = true
                · rw [if_pos b2]
                  rw [if_pos ⟨b1, b2⟩] at ih3
                  exact brT' rfl ih3
                · rw [if_neg b2]
                  rw [if_neg (fun z => b2 z.2)] at ih3
                  exact brF' (by decide) ih3
              · rw [if_neg b1]
                rw [if_neg (fun z => b1 z.1)] at ih3
                exact brF' (by decide) ih3
          have := l168 F 0 (by omega)
          rw [show S &&& swN st k 0 = 0 from Nat.and_zero S] at this
          exact this
      refine l144 m 0 (by omega) _ (EqO.sA (F := fun x => x = 92) rfl) (fun x hx => by rw [sA_A, if_pos rfl, if_neg hx]) (by rw [sA_A, if_pos rfl, if_pos rfl]; rfl)
theorem eq_looks (hE : EOk E) (hL : 20 ≤ L) (I : Inv h K) (hK : K + 60 ≤ 100000) (u v n w : Int32) : Same E L m_X_looks m_M_looks [.int u, .int v, .int n, .int w] h K := by
  obtain ⟨nB, nT, tv, pk, lv, sn, ck, hck, C⟩ := I.2.1
  rcases chest_ways (L := L - 1) hE (by omega) I C u v n w with ⟨a, b⟩ | ⟨a, b⟩ | ⟨b, x, y, hb, hx, hy, rfl, rfl, rfl, a, c⟩
  · exact same_rd (x := -2) I hK (RdX.of I.2.2.2.2.2.2 (B_X_looks hE (by omega) (a.use (brF (by decide) ⟨rfl, rfl⟩)))) (fun h1 e I1 => B_M_looks hE (by omega) ((b (sI h1 74 0 0) (C.keep e).2.2.1).use (brT' rfl ⟨rfl, thr_eq _, I1.2.2.2.2.2.2⟩)))
  · exact same_rd (x := -3) I hK (RdX.of I.2.2.2.2.2.2 (B_X_looks hE (by omega) (a.use (brF (by decide) ⟨rfl, rfl⟩)))) (fun h1 e I1 => B_M_looks hE (by omega) ((b (sI h1 74 0 0) (C.keep e).2.2.1).1.use (brF' (by decide) ((b (sI h1 74 0 0) (C.keep e).2.2.1).2.use (brT' rfl ⟨rfl, thr_eq _, I1.2.2.2.2.2.2⟩)))))
  · refine B_X_looks hE (by omega) (a.mono (fun z h1 zz => ?_))
    obtain ⟨z0, e1, Z1, P1, V1⟩ := zz
    have M1 : MdV (sI h1 74 0 0) nB nT tv pk sn ck := MsV_eq C.2.2.1 (show h1.2.1 75 = _ from (e1 75 (by unfold chF; omega)).2.1)
    have lc0 : ∀ h2, MdV h2 nB nT tv pk sn ck → _ := fun h2 M2 => m_laysChest (h := h2) hE (L := L - 1) (by omega) M2 v (show b < 24 by have := C.1.2.2.2.1; omega) hx hy
    generalize nF (wS v (fun _ => true)) 12 = m at *
    generalize itK (wS v (fun _ => true)) = mem at *
    generalize qW tv mem m b x y = q at *
    have n12 := P1.1.2.1
    have p4 := pow13 (n := m) (by omega)
    have cl := cB_le q (2 ^ m)
    have mm : ∀ (h2 : Hp) (ans : Int32), EqO (fun x => x = 62 ∨ x = 63) h1 h2 → (cB q (2 ^ m) = 0 → ans = -1) → (12 < cB q (2 ^ m) → ans = -4) → (cB q (2 ^ m) ≠ 0 → cB q (2 ^ m) ≤ 12 → ans = nI (lk (itQ q (2 ^ m)) (cB q (2 ^ m)) m (2 ^ cB q (2 ^ m) - 1))) → ConI E L m_M_looks 74 [.int (nI b), .int v, .int (nI x), .int (nI y)] h2 (fun y2 h3 => ans = y2 ∧ Inv h3 (K + 60)) := by
      intro h2 ans eX a0 a1 a2
      have M2 : MdV (sI h2 74 0 0) nB nT tv pk sn ck := MsV_eq M1 (show h2.2.1 75 = _ from (eX 75 (by omega)).2.1)
      have e2 : EqO chG h h2 := (e1.wk (fun x z => by unfold chF at z; unfold chG; omega)).trans (eX.wk (fun x z => by unfold chG; omega))
      have Z2 : PickZ h2 := PickZ_eq Z1 (fun a q1 q2 => (eX a (by omega)).2.1)
      refine B_M_looks hE (by omega) ((c _ M2).1.use (brF' (by decide) ((c _ M2).2.use (brF' (by decide) ((lc0 _ M2).mono (fun y5 h5 z5 => ?_))))))
      obtain ⟨ey, e5, k5, F5, q5⟩ := z5
      have I5 : ∀ h6, EqO (fun x => x = 91 ∨ x = 92) h5 h6 → Inv h6 (K + 60) := fun h6 e6 => inv_ch I hK e2 Z2 ((e5.wk (fun x z => by omega)).trans (e6.wk (fun x z => by omega))) (fun k hk => by rw [(e6 74 (by omega)).1]; exact k5 k hk)
      rw [ey, nI_z (by omega), show (12 : Int32) = nI 12 from rfl, nIl (by omega) (by omega)]
      refine ⟨fun c0 => ⟨fun c1 => ?_, fun c1 => ⟨a1 (by omega), I5 h5 EqO.rfl'⟩⟩, fun c0 => ⟨a0 c0, I5 h5 EqO.rfl'⟩⟩
      have l65 : ∀ f c, f + c = 2 ^ m → ∀ h6, EqO (fun x => x = 91) h5 h6 → (∀ j, j < cB q c → h6.2.1 91 j = nI (itQ q (2 ^ m) j)) → at_M_looks_65 E L h6 (fun y2 h3 => ans = y2 ∧ Inv h3 (K + 60)) (nI (cB q (2 ^ m))) (nI (cB q c)) (nI c) := by
        intro f
        induction f with
        | zero =>
          intro c hc h6 e6 aj
          rw [show c = 2 ^ m by omega] at aj ⊢
          refine B_M_looks_65 ?_
          rw [(e6 74 (by omega)).1, F5.1, shlN (by omega)]
          refine brT (nI_le (Nat.le_refl _) (by omega)) ?_
          have hd : ∀ i j, i < cB q (2 ^ m) → j < cB q (2 ^ m) → itQ q (2 ^ m) i = itQ q (2 ^ m) j → i = j := fun i j hi hj e => by
            have y1 := (itQ_yes hi).2.2
            have y2 := (itQ_yes hj).2.2
            rw [e] at y1; omega
          refine m_looks110 (h := h6) hE (by omega) hd (fun i hi => (itQ_yes hi).1) n12 c1 c0 (by rw [(e6 74 (by omega)).1]; exact F5.1) aj (fun h7 e7 => ⟨a2 c0 c1, I5 h7 ((e6.wk (fun x z => Or.inl z)).trans (e7.wk (fun x z => Or.inr z)))⟩) (2 ^ cB q (2 ^ m) - 1) 1 ?_ (Nat.le_refl _) h6 EqO.rfl' (fun x x0 hx => absurd x0 (by omega))
          have := Nat.two_pow_pos (cB q (2 ^ m))
          omega
        | succ f ih =>
          intro c hc h6 e6 aj
          have cs := cB_s q c
          have cm := cB_mono q (u := c + 1) (v := 2 ^ m) (by omega)
          refine B_M_looks_65 ?_
          rw [(e6 74 (by omega)).1, F5.1, shlN (by omega)]
          refine brF (nI_ge (by omega) (by omega)) ⟨in90 (by omega), ?_⟩
          rw [nIc (show c < 2147483648 by omega), (e6 90 (by omega)).2.1, q5 c (by omega), nIc (show cB q c < 2147483648 by omega), nI_1, nI_1]
          by_cases qc : q c = true
          · rw [if_pos qc]
            rw [if_pos qc] at cs
            have ih1 := ih (c + 1) (by omega) (sA h6 91 (cB q c) (nI c)) (e6.trans (EqO.sA (F := fun x => x = 91) rfl)) (fun j hj => by
              rw [sA_A, if_pos rfl]
              by_cases d : j = cB q c
              · rw [if_pos d, d, itQ_at (by omega) qc]
              · rw [if_neg d]; exact aj j (by omega))
            rw [cs] at ih1
            exact brF' (by decide) ⟨in91 (by omega), ih1⟩
          · rw [if_neg qc]
            rw [if_neg qc, Nat.add_zero] at cs
            have ih1 := ih (c + 1) (by omega) h6 e6 (fun j hj => aj j (by omega))
            rw [cs] at ih1
            exact brT' rfl ih1
      exact l65 (2 ^ m) 0 (by omega) h5 EqO.rfl' (fun j hj => absurd hj (Nat.not_lt_zero j))
    refine brT z0 ?_
    by_cases c0 : cB q (2 ^ m) = 0
    · exact (show RdI E (L - 1) m_Chest_looksNeeded 59 [] h1 (-1) from B_Chest_looksNeeded hE (by omega) (by rw [V1.1, nI_z (by omega)]; exact brT' c0 ⟨rfl, rfl⟩)).use (mm h1 _ EqO.rfl' (fun _ => rfl) (fun z => by omega) (fun z => absurd c0 z))
    · by_cases c1 : cB q (2 ^ m) ≤ 12
      · have hd : ∀ i j, i < cB q (2 ^ m) → j < cB q (2 ^ m) → itQ q (2 ^ m) i = itQ q (2 ^ m) j → i = j := fun i j hi hj e => by
          have y1 := (itQ_yes hi).2.2
          have y2 := (itQ_yes hj).2.2
          rw [e] at y1; omega
        refine (ch_looks hE (by omega) hd (fun i hi => (itQ_yes hi).1) n12 c1 c0 V1.1 (fun j hj => ?_)).mono (fun y4 h4 z4 => ?_)
        · obtain ⟨r1, r2, r3⟩ := itQ_yes hj
          have := V1.2.1 _ r1 r2 (by omega)
          rw [r3] at this; exact this
        · obtain ⟨rfl, e4⟩ := z4
          exact mm h4 _ e4 (fun z => absurd z c0) (fun z => by omega) (fun _ _ => rfl)
      · exact (show RdI E (L - 1) m_Chest_looksNeeded 59 [] h1 (-4) from B_Chest_looksNeeded hE (by omega) (by
          rw [V1.1, nI_z (by omega), show (12 : Int32) = nI 12 from rfl, nIl (by omega) (by omega)]
          exact brF' c0 (brF c1 ⟨rfl, rfl⟩))).use (mm h1 _ EqO.rfl' (fun z => absurd z c0) (fun _ => rfl) (fun _ z => absurd z c1))
end LooksM
