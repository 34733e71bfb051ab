section House6
variable {E : EnvX} {L : Nat} {h : Hp} {K : Nat} {nB nT : Nat} {tv : Nat → Nat → Nat} {g : Nat → Nat → Bool} {pk lv sn : Nat → Nat} {ck : Nat}
theorem am_min {p : Nat → Bool} {f : Nat → Nat} : ∀ {n k : Nat}, k < n → p k = true → (am p f n).1 ≠ 0 ∧ (am p f n).2 ≤ f k
  | 0, k, hk, _ => absurd hk (Nat.not_lt_zero k)
  | n + 1, k, hk, hp => by
    by_cases e : k = n
    · subst e
      rw [am_s, if_pos hp]
      split
      · exact ⟨Nat.succ_ne_zero _, Nat.le_refl _⟩
      · rename_i z
        exact ⟨fun w => z (Or.inl w), Nat.le_of_not_lt (fun w => z (Or.inr w))⟩
    · obtain ⟨a, b⟩ := am_min (p := p) (f := f) (n := n) (k := k) (by omega) hp
      rw [am_s]
      split
      · split
        · rename_i z
          refine ⟨Nat.succ_ne_zero _, ?_⟩
          show f n ≤ f k
          rcases z with z | z
          · exact absurd z a
          · omega
        · exact ⟨a, b⟩
      · exact ⟨a, b⟩
theorem m_weightOf (hE : EOk E) (hL : 3 ≤ L) (M : MdV h nB nT tv pk sn ck) {B : Nat} (hB : B < 2 ^ 24) : RdI E L m_M_weightOf 74 [.int (nI B)] h (nI (wB tv nB B)) := by
  have h8 := M.1.1
  refine B_M_weightOf hE (by omega) ?_
  refine upto (P := fun k => at_M_weightOf_4 E L h _ (nI B) (nI (sE (fun b => if B.testBit b = true then tv b 2 else 0) k)) (nI k)) (n := nB) ?_ (fun k hk ih => ?_) 0 (by omega)
  · refine B_M_weightOf_4 ⟨in75 (k := 0) (by omega), ?_⟩
    rw [e750 M]
    exact brT (nI_le (Nat.le_refl _) (by omega)) ⟨rfl, rfl⟩
  · refine B_M_weightOf_4 ⟨in75 (k := 0) (by omega), ?_⟩
    rw [e750 M, bitN hB (by omega), nI_1, addz]
    rw [sE_s _ k] at ih
    refine brF (nI_ge hk (by omega)) ?_
    by_cases t : B.testBit k = true
    · rw [if_pos t] at ih ⊢
      refine brT' rfl ((m_of hE (by omega) M (k := 2) (by omega) (by omega)).use ?_)
      rw [nI_add]; exact ih
    · rw [if_neg t] at ih ⊢
      exact brF' (by decide) ih
theorem m_isBetter (hE : EOk E) (hL : 4 ≤ L) (M : MdV h nB nT tv pk sn ck) (ht : ∀ b, b < nB → tv b 2 ≤ 99) {B B' : Nat} (hB : B < 2 ^ nB) (hB' : B' < 2 ^ nB) (lt : B' < B) (s : Int32) : RdI E L m_M_isBetter 74 [.int (nI B), .int (nI B'), .int s] h (if Pr (prW tv (decide (s = 0))) nB B < Pr (prW tv (decide (s = 0))) nB B' then 1 else 0) := by
  have h8 := M.1.1
  have p9 := pow9 h8
  obtain ⟨c1, c2⟩ := cN_pc h8 hB
  obtain ⟨c3, c4⟩ := cN_pc h8 hB'
  have w1 := wB_le (B := B) h8 ht
  have w2 := wB_le (B := B') h8 ht
  refine B_M_isBetter hE (by omega) ((m_bitsOf hE (by omega) (by omega)).use ((m_bitsOf hE (by omega) (by omega)).use ((m_weightOf hE (by omega) M (by omega)).use ((m_weightOf hE (by omega) M (by omega)).use ?_))))
  rw [c1, c3, Pr_eq hB, Pr_eq hB']
  have lz : ∀ {a b : Nat}, a < 100000 → b < 100000 → ((nI a - nI b < 0 ↔ a < b) ∧ (nI a - nI b = 0 ↔ a = b) ∧ (0 ≤ nI a - nI b ↔ b ≤ a)) := fun {a b} ha hb => by
    have e0 : (0 : Int32).toInt = 0 := rfl
    rw [i32_lt, i32_le, i32_eq, pk_sub_toInt (by omega) (by omega)]
    omega
  obtain ⟨l1, l2, l3⟩ := lz (a := cN nB B) (b := cN nB B') (by omega) (by omega)
  obtain ⟨r1, r2, r3⟩ := lz (a := wB tv nB B) (b := wB tv nB B') (by omega) (by omega)
  rw [l1, l2, l3, r1, r2, r3]
  by_cases s0 : s = 0
  · rw [if_pos (decide_eq_true s0), if_pos (decide_eq_true s0)]
    refine brT s0 ⟨fun q => ⟨?_, rfl⟩, fun q => ⟨fun q2 => ⟨?_, rfl⟩, fun q2 => ⟨fun q3 => ⟨?_, rfl⟩, fun q3 => ⟨?_, rfl⟩⟩⟩⟩
    · rw [if_pos (by omega)]
    · rw [if_neg (by omega)]
    · rw [if_neg (by omega)]
    · rw [if_pos (by omega)]
  · have s1 : ¬ decide (s = 0) = true := by rw [decide_eq_false s0]; decide
    rw [if_neg s1, if_neg s1]
    refine brF s0 ⟨fun q => ⟨?_, rfl⟩, fun q => ⟨fun q2 => ⟨?_, rfl⟩, fun q2 => ⟨fun q3 => ⟨?_, rfl⟩, fun q3 => ⟨?_, rfl⟩⟩⟩⟩
    · rw [if_pos (by omega)]
    · rw [if_neg (by omega)]
    · rw [if_neg (by omega)]
    · rw [if_pos (by omega)]
def bbPo (h : Hp) (tv : Nat → Nat → Nat) (mem : Nat → Nat) (z : Bool) (n nB : Nat) (y : Int32) (h' : Hp) : Prop := y = bx (am (fun B => cnF (goB tv mem n) B nB (2 ^ n - 1)) (Pr (prW tv z) nB) (2 ^ nB)).1 ∧ EqO (fun x => x = 74 ∨ (80 ≤ x ∧ x ≤ 82)) h h' ∧ (∀ k, k ≠ 19 → h'.1 74 k = h.1 74 k) ∧ FwV h' n mem ∧ (∀ b c, b < nB → c < 2 ^ n → h'.2.1 81 (1024 * b + c) = if goB tv mem n b c = true then 1 else 0) ∧ ∀ B c, B < 2 ^ nB → c < 2 ^ n → h'.2.1 82 (1024 * B + c) = if cnF (goB tv mem n) B nB c = true then 1 else 0
theorem m_bestBoxes (hE : EOk E) (hL : 10 ≤ L) (M : MdV h nB nT tv pk sn ck) (ht : ∀ b, b < nB → tv b 2 ≤ 99) (v s : Int32) : ConI E L m_M_bestBoxes 74 [.int v, .int s] h (bbPo h tv (itK (wS v (fun _ => true))) (decide (s = 0)) (nF (wS v (fun _ => true)) 10) nB) := by
  have h8 := M.1.1
  have p9 := pow9 h8
  have nle := nF_le (W := wS v (fun _ => true)) (mx := 10)
  refine B_M_bestBoxes hE (by omega) ((m_takesFew hE (by omega) M v (mx := 10) (fl := 0) (by omega) (by omega)).mono (fun h1 z1 => ?_))
  obtain ⟨e1, k1, F1⟩ := z1
  rw [show wS v (flP pk 0) = wS v (fun _ => true) from rfl] at F1
  generalize nF (wS v (fun _ => true)) 10 = n at *
  generalize itK (wS v (fun _ => true)) = mem at *
  have pw := pow11 (n := n) (by omega)
  have M1 : MdV h1 nB nT tv pk sn ck := MsV_eq M (e1 75 (by omega)).2.1
  refine (m_laysBoxes hE (by omega) M1 F1 (by omega)).mono (fun h2 z2 => ?_)
  obtain ⟨e2, f2, c2⟩ := z2
  have F2 : FwV h2 n mem := ⟨by rw [(e2 74 (by omega)).1]; exact F1.1, F1.2.1, fun k hk => by rw [(e2 80 (by omega)).2.1]; exact F1.2.2 k hk⟩
  have M2 : MdV h2 nB nT tv pk sn ck := MsV_eq M1 (e2 75 (by omega)).2.1
  have main : ∀ f B, f + B = 2 ^ nB → at_M_bestBoxes_17 E L h2 (bbPo h tv mem (decide (s = 0)) n nB) s (bx (am (fun B => cnF (goB tv mem n) B nB (2 ^ n - 1)) (Pr (prW tv (decide (s = 0))) nB) B).1) (nI B) := by
    intro f
    induction f with
    | zero =>
      intro B hB
      rw [show B = 2 ^ nB by omega]
      refine B_M_bestBoxes_17 ⟨in75 (k := 0) (by omega), ?_⟩
      rw [e750 M2, shlN (by omega)]
      exact brT (nI_le (Nat.le_refl _) (by omega)) ⟨rfl, (e1.wk (fun x z => by omega)).trans (e2.wk (fun x z => by omega)), fun k hk => by rw [(e2 74 (by omega)).1]; exact k1 k hk, F2, f2, c2⟩
    | succ f ih =>
      intro B hB
      have ih1 := ih (B + 1) (by omega)
      have aN := am_no (p := fun B => cnF (goB tv mem n) B nB (2 ^ n - 1)) (f := Pr (prW tv (decide (s = 0))) nB) (k := B)
      have aU := am_up (p := fun B => cnF (goB tv mem n) B nB (2 ^ n - 1)) (f := Pr (prW tv (decide (s = 0))) nB) (k := B)
      have aK := am_kp (p := fun B => cnF (goB tv mem n) B nB (2 ^ n - 1)) (f := Pr (prW tv (decide (s = 0))) nB) (k := B)
      have ay := fun z => am_yes (p := fun B => cnF (goB tv mem n) B nB (2 ^ n - 1)) (f := Pr (prW tv (decide (s = 0))) nB) (n := B) z
      have A1 : (am (fun B => cnF (goB tv mem n) B nB (2 ^ n - 1)) (Pr (prW tv (decide (s = 0))) nB) B).1 ≤ B := by
        by_cases z : (am (fun B => cnF (goB tv mem n) B nB (2 ^ n - 1)) (Pr (prW tv (decide (s = 0))) nB) B).1 = 0
        · omega
        · exact (ay z).1
      generalize am (fun B => cnF (goB tv mem n) B nB (2 ^ n - 1)) (Pr (prW tv (decide (s = 0))) nB) (B + 1) = A' at *
      generalize am (fun B => cnF (goB tv mem n) B nB (2 ^ n - 1)) (Pr (prW tv (decide (s = 0))) nB) B = A at *
      refine B_M_bestBoxes_17 ⟨in75 (k := 0) (by omega), ?_⟩
      rw [e750 M2, shlN (by omega), F2.1, shlN (by omega), show (1024 : Int32) = nI 1024 from rfl, nI_mul, nI_add, pred1 (by omega), nIc (show 1024 * B + 2 ^ n - 1 < 2147483648 by omega), show 1024 * B + 2 ^ n - 1 = 1024 * B + (2 ^ n - 1) by omega, c2 B _ (by omega) (by omega), nI_1]
      refine brF (nI_ge (by omega) (by omega)) ⟨in82 (by omega), ?_⟩
      by_cases q : cnF (goB tv mem n) B nB (2 ^ n - 1) = true
      · rw [if_pos q]
        refine brF (by decide) ?_
        rw [bx_m1 (by omega)]
        refine ⟨fun A0 => ?_, fun A0 => ?_⟩
        · rw [aU q (Or.inl A0), show ((B + 1, Pr (prW tv (decide (s = 0))) nB B) : Nat × Nat).1 = B + 1 from rfl, bx_S] at ih1
          exact ih1
        · obtain ⟨y1, y2, y3⟩ := ay A0
          have ib := m_isBetter hE (L := L - 1) (by omega) M2 ht (B := B) (B' := A.1 - 1) (by omega) (by omega) (by omega) s
          rw [← y3, ← bx_pos (by omega)] at ib
          refine ib.use ?_
          by_cases d : Pr (prW tv (decide (s = 0))) nB B < A.2
          · rw [if_pos d]
            rw [aU q (Or.inr d), show ((B + 1, Pr (prW tv (decide (s = 0))) nB B) : Nat × Nat).1 = B + 1 from rfl, bx_S] at ih1
            exact brF (by decide) ih1
          · rw [if_neg d]
            rw [aK q A0 d] at ih1
            exact brT rfl ih1
      · rw [if_neg q]
        rw [aN (by simpa using q)] at ih1
        exact brT rfl ih1
  exact main (2 ^ nB) 0 (by omega)
/-- both have the same lot -/
theorem best_same {n : Nat} {mem : Nat → Nat} {z : Bool} (h8 : nB ≤ 8) {y : Int32} (hy : (y = -1 ∧ ∀ B, B < 2 ^ nB → cnF (goB tv mem n) B nB (2 ^ n - 1) = false) ∨ ∃ B, y = nI B ∧ bsB (goB tv mem n) (prW tv z) nB n B) : (y = -1 ∧ (am (fun B => cnF (goB tv mem n) B nB (2 ^ n - 1)) (Pr (prW tv z) nB) (2 ^ nB)).1 = 0) ∨ ∃ B, y = nI B ∧ B < 2 ^ nB ∧ cnF (goB tv mem n) B nB (2 ^ n - 1) = true ∧ (am (fun B => cnF (goB tv mem n) B nB (2 ^ n - 1)) (Pr (prW tv z) nB) (2 ^ nB)).1 = B + 1 := by
  rcases hy with ⟨e, a⟩ | ⟨B, e, b1, b2, b3⟩
  · refine Or.inl ⟨e, Classical.byContradiction fun w => ?_⟩
    obtain ⟨y1, y2, -⟩ := am_yes (p := fun B => cnF (goB tv mem n) B nB (2 ^ n - 1)) (f := Pr (prW tv z) nB) w
    have := a _ (show (am (fun B => cnF (goB tv mem n) B nB (2 ^ n - 1)) (Pr (prW tv z) nB) (2 ^ nB)).1 - 1 < 2 ^ nB by omega)
    have y2' : cnF (goB tv mem n) ((am (fun B => cnF (goB tv mem n) B nB (2 ^ n - 1)) (Pr (prW tv z) nB) (2 ^ nB)).1 - 1) nB (2 ^ n - 1) = true := y2
    rw [this] at y2'; cases y2'
  · refine Or.inr ⟨B, e, b1, b2, ?_⟩
    obtain ⟨m1, m2⟩ := am_min (p := fun B => cnF (goB tv mem n) B nB (2 ^ n - 1)) (f := Pr (prW tv z) nB) b1 b2
    obtain ⟨y1, y2, y3⟩ := am_yes (p := fun B => cnF (goB tv mem n) B nB (2 ^ n - 1)) (f := Pr (prW tv z) nB) m1
    have b4 := b3 _ (show (am (fun B => cnF (goB tv mem n) B nB (2 ^ n - 1)) (Pr (prW tv z) nB) (2 ^ nB)).1 - 1 < 2 ^ nB by omega) y2
    have := Pr_inj h8 b1 (show (am (fun B => cnF (goB tv mem n) B nB (2 ^ n - 1)) (Pr (prW tv z) nB) (2 ^ nB)).1 - 1 < 2 ^ nB by omega) (by rw [← y3] at b4 ⊢; omega)
    omega
theorem eq_household (hE : EOk E) (hL : 20 ≤ L) (I : Inv h K) (hK : K + 60 ≤ 100000) (v s w : Int32) : Same E L m_X_household m_M_household [.int v, .int s, .int w] h K := by
  obtain ⟨nB, nT, tv, pk, lv, sn, ck, hck, C⟩ := I.2.1
  have S := C.1
  have h8 := C.1.2.2.2.1
  have h16 := C.1.2.2.2.2.1
  have ht : ∀ b, b < nB → tv b 2 ≤ 99 := fun b hb => (C.2.2.2.2.2 b (by omega)).1.2.2.1
  by_cases hw : ∃ k, k < 3 ∧ w = nI k
  · obtain ⟨k, hk, rfl⟩ := hw
    have w2 : ∀ h1 : Hp, RdI E (L - 1) m_M_within 0 [.long (nI k).toInt64, .long 0, .long 2] h1 1 := fun h1 => m_w_yes (a := 0) (b := 2) hE (by omega) (by omega) (by omega) (by omega)
    have topX : ∀ {post : Int32 → Hp → Prop}, _ → ConI E L m_X_household 0 [.int v, .int s, .int (nI k)] h post := fun {post} H => B_X_household hE (by omega) (brF (nIneg (by omega)) (brT (show nI k ≤ nI 2 from nI_le (by omega) (by omega)) H))
    have topM : ∀ h1 {post : Int32 → Hp → Prop}, _ → ConI E L m_M_household 74 [.int v, .int s, .int (nI k)] h1 post := fun h1 {post} H => B_M_household hE (by omega) ((w2 _).use (brF' (by decide) H))
    rcases thingSet (pk := pk) (sn := sn) (ck := ck) hE (L := L - 1) (by omega) S v with ⟨t1, t2⟩ | ⟨t1, t2, -⟩
    · refine same_rd (x := -3) I hK (RdX.of I.2.2.2.2.2.2 (topX (t1.use (brT' rfl ⟨rfl, rfl⟩)))) (fun h1 e I1 => ?_)
      have M1 : MdV (sI h1 74 0 0) nB nT tv pk sn ck := (C.keep e).2.2.1
      exact topM h1 ((t2 _ M1).use (brT' rfl ⟨rfl, thr_eq _, I1.2.2.2.2.2.2⟩))
    · refine topX (t1.use (brF' (by decide) ((h_seek hE (by omega) S I.2.2.2.2.2.2 ht v s).mono (fun y h2 z2 => ?_))))
      obtain ⟨eX, zX, P2, T2, hy⟩ := z2
      have S2 : StV h2 1 nB nT tv := S.keep eX (by omega) (by omega)
      have M2 : MdV (sI h2 74 0 0) nB nT tv pk sn ck := MsV_eq C.2.2.1 (show h2.2.1 75 = _ from (eX 75 (by omega)).2.1)
      have mb := m_bestBoxes hE (L := L - 1) (by omega) M2 ht v s
      generalize nF (wS v (fun _ => true)) 10 = n at *
      generalize itK (wS v (fun _ => true)) = mem at *
      have p9 := pow9 h8
      have bs := best_same h8 hy
      have mm : ∀ ans : Int32, ((am (fun B => cnF (goB tv mem n) B nB (2 ^ n - 1)) (Pr (prW tv (decide (s = 0))) nB) (2 ^ nB)).1 = 0 → ans = -1) → (∀ B, B < 2 ^ nB → (am (fun B => cnF (goB tv mem n) B nB (2 ^ n - 1)) (Pr (prW tv (decide (s = 0))) nB) (2 ^ nB)).1 = B + 1 → ans = if k = 0 then nI (pcn B) else if k = 1 then nI (wB tv nB B) else nI B) → ConI E L m_M_household 74 [.int v, .int s, .int (nI k)] h2 (fun y2 h3 => ans = y2 ∧ Inv h3 (K + 60)) := by
        intro ans a0 a1
        refine topM h2 ((t2 _ M2).use (brF' (by decide) (mb.mono (fun y5 h5 z5 => ?_))))
        obtain ⟨ey, e5, k5, -, -, -⟩ := z5
        have I5 : Inv h5 (K + 60) := inv_bx I hK eX zX e5 k5
        have M5 : MdV h5 nB nT tv pk sn ck := MsV_eq M2 (e5 75 (by omega)).2.1
        have A1 : (am (fun B => cnF (goB tv mem n) B nB (2 ^ n - 1)) (Pr (prW tv (decide (s = 0))) nB) (2 ^ nB)).1 ≤ 2 ^ nB := by
          by_cases z : (am (fun B => cnF (goB tv mem n) B nB (2 ^ n - 1)) (Pr (prW tv (decide (s = 0))) nB) (2 ^ nB)).1 = 0
          · omega
          · exact (am_yes z).1
        rw [ey, bx_m1 (by omega)]
        refine ⟨fun A0 => ?_, fun A0 => ⟨a0 A0, I5⟩⟩
        obtain ⟨B, eB⟩ : ∃ B, (am (fun B => cnF (goB tv mem n) B nB (2 ^ n - 1)) (Pr (prW tv (decide (s = 0))) nB) (2 ^ nB)).1 = B + 1 := ⟨_, (Nat.sub_add_cancel (Nat.pos_of_ne_zero A0)).symm⟩
        have aa := a1 B (by omega) eB
        rw [eB, bx_S, nI_z (by omega), show (1 : Int32) = nI 1 from rfl, nIe (by omega) (by omega)]
        refine ⟨fun k0 => ⟨fun k1 => ?_, fun k1 => ?_⟩, fun k0 => ?_⟩
        · rw [if_neg k0, if_neg k1] at aa; exact ⟨aa, I5⟩
        · rw [if_neg k0, if_pos k1] at aa
          exact (m_weightOf hE (by omega) M5 (by omega)).use ⟨aa, I5⟩
        · rw [if_pos k0] at aa
          exact (m_bitsOf hE (by omega) (by omega)).use ⟨aa, I5⟩
      rcases bs with ⟨e, A0⟩ | ⟨B, e, b1, -, A0⟩
      · exact brT' e (mm _ (fun _ => rfl) (fun B _ z => by omega))
      · rw [e]
        refine brF' (nIm1 (by omega)) ?_
        rw [nI_z (by omega), show (1 : Int32) = nI 1 from rfl, nIe (by omega) (by omega)]
        refine ⟨fun k0 => ⟨fun k1 => ?_, fun k1 => ?_⟩, fun k0 => ?_⟩
        · refine mm _ (fun z => by omega) (fun B' _ z => ?_)
          rw [if_neg k0, if_neg k1, show B' = B by omega]
        · have wo := store_weightOfBoxes hE (L := L - 1) (by omega) S2 (nI B)
          have ew : sE (fun b => if (nI B >>> (nI b &&& 31)) &&& 1 = 0 then 0 else tv b 2) nB = wB tv nB B := sE_cong (n := nB) (fun b hb => by
            rw [bitN (by omega) (by omega)]
            by_cases t : B.testBit b = true
            · rw [if_pos t, if_pos t, if_neg (by decide)]
            · rw [if_neg t, if_neg t, if_pos rfl])
          rw [ew] at wo
          refine wo.use (mm _ (fun z => by omega) (fun B' _ z => ?_))
          rw [if_neg k0, if_pos k1, show B' = B by omega]
        · refine (i_bitCount hE (by omega) (by omega)).use (mm _ (fun z => by omega) (fun B' _ z => ?_))
          rw [if_pos k0, show B' = B by omega]
  · have hv2 := not_small (n := 3) (by omega) hw
    refine same_rd (x := -2) I hK (RdX.of I.2.2.2.2.2.2 ?_) (fun h1 e I1 => ?_)
    · refine B_X_household hE (by omega) ?_
      by_cases c : w < 0
      · exact brT c ⟨rfl, rfl⟩
      · refine brF c (brF (fun z => ?_) ⟨rfl, rfl⟩)
        have c2 := hv2.resolve_left c
        rw [i32_le, nI_int (by omega)] at c2
        rw [i32_le] at z
        have e40 : (2 : Int32).toInt = 2 := rfl
        omega
    · exact B_M_household hE (by omega) ((m_w_no (a := 0) (b := 2) hE (by omega) (by omega) (by omega) (fun ⟨k, _, q, r⟩ => hw ⟨k, by omega, r⟩)).use (brT' rfl ⟨rfl, thr_eq _, I1.2.2.2.2.2.2⟩))
end House6
