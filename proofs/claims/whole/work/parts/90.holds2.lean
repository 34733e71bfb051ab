section Holds2
variable {E : EnvX} {L : Nat} {h : Hp} {K : Nat}
theorem not_sub {y l : Nat} (hy : y < 2 ^ 24) (hl : l < 2 ^ 24) : nI y &&& (nI l ^^^ (-1)) = nI (y ^^^ (y &&& l)) := by
  have a : y &&& l ≤ y := Nat.and_le_left
  have x24 : y ^^^ (y &&& l) < 2 ^ 24 := Nat.xor_lt_two_pow hy (by omega)
  refine mk_eq (mk_ndel (mk_nat hy) (mk_nat hl)) (mk_cong (mk_nat x24) (fun i _ => ?_))
  rw [Nat.testBit_xor, Nat.testBit_and]
  cases y.testBit i <;> cases l.testBit i <;> rfl
theorem xor_z {y a : Nat} : y ^^^ a = 0 ↔ a = y := by
  constructor
  · intro z
    exact Nat.eq_of_testBit_eq (fun i => by
      have := congrArg (fun x => x.testBit i) z
      rw [Nat.testBit_xor, Nat.zero_testBit] at this
      cases h3 : y.testBit i <;> cases h4 : a.testBit i <;> rw [h3, h4] at this <;> first | rfl | cases this)
  · intro z; rw [z, Nat.xor_self]
theorem eq_holds (hE : EOk E) (hL : 20 ≤ L) (I : Inv h K) (hK : K + 60 ≤ 100000) (v s w : Int32) : Same E L m_X_holds m_M_holds [.int v, .int s, .int w] h K := by
  obtain ⟨nB, nT, tv, pk, lv, sn, ck, hck, C⟩ := I.2.1
  have S := C.1
  have h8 := C.1.2.2.2.1
  have h16 := C.1.2.2.2.2.1
  have ht : ∀ b, b < nB → tv b 2 ≤ 99 := fun b hb => (C.2.2.2.2.2 b (by omega)).1.2.2.1
  by_cases hw : ∃ i, isIt nB nT i ∧ w = nI i
  · obtain ⟨i, hi, rfl⟩ := hw
    have i24 : i < 24 := by rcases hi with q | q <;> omega
    have ei : (nI i).toInt64 = lN i := nI_l (by omega)
    have hx := hasItem_yes (h := h) hE (L := L - 2) (by omega) S hi
    rw [← ei] at hx
    have mi : ∀ h', MdV h' nB nT tv pk sn ck → RdI E (L - 1) m_M_isItem 74 [.long (nI i).toInt64] h' 1 := fun h' M => by rw [ei]; exact m_isItem_yes hE (by omega) M hi
    have w23 : ∀ h' : Hp, RdI E (L - 2) m_M_within 0 [.long (nI i).toInt64, .long 0, .long 23] h' 1 := fun h' => m_w_yes (a := 0) (b := 23) hE (by omega) (by omega) (by omega) (by omega)
    by_cases bv : bt v i = true
    · have xi : RdI E (L - 1) m_X_isItemOf 0 [.int (nI i), .int v] h 1 := by
        refine B_X_isItemOf hE (by omega) (hx.use (brF (by decide) ?_))
        rw [bt_test v i24, if_pos bv]
        exact brF (by decide) ⟨rfl, rfl⟩
      have mo : ∀ h' : Hp, RdI E (L - 1) m_M_isOf 0 [.int v, .int (nI i)] h' 1 := fun h' => by
        refine B_M_isOf hE (by omega) ((w23 h').use (brF (by decide) ?_))
        rw [bt_test v i24, if_pos bv]
        exact brT' rfl ⟨rfl, rfl⟩
      rcases thingSet (pk := pk) (sn := sn) (ck := ck) hE (L := L - 1) (by omega) S v with ⟨t1, t2⟩ | ⟨t1, t2, -⟩
      · refine same_rd (x := -3) I hK (RdX.of I.2.2.2.2.2.2 (B_X_holds hE (by omega) (xi.use (brF' (by decide) (t1.use (brT' rfl ⟨rfl, rfl⟩)))))) (fun h1 e I1 => ?_)
        have M1 : MdV (sI h1 74 0 0) nB nT tv pk sn ck := (C.keep e).2.2.1
        exact B_M_holds hE (by omega) ((mi _ M1).use (brF (by decide) ((mo _).use (brF' (by decide) ((t2 _ M1).use (brT' rfl ⟨rfl, thr_eq _, I1.2.2.2.2.2.2⟩))))))
      · refine B_X_holds hE (by omega) (xi.use (brF' (by decide) (t1.use (brF' (by decide) ((h_seek hE (by omega) S I.2.2.2.2.2.2 ht v s).mono (fun y h2 z2 => ?_))))))
        obtain ⟨eX, zX, P2, T2, hy⟩ := z2
        have mb0 : ∀ h1, MdV h1 nB nT tv pk sn ck → _ := fun h1 M => m_bestBoxes (h := h1) hE (L := L - 1) (by omega) M ht v s
        generalize nF (wS v (fun _ => true)) 10 = n at *
        generalize itK (wS v (fun _ => true)) = mem at *
        have p9 := pow9 h8
        have n10 := T2.1
        have pw := pow11 T2.1
        have bs := best_same h8 hy
        have mm : ∀ (h3 : Hp) (ans : Int32), EqO (fun x => 39 ≤ x ∧ x ≤ 52) h h3 → PickZ h3 → ((am (fun B => cnF (goB tv mem n) B nB (2 ^ n - 1)) (Pr (prW tv (decide (s = 0))) nB) (2 ^ nB)).1 = 0 → ans = -1) → (∀ B, B < 2 ^ nB → (am (fun B => cnF (goB tv mem n) B nB (2 ^ n - 1)) (Pr (prW tv (decide (s = 0))) nB) (2 ^ nB)).1 = B + 1 → ans = bx (rsF (goB tv mem n) mem nB n B i (cB (fun b => B.testBit b) 8) 0 (2 ^ n - 1))) → ConI E L m_M_holds 74 [.int v, .int s, .int (nI i)] h3 (fun y2 h3 => ans = y2 ∧ Inv h3 (K + 60)) := by
          intro h3 ans e3 z3 a0 a1
          have M3 : MdV (sI h3 74 0 0) nB nT tv pk sn ck := MsV_eq C.2.2.1 (show h3.2.1 75 = _ from (e3 75 (by omega)).2.1)
          refine B_M_holds hE (by omega) ((mi _ M3).use (brF (by decide) ((mo _).use (brF' (by decide) ((t2 _ M3).use (brF' (by decide) ((mb0 _ M3).mono (fun y5 h5 z5 => ?_))))))))
          obtain ⟨ey, e5, k5, F5, f5, c5⟩ := z5
          have I5 : Inv h5 (K + 60) := inv_bx I hK e3 z3 e5 k5
          have M5 : MdV h5 nB nT tv pk sn ck := MsV_eq M3 (e5 75 (by omega)).2.1
          have ay := fun z => am_yes (p := fun B => cnF (goB tv mem n) B nB (2 ^ n - 1)) (f := Pr (prW tv (decide (s = 0))) nB) (n := 2 ^ nB) z
          have A1 : (am (fun B => cnF (goB tv mem n) B nB (2 ^ n - 1)) (Pr (prW tv (decide (s = 0))) nB) (2 ^ nB)).1 ≤ 2 ^ nB := by
            by_cases z : (am (fun B => cnF (goB tv mem n) B nB (2 ^ n - 1)) (Pr (prW tv (decide (s = 0))) nB) (2 ^ nB)).1 = 0
            · omega
            · exact (ay z).1
          rw [ey, bx_m1 (by omega)]
          refine ⟨fun A0 => ?_, fun A0 => ⟨a0 A0, I5⟩⟩
          have can0 : cnF (goB tv mem n) ((am (fun B => cnF (goB tv mem n) B nB (2 ^ n - 1)) (Pr (prW tv (decide (s = 0))) nB) (2 ^ nB)).1 - 1) nB (2 ^ n - 1) = true := (ay A0).2.1
          obtain ⟨B, eB⟩ : ∃ B, (am (fun B => cnF (goB tv mem n) B nB (2 ^ n - 1)) (Pr (prW tv (decide (s = 0))) nB) (2 ^ nB)).1 = B + 1 := ⟨_, (Nat.sub_add_cancel (Nat.pos_of_ne_zero A0)).symm⟩
          have hB : B < 2 ^ nB := by omega
          have aa := a1 B hB eB
          rw [eB, Nat.add_sub_cancel] at can0
          rw [eB, bx_S, F5.1, shlN (by omega), pred1 (by omega)]
          have hB8 : B < 2 ^ 8 := by have : 2 ^ nB ≤ 2 ^ 8 := Nat.pow_le_pow_right (by decide) h8; omega
          have R8 := cB_le (fun b => B.testBit b) 8
          have main : ∀ f b, f + b = nB → ∀ l, l < 2 ^ n → cnF (goB tv mem n) (upB B b) nB l = true → ans = bx (rsF (goB tv mem n) mem nB n B i (cB (fun b => B.testBit b) 8 - cB (fun b => B.testBit b) b) (cB (fun b => B.testBit b) b) l) → at_M_holds_65 E L h5 (fun y2 h3 => ans = y2 ∧ Inv h3 (K + 60)) (nI i) (nI (upB B b)) (nI l) (nI b) := by
            intro f
            induction f with
            | zero =>
              intro b hb l hl cn ea
              refine B_M_holds_65 ⟨in75 (k := 0) (by omega), ?_⟩
              rw [e750 M5, show b = nB by omega]
              refine brT (nI_le (Nat.le_refl _) (by omega)) ⟨?_, I5⟩
              have : cB (fun b => B.testBit b) 8 = cB (fun b => B.testBit b) b := by
                unfold cB
                rw [show (8 : Nat) = b + (8 - b) by omega, sE_split, sE_zero (n := 8 - b) (fun k _ => if_neg (by show ¬ B.testBit (b + k) = true; rw [bit_hi hB (by omega)]; decide)), Nat.add_zero]
              rw [ea, this, Nat.sub_self]; rfl
            | succ f ih =>
              intro b hb l hl cn ea
              have ul : upB B b < 2 ^ nB := by
                have : upB B b &&& B = upB B b := sub_of (fun i hi => by rw [up_bit, Bool.and_eq_true] at hi; exact hi.2)
                have := sbs_le this; omega
              have cs := cB_s (fun b => B.testBit b) b
              refine B_M_holds_65 ⟨in75 (k := 0) (by omega), ?_⟩
              rw [e750 M5, bitN (by omega) (by omega), up_bit, decide_eq_true (Nat.le_refl b), Bool.true_and, nI_1]
              refine brF (nI_ge (by omega) (by omega)) ?_
              by_cases t : B.testBit b = true
              · rw [if_pos t]
                have cs' : cB (fun b => B.testBit b) (b + 1) = cB (fun b => B.testBit b) b + 1 := by rw [cs]; show _ + (if B.testBit b = true then 1 else 0) = _; rw [if_pos t]
                have cm := cB_mono (fun b => B.testBit b) (u := b + 1) (v := 8) (by omega)
                have ib : itK (fun b => B.testBit b) (cB (fun b => B.testBit b) b) = b := itK_at (W := fun b => B.testBit b) (by omega) t
                have ub : (upB B b).testBit b = true := by rw [up_bit, t, decide_eq_true (Nat.le_refl b)]; rfl
                have ed : nI (upB B b) &&& (((1 : Int32) <<< (nI b &&& 31)) ^^^ (-1)) = nI (upB B (b + 1)) := by
                  have ul2 : upB B (b + 1) < 2 ^ nB := by
                    have : upB B (b + 1) &&& B = upB B (b + 1) := sub_of (fun i hi => by rw [up_bit, Bool.and_eq_true] at hi; exact hi.2)
                    have := sbs_le this; omega
                  refine mk_eq (mk_del (mk_nat (by omega)) (by omega)) (mk_cong (mk_nat (by omega)) (fun j _ => ?_))
                  rw [up_bit, up_bit]
                  by_cases e : j = b
                  · rw [e, decide_eq_true rfl, decide_eq_false (show ¬ b + 1 ≤ b by omega)]; simp
                  · rw [decide_eq_false e, show decide (b + 1 ≤ j) = decide (b ≤ j) from decide_eq_decide.mpr (by omega)]; simp
                have edel : del (upB B b) b = upB B (b + 1) := Nat.eq_of_testBit_eq (fun j => by
                  rw [del_bit ub, up_bit, up_bit]
                  by_cases e : b = j
                  · subst e; rw [decide_eq_true rfl, decide_eq_false (show ¬ b + 1 ≤ b by omega)]; simp
                  · rw [decide_eq_false e, show decide (b + 1 ≤ j) = decide (b ≤ j) from decide_eq_decide.mpr (by omega)]; simp)
                have uu : ubM B (cB (fun b => B.testBit b) b + 1) = upB B (b + 1) := by rw [← cs', ub_up hB8]
                have gq : gpt (goB tv mem n) nB B (cB (fun b => B.testBit b) b) l = mxQ (fun x => goB tv mem n b x && cnF (goB tv mem n) (upB B (b + 1)) nB (l ^^^ x)) l l := by unfold gpt; rw [ib, uu]
                obtain ⟨x, x1, x2, x3⟩ := (cn_any ub nB (show b < nB by omega) l).mp cn
                rw [edel] at x3
                obtain ⟨q1, -⟩ := mxQ_yes (Q := fun x => goB tv mem n b x && cnF (goB tv mem n) (upB B (b + 1)) nB (l ^^^ x)) (sbs_le x1) x1 (show (goB tv mem n b x && cnF (goB tv mem n) (upB B (b + 1)) nB (l ^^^ x)) = true by rw [x2, x3]; rfl)
                have psb := mxQ_sub (fun x => goB tv mem n b x && cnF (goB tv mem n) (upB B (b + 1)) nB (l ^^^ x)) l l
                have pl := mxQ_le (fun x => goB tv mem n b x && cnF (goB tv mem n) (upB B (b + 1)) nB (l ^^^ x)) l l
                have es : rsF (goB tv mem n) mem nB n B i (cB (fun b => B.testBit b) 8 - cB (fun b => B.testBit b) b) (cB (fun b => B.testBit b) b) l = if memP mem n (mxQ (fun x => goB tv mem n b x && cnF (goB tv mem n) (upB B (b + 1)) nB (l ^^^ x)) l l) i = true then b + 1 else rsF (goB tv mem n) mem nB n B i (cB (fun b => B.testBit b) 8 - (cB (fun b => B.testBit b) b + 1)) (cB (fun b => B.testBit b) b + 1) (l ^^^ mxQ (fun x => goB tv mem n b x && cnF (goB tv mem n) (upB B (b + 1)) nB (l ^^^ x)) l l) := by
                  rw [← gq]
                  rw [show cB (fun b => B.testBit b) 8 - cB (fun b => B.testBit b) b = (cB (fun b => B.testBit b) 8 - (cB (fun b => B.testBit b) b + 1)) + 1 by omega]
                  show (if memP mem n (gpt (goB tv mem n) nB B (cB (fun b => B.testBit b) b) l) i = true then itK (fun b => B.testBit b) (cB (fun b => B.testBit b) b) + 1 else _) = _
                  rw [ib]
                rw [es] at ea
                refine brF' (by decide) ?_
                rw [ed]
                have ul2 : upB B (b + 1) < 2 ^ nB := by
                  have : upB B (b + 1) &&& B = upB B (b + 1) := sub_of (fun i hi => by rw [up_bit, Bool.and_eq_true] at hi; exact hi.2)
                  have := sbs_le this; omega
                have skp := fun y h1 => mxQ_skip (Q := fun x => goB tv mem n b x && cnF (goB tv mem n) (upB B (b + 1)) nB (l ^^^ x)) (l := l) (y := y) 1 h1
                generalize hP : mxQ (fun x => goB tv mem n b x && cnF (goB tv mem n) (upB B (b + 1)) nB (l ^^^ x)) l l = P at *
                have mx : ∀ y x, y ≤ l → P < x → x ≤ l → x &&& l = x → (goB tv mem n b x && cnF (goB tv mem n) (upB B (b + 1)) nB (l ^^^ x)) = false := fun y x _ h1 h2 h3 => by
                  cases hq : (goB tv mem n b x && cnF (goB tv mem n) (upB B (b + 1)) nB (l ^^^ x))
                  · rfl
                  · have := (mxQ_yes (Q := fun x => goB tv mem n b x && cnF (goB tv mem n) (upB B (b + 1)) nB (l ^^^ x)) h2 h3 hq).2
                    rw [hP] at this; omega
                rw [Bool.and_eq_true] at q1
                have l104 : ∀ d, P + d ≤ l → at_M_holds_104 E L h5 (fun y2 h3 => ans = y2 ∧ Inv h3 (K + 60)) (nI i) (nI (upB B (b + 1))) (nI l) (nI b) (nI (P + d)) := by
                  intro d
                  induction d with
                  | zero =>
                    intro _
                    have xl : l ^^^ P < 2 ^ n := Nat.xor_lt_two_pow hl (by omega)
                    refine B_M_holds_104 ?_
                    rw [Nat.add_zero, not_sub (by omega) (by omega), psb, Nat.xor_self, show (1024 : Int32) = nI 1024 from rfl, nI_mul, nI_mul, xorN (by omega) (by omega), nI_add, nI_add, nIc (show 1024 * b + P < 2147483648 by omega), nIc (show 1024 * upB B (b + 1) + (l ^^^ P) < 2147483648 by omega), f5 b P (by omega) (by omega), c5 _ _ ul2 xl, if_pos q1.1, if_pos q1.2, nI_1]
                    refine brT' rfl ⟨in81 (by omega), brF (by decide) ⟨in82 (by omega), brF' (by decide) ?_⟩⟩
                    obtain ⟨vb, mvb⟩ : ∃ vb, Mk vb (memP mem n P) := by
                      have key : ∀ k, k ≤ n → ∃ v, Mk v (memP mem k P) := by
                        intro k
                        induction k with
                        | zero => intro _; exact ⟨0, mk_cong mk_0 (fun i _ => rfl)⟩
                        | succ k ihk =>
                          intro hk
                          obtain ⟨v, mv⟩ := ihk (by omega)
                          by_cases bb : P.testBit k = true
                          · exact ⟨_, mk_cong (mk_or mv (F5.2.2 k (by omega)).2) (fun i _ => by rw [memP_s, bb, Bool.true_and]; congr 1; exact decide_eq_decide.mpr eq_comm)⟩
                          · exact ⟨v, mk_cong mv (fun i _ => by rw [memP_s, show P.testBit k = false by simpa using bb]; simp)⟩
                      exact key n (Nat.le_refl _)
                    refine (m_asItems hE (by omega) F5 (by omega) mvb).use ?_
                    rw [mk_test mvb i24]
                    by_cases q : memP mem n P i = true
                    · rw [if_pos q]
                      rw [if_pos q, bx_S] at ea
                      exact brT' rfl ⟨ea, I5⟩
                    · rw [if_neg q]
                      rw [if_neg q] at ea
                      refine brF' (by decide) (ih (b + 1) (by omega) (l ^^^ P) xl q1.2 ?_)
                      rw [cs']; exact ea
                  | succ d ihd =>
                    intro hd
                    have nxt := ihd (by omega)
                    have fq := mx (P + (d + 1))
                    have em : nI (P + (d + 1)) + (-1) = nI (P + d) := pk_m1 (P + d)
                    have al : P + (d + 1) &&& l ≤ P + (d + 1) := Nat.and_le_left
                    have xo : (P + (d + 1)) ^^^ ((P + (d + 1)) &&& l) < 2 ^ 24 := Nat.xor_lt_two_pow (by omega) (by omega)
                    have xl : l ^^^ (P + (d + 1)) < 2 ^ n := Nat.xor_lt_two_pow hl (by omega)
                    refine B_M_holds_104 ?_
                    rw [em, not_sub (by omega) (by omega), nI_z (by omega), xor_z]
                    refine ⟨fun _ => nxt, fun sb => ?_⟩
                    have fz := mx l (P + (d + 1)) (Nat.le_refl _) (by omega) hd sb
                    rw [show (1024 : Int32) = nI 1024 from rfl, nI_mul, nI_mul, xorN (by omega) (by omega), nI_add, nI_add, nIc (show 1024 * b + (P + (d + 1)) < 2147483648 by omega), nIc (show 1024 * upB B (b + 1) + (l ^^^ (P + (d + 1))) < 2147483648 by omega), f5 b _ (by omega) (by omega), c5 _ _ ul2 xl]
                    refine ⟨in81 (by omega), ?_⟩
                    by_cases g1 : goB tv mem n b (P + (d + 1)) = true
                    · rw [if_pos g1]
                      rw [g1, Bool.true_and] at fz
                      refine brF (by decide) ⟨in82 (by omega), ?_⟩
                      rw [if_neg (by rw [fz]; decide)]
                      exact brT' rfl nxt
                    · rw [if_neg g1]
                      exact brT rfl nxt
                have := l104 (l - P) (by omega)
                rw [show P + (l - P) = l by omega] at this
                exact this
              · rw [if_neg t]
                have cs' : cB (fun b => B.testBit b) (b + 1) = cB (fun b => B.testBit b) b := by rw [cs]; show _ + (if B.testBit b = true then 1 else 0) = _; rw [if_neg t]; rfl
                have eu : upB B (b + 1) = upB B b := Nat.eq_of_testBit_eq (fun j => by
                  rw [up_bit, up_bit]
                  by_cases e : j = b
                  · rw [e, show B.testBit b = false by simpa using t, Bool.and_false, Bool.and_false]
                  · rw [show decide (b + 1 ≤ j) = decide (b ≤ j) from decide_eq_decide.mpr (by omega)])
                have ih1 := ih (b + 1) (by omega) l hl (by rw [eu]; exact cn) (by rw [cs']; exact ea)
                rw [eu] at ih1
                exact brT' rfl ih1
          have up0 : upB B 0 = B := by unfold upB; rw [show B % 2 ^ 0 = 0 from Nat.mod_one B, Nat.xor_zero]
          have := main nB 0 (by omega) (2 ^ n - 1) (by omega) (by rw [up0]; exact can0) aa
          rw [up0] at this
          exact this
        rcases bs with ⟨e, A0⟩ | ⟨B, e, b1, -, A0⟩
        · exact brT' e (mm h2 _ eX zX (fun _ => rfl) (fun B _ z => by omega))
        · rw [e]
          refine brF' (nIm1 (by omega)) ((h_boxFor hE goB_mono (fun b => goB_0 b) b1 h8 (by omega) T2 P2 i24).mono (fun y4 h4 z4 => ?_))
          obtain ⟨e4, ey4⟩ := z4
          refine mm h4 _ (eX.trans (e4.wk (fun x z => by omega))) (PickZ_eq zX (fun a q1 q2 => (e4 a (by omega)).2.1)) (fun z => by omega) (fun B' _ z => ?_)
          rw [ey4, show B' = B by omega]
    · have xi : RdI E (L - 1) m_X_isItemOf 0 [.int (nI i), .int v] h 0 := by
        refine B_X_isItemOf hE (by omega) (hx.use (brF (by decide) ?_))
        rw [bt_test v i24, if_neg bv]
        exact brT rfl ⟨rfl, rfl⟩
      have mo : ∀ h' : Hp, RdI E (L - 1) m_M_isOf 0 [.int v, .int (nI i)] h' 0 := fun h' => by
        refine B_M_isOf hE (by omega) ((w23 h').use (brF (by decide) ?_))
        rw [bt_test v i24, if_neg bv]
        exact brF' (by decide) ⟨rfl, rfl⟩
      refine same_rd (x := -2) I hK (RdX.of I.2.2.2.2.2.2 (B_X_holds hE (by omega) (xi.use (brT' rfl ⟨rfl, rfl⟩)))) (fun h1 e I1 => ?_)
      exact B_M_holds hE (by omega) ((mi (sI h1 74 0 0) (C.keep e).2.2.1).use (brF (by decide) ((mo _).use (brT' rfl ⟨rfl, thr_eq _, I1.2.2.2.2.2.2⟩))))
  · have xi : RdI E (L - 1) m_X_isItemOf 0 [.int w, .int v] h 0 := B_X_isItemOf hE (by omega) ((hasItem_no hE (by omega) S (noItem h8 h16 hw)).use (brT rfl ⟨rfl, rfl⟩))
    refine same_rd (x := -2) I hK (RdX.of I.2.2.2.2.2.2 (B_X_holds hE (by omega) (xi.use (brT' rfl ⟨rfl, rfl⟩)))) (fun h1 e I1 => ?_)
    exact B_M_holds hE (by omega) ((m_isItem_no (h := sI h1 74 0 0) hE (by omega) (C.keep e).2.2.1 (noItem h8 h16 hw)).use (brT rfl ⟨rfl, thr_eq _, I1.2.2.2.2.2.2⟩))
end Holds2
