section Nest5
variable {E : EnvX} {L : Nat} {h : Hp} {K : Nat} {nB nT : Nat} {tv : Nat → Nat → Nat}
theorem st_weight (hE : EOk E) (hL : 2 ≤ L) (S : StV h 1 nB nT tv) {B : Nat} (hB : B < 2 ^ 24) : RdI E L m_Store_weightOfBoxes 1 [.int (nI B)] h (nI (wB tv nB B)) := by
  have h8 := S.2.2.2.1
  have wo := store_weightOfBoxes hE hL S (nI B)
  have ew : sE (fun b => if (nI B >>> (nI b &&& 31)) &&& 1 = 0 then 0 else tv b 2) nB = wB tv nB B := sE_cong (n := nB) (fun b hb => by
    rw [bitN hB (by omega)]
    by_cases t : B.testBit b = true
    · rw [if_pos t, if_pos t, if_neg (by decide)]
    · rw [if_neg t, if_neg t, if_pos rfl])
  rw [ew] at wo
  exact wo
def TbN (h : Hp) (tv : Nat → Nat → Nat) (nB lo : Nat) : Prop := ∀ N l, lo < N → N < 2 ^ nB → l < nB → N.testBit l = true → h.2.1 65 (N * 8 + l) = nI (mR tv nB N l)
theorem cn_all (nB N : Nat) : cN nB N ≤ nB := by
  have : cN nB N ≤ nB * 1 := sE_le (fun k _ => by split <;> omega)
  omega
theorem tb_r {N l b : Nat} (T : TbN h tv nB N) (hN : N < 2 ^ nB) (hb : b < nB) (c : cnN tv nB N l b = true) : h.2.1 65 ((N ||| 2 ^ b) * 8 + b) = nI (mR tv nB (N ||| 2 ^ b) b) := by
  have t := cn_bit c
  have s2 : N &&& (N ||| 2 ^ b) = N := sub_of (fun j hj => by rw [orb, hj]; rfl)
  have tb : (N ||| 2 ^ b).testBit b = true := by rw [orb, decide_eq_true rfl, Bool.or_true]
  refine T _ b (Nat.lt_of_le_of_ne (sbs_le s2) (fun w => ?_)) (Nat.or_lt_two_pow hN (Nat.pow_lt_pow_right (by decide) hb)) hb tb
  rw [← w, t] at tb; cases tb
theorem ns_most (hE : EOk E) (hL : 4 ≤ L) (S : StV h 1 nB nT tv) (ht : ∀ b, b < nB → tv b 2 ≤ 99) (P : prV h tv nB) {N l : Nat} (T : TbN h tv nB N) (hN : N < 2 ^ nB) (hl : l < nB) (tl : N.testBit l = true) : RdI E L m_Nest_mostAround 64 [.int (nI N), .int (nI l)] h (nI (mR tv nB N l)) := by
  have h8 := S.2.2.2.1
  have p9 := pow9 h8
  have wl := wB_le (B := N) h8 ht
  rw [mR_eq N l (cn_all nB N)]
  refine B_Nest_mostAround hE (by omega) ((st_weight hE (by omega) S (by omega)).use ?_)
  refine upto (P := fun k => at_Nest_mostAround_15 E L h _ (nI N) (nI l) (nI (wB tv nB N)) (nI (Gm tv nB N l k).2) (nI k)) (n := nB) ?_ (fun k hk ih => ?_) 0 (by omega)
  · exact B_Nest_mostAround_15 ((store_boxes hE (by omega) S).use (brT (nI_le (Nat.le_refl _) (by omega)) ⟨rfl, rfl⟩))
  · have gs : Gm tv nB N l (k + 1) = if (Gm tv nB N l k).2 < mwF tv nB (mR tv nB) N l k then (k + 1, mwF tv nB (mR tv nB) N l k) else Gm tv nB N l k := gmx_s _ _
    have fb : ∀ b, b < nB → mwF tv nB (mR tv nB) N l b ≤ 8 := fun b hb => by rcases mw_le (tv := tv) (N := N) (l := l) hb with w | w <;> omega
    have gl : (Gm tv nB N l k).2 ≤ 8 := by
      by_cases z : (Gm tv nB N l k).2 = 0
      · omega
      · obtain ⟨g1, g2, g3, -⟩ := gmx_yes (mwF tv nB (mR tv nB) N l) z
        have g3' : mwF tv nB (mR tv nB) N l ((Gm tv nB N l k).1 - 1) = (Gm tv nB N l k).2 := g3
        have g2' : (Gm tv nB N l k).1 ≤ k := g2
        have := fb ((Gm tv nB N l k).1 - 1) (by omega)
        omega
    refine B_Nest_mostAround_15 ((store_boxes hE (by omega) S).use (brF (nI_ge hk (by omega)) ((ns_with hE (by omega) S P hN hl hk tl rfl (by omega) (fun c => tb_r T hN hk c)).use ⟨rfl, ?_⟩)))
    have fk := fb k hk
    rw [mx_n (by omega) (by omega), nI_1]
    rw [gs] at ih
    by_cases c : (Gm tv nB N l k).2 < mwF tv nB (mR tv nB) N l k
    · rw [if_pos c] at ih ⊢; exact ih
    · rw [if_neg c] at ih ⊢; exact ih
theorem ns_first (hE : EOk E) (hL : 4 ≤ L) (S : StV h 1 nB nT tv) (ht : ∀ b, b < nB → tv b 2 ≤ 99) (P : prV h tv nB) {N l w : Nat} (T : TbN h tv nB 0) (hN : N < 2 ^ nB) (hl : l < nB) (tl : N.testBit l = true) (hw : w ≠ 0 → w = mR tv nB N l) (w8 : w ≤ 8) : RdI E L m_Nest_firstAround 64 [.int (nI N), .int (nI l), .int (nI w)] h (if w = 0 then -1 else nI ((Gm tv nB N l nB).1 - 1)) := by
  have h8 := S.2.2.2.1
  have p9 := pow9 h8
  have wl := wB_le (B := N) h8 ht
  have T' : TbN h tv nB N := fun N' l' h1 => T N' l' (by omega)
  refine B_Nest_firstAround hE (by omega) ((st_weight hE (by omega) S (by omega)).use ?_)
  by_cases w0 : w = 0
  · rw [if_pos w0]
    refine B_Nest_firstAround_13 ((store_boxes hE (by omega) S).use ⟨fun _ => ⟨rfl, rfl⟩, fun _ => brT ?_ ⟨rfl, rfl⟩⟩)
    rw [w0]; decide
  · rw [if_neg w0]
    have ew := hw w0
    rw [mR_eq N l (cn_all nB N)] at ew
    obtain ⟨g1, g2, g3, g4⟩ := gmx_yes (mwF tv nB (mR tv nB) N l) (n := nB) (show (Gm tv nB N l nB).2 ≠ 0 by omega)
    have g1' : (Gm tv nB N l nB).1 ≠ 0 := g1
    have g2' : (Gm tv nB N l nB).1 ≤ nB := g2
    have g3' : mwF tv nB (mR tv nB) N l ((Gm tv nB N l nB).1 - 1) = (Gm tv nB N l nB).2 := g3
    have g4' : ∀ k, k < (Gm tv nB N l nB).1 - 1 → mwF tv nB (mR tv nB) N l k < (Gm tv nB N l nB).2 := g4
    have fb : ∀ b, b < nB → mwF tv nB (mR tv nB) N l b ≤ 8 := fun b hb => by rcases mw_le (tv := tv) (N := N) (l := l) hb with w | w <;> omega
    have main : ∀ f k, f + k = (Gm tv nB N l nB).1 - 1 → at_Nest_firstAround_13 E L h (fun y h' => y = nI ((Gm tv nB N l nB).1 - 1) ∧ h' = h) (nI N) (nI l) (nI w) (nI (wB tv nB N)) (nI k) := by
      intro f
      induction f with
      | zero =>
        intro k hk
        rw [show k = (Gm tv nB N l nB).1 - 1 by omega]
        have fk := fb ((Gm tv nB N l nB).1 - 1) (by omega)
        refine B_Nest_firstAround_13 ((store_boxes hE (by omega) S).use (brF (nI_ge (by omega) (by omega)) (brF (fun z => w0 ((nI_le0 (by omega)).mp z)) ((ns_with hE (by omega) S P hN hl (by omega) tl rfl (by omega) (fun c => tb_r T' hN (by omega) c)).use ?_))))
        rw [nIe (by omega) (by omega)]
        exact brT' (by omega) ⟨rfl, rfl⟩
      | succ f ih =>
        intro k hk
        have fk := fb k (by omega)
        have lt := g4' k (by omega)
        refine B_Nest_firstAround_13 ((store_boxes hE (by omega) S).use (brF (nI_ge (by omega) (by omega)) (brF (fun z => w0 ((nI_le0 (by omega)).mp z)) ((ns_with hE (by omega) S P hN hl (by omega) tl rfl (by omega) (fun c => tb_r T' hN (by omega) c)).use ?_))))
        rw [nIe (by omega) (by omega), nI_1]
        exact brF' (by omega) (ih (k + 1) (by omega))
    exact main ((Gm tv nB N l nB).1 - 1) 0 (by omega)
theorem ns_lineUp (hE : EOk E) (hL : 6 ≤ L) (S : StV h 1 nB nT tv) (ht : ∀ b, b < nB → tv b 2 ≤ 99) (P : prV h tv nB) (T : TbN h tv nB 0) : ConV E L m_Nest_lineUp 64 [] h (fun h' => EqO (fun x => x = 64 ∨ x = 68) h h' ∧ h'.1 64 5 = nI (gmx (fvN tv nB 0 (fun _ => 0) 0) nB).2 ∧ ∀ t, t < (gmx (fvN tv nB 0 (fun _ => 0) 0) nB).2 → h'.2.1 68 t = nI (ptN tv nB 0 (fun _ => 0) 0 t)) := by
  have h8 := S.2.2.2.1
  have p9 := pow9 h8
  have fv : ∀ b, fvN tv nB 0 (fun _ => 0) 0 b = 1 + mR tv nB (2 ^ b) b := fun b => by unfold fvN; rw [if_pos rfl, Nat.zero_or]
  have bb : ∀ b, (2 ^ b).testBit b = true := fun b => by rw [Nat.testBit_two_pow, decide_eq_true rfl]
  have c0 : cN nB 0 = 0 := sE_zero (fun k _ => by rw [Nat.zero_testBit]; rfl)
  have f8 : ∀ b, b < nB → fvN tv nB 0 (fun _ => 0) 0 b ≤ 8 := fun b hb => by
    have := fv_le (tv := tv) (sq := fun _ => 0) (N := 0) (n := 0) hb c0 (by omega)
    omega
  have g8 : ∀ k, k ≤ nB → (gmx (fvN tv nB 0 (fun _ => 0) 0) k).2 ≤ 8 ∧ (gmx (fvN tv nB 0 (fun _ => 0) 0) k).1 ≤ k := fun k hk => by
    by_cases z : (gmx (fvN tv nB 0 (fun _ => 0) 0) k).2 = 0
    · rw [gmx_0 _ z]; exact ⟨by decide, Nat.zero_le _⟩
    · obtain ⟨g1, g2, g3, -⟩ := gmx_yes _ z
      have := f8 ((gmx (fvN tv nB 0 (fun _ => 0) 0) k).1 - 1) (by omega)
      omega
  refine B_Nest_lineUp hE (by omega) ?_
  have l61 : ∀ f k, f + k = (gmx (fvN tv nB 0 (fun _ => 0) 0) nB).2 → ∀ N l, N < 2 ^ nB → (k < (gmx (fvN tv nB 0 (fun _ => 0) 0) nB).2 → l < nB ∧ l = ptN tv nB 0 (fun _ => 0) 0 k ∧ (f ≠ 1 → f - 1 = mR tv nB (N ||| 2 ^ l) l) ∧ ∀ i, i < f - 1 → ptN tv nB 0 (fun _ => 0) 0 (k + 1 + i) = nP tv nB i (N ||| 2 ^ l) l) → ∀ (c : Int32), (k < (gmx (fvN tv nB 0 (fun _ => 0) 0) nB).2 → c = nI l) → ∀ h1, EqO (fun x => x = 64 ∨ x = 68) h h1 → h1.1 64 5 = nI k → (∀ t, t < k → h1.2.1 68 t = nI (ptN tv nB 0 (fun _ => 0) 0 t)) → at_Nest_lineUp_61 E L h1 (fun h' => EqO (fun x => x = 64 ∨ x = 68) h h' ∧ h'.1 64 5 = nI (gmx (fvN tv nB 0 (fun _ => 0) 0) nB).2 ∧ ∀ t, t < (gmx (fvN tv nB 0 (fun _ => 0) 0) nB).2 → h'.2.1 68 t = nI (ptN tv nB 0 (fun _ => 0) 0 t)) (nI (gmx (fvN tv nB 0 (fun _ => 0) 0) nB).2) (nI N) c := by
    have G8 := (g8 nB (Nat.le_refl _)).1
    intro f
    induction f with
    | zero =>
      intro k hk N l hN _ c _ h1 e1 m1 a1
      rw [show k = (gmx (fvN tv nB 0 (fun _ => 0) 0) nB).2 by omega] at m1 a1
      refine B_Nest_lineUp_61 ?_
      rw [m1]
      exact brT (nI_le (Nat.le_refl _) (by omega)) ⟨e1, rfl, a1⟩
    | succ f ih =>
      intro k hk N l hN hl c hc h1 e1 m1 a1
      obtain ⟨l1, l2, l3, l4⟩ := hl (by omega)
      rw [hc (by omega)]
      have pb : 2 ^ l < 2 ^ nB := Nat.pow_lt_pow_right (by decide) l1
      have ol : N ||| 2 ^ l < 2 ^ nB := Nat.or_lt_two_pow hN pb
      have tl : (N ||| 2 ^ l).testBit l = true := by rw [orb, decide_eq_true rfl, Bool.or_true]
      refine B_Nest_lineUp_61 ?_
      rw [m1]
      refine brF (nI_ge (by omega) (by omega)) (brF (nI_ge (b := 8) (by omega) (by omega)) (brF (nIm1 (by omega)) ⟨(in66 (by omega)).2.2, ?_⟩))
      rw [nIc (by omega), sA_1, m1, nI_1, sI_1, if_pos rfl, if_pos rfl, shlN (by omega), orN (by omega) (by omega), nI_sub (by omega), show (gmx (fvN tv nB 0 (fun _ => 0) 0) nB).2 - (k + 1) = f by omega]
      have e2 : EqO (fun x => x = 64 ∨ x = 68) h (sI (sA h1 68 k (nI l)) 64 5 (nI (k + 1))) := (e1.trans (EqO.sA (F := fun x => x = 64 ∨ x = 68) (Or.inr rfl))).trans (EqO.sI (F := fun x => x = 64 ∨ x = 68) (Or.inl rfl))
      have S2 : StV (sI (sA h1 68 k (nI l)) 64 5 (nI (k + 1))) 1 nB nT tv := S.keep e2 (by omega) (by omega)
      have P2 : prV (sI (sA h1 68 k (nI l)) 64 5 (nI (k + 1))) tv nB := fun l hl => by rw [(e2 66 (by omega)).2.1, (e2 67 (by omega)).2.1]; exact P l hl
      have T2 : TbN (sI (sA h1 68 k (nI l)) 64 5 (nI (k + 1))) tv nB 0 := fun N l h1 h2 h3 h4 => by rw [(e2 65 (by omega)).2.1]; exact T N l h1 h2 h3 h4
      have l3' : f ≠ 0 → f = mR tv nB (N ||| 2 ^ l) l := fun z => by have := l3 (by omega); rw [Nat.add_sub_cancel] at this; exact this
      refine (ns_first hE (by omega) S2 ht P2 T2 ol l1 tl l3' (by omega)).use ?_
      refine ih (k + 1) (by omega) (N ||| 2 ^ l) ((Gm tv nB (N ||| 2 ^ l) l nB).1 - 1) ol (fun lt => ?_) _ (fun lt => if_neg (by omega)) _ e2 (by rw [sI_1, if_pos rfl, if_pos rfl]) (fun t ht' => ?_)
      · have f0 : f ≠ 0 := by omega
        have ef := l3' f0
        rw [mR_eq _ _ (cn_all nB _)] at ef
        obtain ⟨q1, q2, q3, -⟩ := gmx_yes (mwF tv nB (mR tv nB) (N ||| 2 ^ l) l) (n := nB) (show (Gm tv nB (N ||| 2 ^ l) l nB).2 ≠ 0 by omega)
        have q1' : (Gm tv nB (N ||| 2 ^ l) l nB).1 ≠ 0 := q1
        have q2' : (Gm tv nB (N ||| 2 ^ l) l nB).1 ≤ nB := q2
        have q3' : mwF tv nB (mR tv nB) (N ||| 2 ^ l) l ((Gm tv nB (N ||| 2 ^ l) l nB).1 - 1) = (Gm tv nB (N ||| 2 ^ l) l nB).2 := q3
        have p0 := l4 0 (by omega)
        rw [Nat.add_zero] at p0
        refine ⟨by omega, p0.symm, fun f1 => ?_, fun i hi => ?_⟩
        · unfold mwF at q3'
          by_cases cc : cnN tv nB (N ||| 2 ^ l) l ((Gm tv nB (N ||| 2 ^ l) l nB).1 - 1) = true
          · rw [if_pos cc] at q3'
            by_cases oo : onN tv l ((Gm tv nB (N ||| 2 ^ l) l nB).1 - 1) = true
            · rw [if_pos oo] at q3'; omega
            · rw [if_neg oo] at q3'; omega
          · rw [if_neg cc] at q3'; omega
        · have := l4 (i + 1) (by omega)
          rw [show k + 1 + (i + 1) = k + 1 + 1 + i by omega] at this
          rw [this]; rfl
      · rw [sI_A, sA_A, if_pos rfl]
        by_cases d : t = k
        · rw [if_pos d, d, l2]
        · rw [if_neg d]; exact a1 t (by omega)
  refine upto (P := fun k => ∀ h1, h1 = sI h 64 5 0 → at_Nest_lineUp_11 E L h1 (fun h' => EqO (fun x => x = 64 ∨ x = 68) h h' ∧ h'.1 64 5 = nI (gmx (fvN tv nB 0 (fun _ => 0) 0) nB).2 ∧ ∀ t, t < (gmx (fvN tv nB 0 (fun _ => 0) 0) nB).2 → h'.2.1 68 t = nI (ptN tv nB 0 (fun _ => 0) 0 t)) (nI (gmx (fvN tv nB 0 (fun _ => 0) 0) k).2) (bx (gmx (fvN tv nB 0 (fun _ => 0) 0) k).1) (nI k)) (n := nB) (fun h1 eh => ?_) (fun k hk ih h1 eh => ?_) 0 (by omega) (sI h 64 5 0) rfl
  · rw [eh]
    have S1 : StV (sI h 64 5 0) 1 nB nT tv := StV_eq S rfl rfl rfl
    refine B_Nest_lineUp_11 ((store_boxes hE (by omega) S1).use (brT (nI_le (Nat.le_refl _) (by omega)) ?_))
    refine l61 _ 0 (Nat.add_zero _) 0 ((gmx (fvN tv nB 0 (fun _ => 0) 0) nB).1 - 1) p9.2 (fun lt => ?_) _ (fun lt => ?_) _ (EqO.sI (F := fun x => x = 64 ∨ x = 68) (Or.inl rfl)) (by rw [sI_1, if_pos rfl, if_pos rfl]; rfl) (fun t z => absurd z (Nat.not_lt_zero t))
    · obtain ⟨q1, q2, q3, -⟩ := gmx_yes (fvN tv nB 0 (fun _ => 0) 0) (n := nB) (by omega)
      refine ⟨by omega, rfl, fun _ => ?_, fun i hi => ?_⟩
      · rw [fv] at q3
        rw [Nat.zero_or]; omega
      · rw [show 0 + 1 + i = i + 1 by omega]; rfl
    · obtain ⟨q1, q2, q3, -⟩ := gmx_yes (fvN tv nB 0 (fun _ => 0) 0) (n := nB) (by omega)
      exact bx_pos (by omega)
  · rw [eh]
    have S1 : StV (sI h 64 5 0) 1 nB nT tv := StV_eq S rfl rfl rfl
    obtain ⟨u1, u2⟩ := g8 k (by omega)
    have fk := f8 k hk
    have ih1 := ih _ rfl
    have pk9 := pow9 (n := k) (by omega)
    have p2k : 2 ^ k < 2 ^ nB := Nat.pow_lt_pow_right (by decide) hk
    have tk : (sI h 64 5 0).2.1 65 (2 ^ k * 8 + k) = nI (mR tv nB (2 ^ k) k) := by rw [sI_A]; exact T _ k pk9.2 (Nat.pow_lt_pow_right (by decide) hk) hk (bb k)
    refine B_Nest_lineUp_11 ((store_boxes hE (by omega) S1).use (brF (nI_ge hk (by omega)) ?_))
    rw [shlN (by omega), show (8 : Int32) = nI 8 from rfl, nI_mul, nI_add, nIc (by omega), tk, show (1 : Int32) = nI 1 from rfl, nI_add, ← fv k, nIl (by omega) (by omega), nI_add]
    refine ⟨in65 (by omega), fun d => ?_, fun d => ?_⟩
    · rw [gmx_s, if_neg (by omega)] at ih1; exact ih1
    · rw [gmx_s, if_pos (by omega), show ((k + 1, fvN tv nB 0 (fun _ => 0) 0 k) : Nat × Nat).1 = k + 1 from rfl, bx_S] at ih1; exact ih1
def skN (h : Hp) (tv : Nat → Nat → Nat) (nB : Nat) (h' : Hp) : Prop := EqO (fun x => 64 ≤ x ∧ x ≤ 68) h h' ∧ h'.1 64 5 = nI (gmx (fvN tv nB 0 (fun _ => 0) 0) nB).2 ∧ ∀ t, t < (gmx (fvN tv nB 0 (fun _ => 0) 0) nB).2 → h'.2.1 68 t = nI (ptN tv nB 0 (fun _ => 0) 0 t)
theorem ns_seek (hE : EOk E) (hL : 8 ≤ L) (S : StV h 1 nB nT tv) (ht : ∀ b, b < nB → tv b 2 ≤ 99) : ConV E L m_Nest_seek 64 [] h (skN h tv nB) := by
  have h8 := S.2.2.2.1
  have p9 := pow9 h8
  refine B_Nest_seek hE (by omega) ?_
  have l32 : ∀ x, x < 2 ^ nB → ∀ h1, EqO (fun x => 64 ≤ x ∧ x ≤ 68) h h1 → prV h1 tv nB → TbN h1 tv nB x → at_Nest_seek_32 E L h1 (skN h tv nB) (nI x) := by
    intro x
    induction x with
    | zero =>
      intro _ h1 e1 P1 T1
      have S1 : StV h1 1 nB nT tv := S.keep e1 (by omega) (by omega)
      refine B_Nest_seek_32 (brT (by decide) ((ns_lineUp hE (by omega) S1 ht P1 T1).mono (fun h2 z2 => ?_)))
      exact ⟨e1.trans (z2.1.wk (fun x z => by omega)), z2.2⟩
    | succ x ih =>
      intro hx h1 e1 P1 T1
      refine B_Nest_seek_32 (brF (fun z => Nat.succ_ne_zero x ((nI_le0 (by omega)).mp z)) ?_)
      have l38 : ∀ f l, f + l = nB → ∀ h2, EqO (fun x => 64 ≤ x ∧ x ≤ 68) h h2 → prV h2 tv nB → TbN h2 tv nB (x + 1) → (∀ i, i < l → (x + 1).testBit i = true → h2.2.1 65 ((x + 1) * 8 + i) = nI (mR tv nB (x + 1) i)) → at_Nest_seek_38 E L h2 (skN h tv nB) (nI (x + 1)) (nI l) := by
        intro f
        induction f with
        | zero =>
          intro l hl h2 e2 P2 T2 a2
          rw [show l = nB by omega] at a2 ⊢
          have S2 : StV h2 1 nB nT tv := S.keep e2 (by omega) (by omega)
          refine B_Nest_seek_38 ((store_boxes hE (by omega) S2).use (brT (nI_le (Nat.le_refl _) (by omega)) ?_))
          rw [pk_m1]
          refine ih (by omega) h2 e2 P2 (fun N l h1 h2 h3 h4 => ?_)
          by_cases d : N = x + 1
          · rw [d] at h4 ⊢; exact a2 l h3 h4
          · exact T2 N l (by omega) h2 h3 h4
        | succ f ihf =>
          intro l hl h2 e2 P2 T2 a2
          have S2 : StV h2 1 nB nT tv := S.keep e2 (by omega) (by omega)
          refine B_Nest_seek_38 ((store_boxes hE (by omega) S2).use (brF (nI_ge (by omega) (by omega)) ?_))
          rw [bitN (by omega) (by omega), nI_1]
          cases t : (x + 1).testBit l
          · rw [if_neg (by decide)]
            refine brT rfl (ihf (l + 1) (by omega) h2 e2 P2 T2 (fun i hi ti => ?_))
            by_cases d : i = l
            · rw [d, t] at ti; cases ti
            · exact a2 i (by omega) ti
          · rw [if_pos rfl]
            refine brF (by decide) ((ns_most hE (by omega) S2 ht P2 T2 hx (show l < nB by omega) t).use ?_)
            rw [show (8 : Int32) = nI 8 from rfl, nI_mul, nI_add, nIc (by omega)]
            refine ⟨in65 (by omega), ihf (l + 1) (by omega) _ (e2.trans (EqO.sA (F := fun x => 64 ≤ x ∧ x ≤ 68) (show 64 ≤ 65 ∧ 65 ≤ 68 by decide))) (fun i hi => ?_) (fun N i q1 q2 q3 q4 => ?_) (fun i hi ti => ?_)⟩
            · rw [sA_A, if_neg (by omega), sA_A, if_neg (by omega)]; exact P2 i hi
            · rw [sA_A, if_pos rfl, if_neg (by omega)]; exact T2 N i q1 q2 q3 q4
            · rw [sA_A, if_pos rfl]
              by_cases d : i = l
              · rw [if_pos (by omega), d]
              · rw [if_neg (by omega)]; exact a2 i (by omega) ti
      exact l38 nB 0 (by omega) h1 e1 P1 T1 (fun i z => absurd z (Nat.not_lt_zero i))
  have l2 : ∀ f l, f + l = nB → ∀ h1, EqO (fun x => 64 ≤ x ∧ x ≤ 68) h h1 → (∀ i, i < l → h1.2.1 66 i = nI (tkM (fun b => inN tv i b && !(decide (b = i))) nB) ∧ h1.2.1 67 i = nI (tkM (onN tv i) nB)) → at_Nest_seek_2 E L h1 (skN h tv nB) (nI l) := by
    intro f
    induction f with
    | zero =>
      intro l hl h1 e1 a1
      rw [show l = nB by omega] at a1 ⊢
      have S1 : StV h1 1 nB nT tv := S.keep e1 (by omega) (by omega)
      have b1 : RdI E (L - 1) m_Store_boxBits 1 [] h1 (nI (2 ^ nB - 1)) := B_Store_boxBits hE (by omega) S1.1 ⟨by rw [S1.2.1, shlN (by omega), pred1 (by omega)], rfl⟩
      refine B_Nest_seek_2 ((store_boxes hE (by omega) S1).use (brT (nI_le (Nat.le_refl _) (by omega)) (b1.use (l32 _ (by omega) h1 e1 a1 (fun N i q1 q2 => by omega)))))
    | succ f ih =>
      intro l hl h1 e1 a1
      have S1 : StV h1 1 nB nT tv := S.keep e1 (by omega) (by omega)
      refine B_Nest_seek_2 ((store_boxes hE (by omega) S1).use (brF (nI_ge (by omega) (by omega)) ((ns_pairs hE (by omega) S1 (show l < nB by omega)).mono (fun h2 z2 => ?_))))
      obtain ⟨e2, o2, x1, x2⟩ := z2
      rw [nI_1]
      refine ih (l + 1) (by omega) h2 (e1.trans (e2.wk (fun x z => by omega))) (fun i hi => ?_)
      by_cases d : i = l
      · rw [d]; exact ⟨x1, x2⟩
      · rw [(o2 i d).1, (o2 i d).2]; exact a1 i (by omega)
  exact l2 nB 0 (by omega) h EqO.rfl' (fun i z => absurd z (Nat.not_lt_zero i))
theorem eq_nest (hE : EOk E) (hL : 20 ≤ L) (I : Inv h K) (hK : K + 60 ≤ 100000) (v : Int32) : Same E L m_X_nest m_M_nest [.int v] h K := by
  obtain ⟨nB, nT, tv, pk, lv, sn, ck, hck, C⟩ := I.2.1
  have S := C.1
  have h8 := C.1.2.2.2.1
  have p9 := pow9 h8
  have ht : ∀ b, b < nB → tv b 2 ≤ 99 := fun b hb => (C.2.2.2.2.2 b (by omega)).1.2.2.1
  have c0 : cN nB 0 = 0 := sE_zero (fun k _ => by rw [Nat.zero_testBit]; rfl)
  have w0 : wB tv nB 0 = 0 := sE_zero (fun k _ => by rw [Nat.zero_testBit]; rfl)
  refine B_X_nest hE (by omega) ((ns_seek hE (by omega) S ht).mono (fun h1 z1 => ?_))
  obtain ⟨e1, m1, r1⟩ := z1
  have g8 : (gmx (fvN tv nB 0 (fun _ => 0) 0) nB).2 ≤ 8 := by
    by_cases z : (gmx (fvN tv nB 0 (fun _ => 0) 0) nB).2 = 0
    · omega
    · obtain ⟨q1, q2, q3, -⟩ := gmx_yes _ z
      have := fv_le (tv := tv) (sq := fun _ => 0) (N := 0) (n := 0) (b := (gmx (fvN tv nB 0 (fun _ => 0) 0) nB).1 - 1) (by omega) c0 (by omega)
      omega
  have sX : EqS h h1 := EqS.of e1 (fun p hp => (show ∀ p ∈ persF, ¬ (64 ≤ p.1 ∧ p.1 ≤ 68) by decide) p hp) (fun p hp => (show ∀ p ∈ persA, ¬ (64 ≤ p ∧ p ≤ 68) by decide) p hp)
  have zX : PickZ h1 := PickZ_eq I.2.2.2.2.2.2 (fun a h1 h2 => (e1 a (by omega)).2.1)
  have M1 : MdV (sI (sI h1 74 0 0) 74 28 0) nB nT tv pk sn ck := MsV_eq C.2.2.1 (show h1.2.1 75 = _ from (e1 75 (by omega)).2.1)
  have V1 : NsV (sI (sI h1 74 0 0) 74 28 0) tv nB 0 (fun _ => 0) 0 := ⟨Nat.zero_le _, p9.2, c0, fun t z => absurd z (Nat.not_lt_zero t), w0, fun z => absurd z (by decide)⟩
  have mm : ∀ ans : Int32, (v = -1 → ans = nI (gmx (fvN tv nB 0 (fun _ => 0) 0) nB).2) → (¬ v = -1 → (∀ k, k < (gmx (fvN tv nB 0 (fun _ => 0) 0) nB).2 → v = nI k → ans = nI (ptN tv nB 0 (fun _ => 0) 0 k)) ∧ ((¬ ∃ k, k < (gmx (fvN tv nB 0 (fun _ => 0) 0) nB).2 ∧ v = nI k) → ans = -1)) → ConI E L m_M_nest 74 [.int v] h1 (fun y2 h3 => ans = y2 ∧ Inv h3 (K + 60)) := by
    intro ans a0 a1
    refine B_M_nest hE (by omega) ((m_nests hE h8 ht nB 0 (by omega) (L - 1) (by omega) _ (fun _ => 0) 0 0 M1 V1 (by rw [sI_1, if_pos rfl, if_pos rfl]; rfl) (by omega)).mono (fun h2 z2 => ?_))
    obtain ⟨o1, o2, o3, o4, o5⟩ := z2
    rw [Nat.zero_add] at o4 o5
    have b28 : h2.1 74 28 = nI (gmx (fvN tv nB 0 (fun _ => 0) 0) nB).2 := by
      by_cases d : 0 < (gmx (fvN tv nB 0 (fun _ => 0) 0) nB).2
      · exact (o4 d).1
      · rw [(o5 d).1, show (gmx (fvN tv nB 0 (fun _ => 0) 0) nB).2 = 0 by omega]
    have I2 : Inv h2 (K + 60) := by
      refine I.keep (sX.trans ((thr_eq h1).trans ⟨fun p hp => ?_, fun q hq => ?_⟩)) (PickZ_eq zX (fun a h1 h2 => (o1 a (by omega)).2.1)) (by omega) hK
      · by_cases d : p.1 = 74
        · have : p.2 ≠ 28 := (show ∀ p ∈ persF, p.1 = 74 → p.2 ≠ 28 by decide) p hp d
          rw [d, o2 p.2 this, sI_1, if_pos rfl, if_neg this]
        · have : p.1 ≠ 85 ∧ p.1 ≠ 86 := (show ∀ p ∈ persF, p.1 ≠ 85 ∧ p.1 ≠ 86 by decide) p hp
          rw [(o1 p.1 (by omega)).1, sI_1, if_neg d]
      · have : q ≠ 74 ∧ q ≠ 85 ∧ q ≠ 86 := (show ∀ p ∈ persA, p ≠ 74 ∧ p ≠ 85 ∧ p ≠ 86 by decide) q hq
        exact (o1 q (by omega)).2
    rw [b28]
    refine ⟨fun d => (m_within hE (by omega) v.toInt64 0 (nI (gmx (fvN tv nB 0 (fun _ => 0) 0) nB).2 - 1).toInt64).use ?_, fun d => ⟨a0 d, I2⟩⟩
    obtain ⟨b1, b2⟩ := a1 d
    by_cases ex : ∃ k, k < (gmx (fvN tv nB 0 (fun _ => 0) 0) nB).2 ∧ v = nI k
    · rw [if_pos ((inL32 (by omega)).mpr ex)]
      obtain ⟨k, hk, rfl⟩ := ex
      refine brF (by decide) ⟨(in85 (by omega)).2, ?_, I2⟩
      rw [nIc (by omega), b1 k hk rfl]
      have := (o4 (by omega)).2.2 k hk
      rw [Nat.zero_add] at this
      exact this.symm
    · rw [if_neg (fun z => ex ((inL32 (by omega)).mp z))]
      exact brT rfl ⟨b2 ex, I2⟩
  refine ⟨fun d => ?_, fun d => (show RdI E (L - 1) m_Nest_many 64 [] h1 (nI (gmx (fvN tv nB 0 (fun _ => 0) 0) nB).2) from B_Nest_many hE (by omega) ⟨m1, rfl⟩).use (mm _ (fun _ => rfl) (fun z => absurd d z))⟩
  by_cases ex : ∃ k, k < (gmx (fvN tv nB 0 (fun _ => 0) 0) nB).2 ∧ v = nI k
  · obtain ⟨k, hk, rfl⟩ := ex
    refine (show RdI E (L - 1) m_Nest_boxAt 64 [.int (nI k)] h1 (nI (ptN tv nB 0 (fun _ => 0) 0 k)) from B_Nest_boxAt hE (by omega) (brF (nIneg (by omega)) ?_)).use (mm _ (fun z => absurd z d) (fun _ => ⟨fun k' hk' e => ?_, fun z => absurd ⟨k, hk, rfl⟩ z⟩))
    · rw [m1, nIc (by omega)]
      exact brF (nI_ge hk (by omega)) (brF (nI_ge (b := 8) (by omega) (by omega)) ⟨(in66 (by omega)).2.2, r1 k hk, rfl⟩)
    · rw [(nIe (by omega) (by omega)).mp e]
  · refine (show RdI E (L - 1) m_Nest_boxAt 64 [.int v] h1 (-1) from B_Nest_boxAt hE (by omega) ?_).use (mm _ (fun z => absurd z d) (fun _ => ⟨fun k' hk' e => absurd ⟨k', hk', e⟩ ex, fun _ => rfl⟩))
    rw [m1]
    refine ⟨fun _ => ⟨rfl, rfl⟩, fun c => brT ?_ ⟨rfl, rfl⟩⟩
    rcases not_small (n := (gmx (fvN tv nB 0 (fun _ => 0) 0) nB).2) (by omega) ex with q | q
    · exact absurd q c
    · exact q
end Nest5
