theorem sA_o {h : Hp} {r k r' : Nat} {v : Int32} (hr : r' ≠ r) : (sA h r k v).2.1 r' = h.2.1 r' := ((EqO.sA (F := fun q => q = r) rfl) r' hr).2.1
theorem sA_i (h : Hp) (r k k' : Nat) (v : Int32) : (sA h r k v).2.1 r k' = if k' = k then v else h.2.1 r k' := by rw [sA_A, if_pos rfl]
section Shut4
variable {E : EnvX} {L : Nat} {h : Hp} {nB nT : Nat} {tv : Nat → Nat → Nat} {pk : Nat → Nat}
theorem sh_move48 (hE : EOk E) (hL : 2 ≤ L) (S : StV h 1 nB nT tv) (hA : acy pk) (hp : ∀ i, i < 24 → pk i ≤ 8) {i b : Nat} (hi : i < 24) (hb : b < 8) (hib : i ≠ b) (hw : wi pk (i + 1) 8 (b + 1) = false) (h55 : ∀ k, k < 24 → k ≠ i → h.2.1 55 k = bx (pk k)) {v3 s0 : Int32} {post : Hp → Prop} (H : ∀ h', EqO (fun q => 55 ≤ q ∧ q ≤ 58) h h' → (∀ k, h'.2.1 55 k = if k = i then s0 else h.2.1 55 k) → (∀ c, h'.2.1 56 c = if c = b then h.2.1 56 b + v3 * nI (tv i 0) else h.2.1 56 c) → (∀ c, h'.2.1 58 c = if i < 8 then (if c = i then h.2.1 58 i + v3 else if c = b then h.2.1 58 b + v3 else h.2.1 58 c) else h.2.1 58 c) → (∀ c, c < 8 → h'.2.1 57 c = if inCh pk b (c + 1) = true then h.2.1 57 c + v3 * (nI (tv i 2) + (if i < 8 then h.2.1 57 i else 0)) else h.2.1 57 c) → post h') : at_Shutting_move_48 E L h post (nI i) (nI b) v3 (if i < 8 then 1 else 0) s0 (nI i) := by
  refine B_Shutting_move_48 ⟨in55 hi, (in56 hb).1, ?_⟩
  rw [nIc (show i < 2147483648 by omega), nIc (show b < 2147483648 by omega)]
  have S1 : StV (sA h 55 i s0) 1 nB nT tv := StV_eq S rfl rfl rfl
  refine (store_told hE (by omega) S1 (k := 0) hi (by omega)).use ⟨(in56 hb).1, ?_⟩
  rw [show (sA h 55 i s0).2.1 56 b = h.2.1 56 b from rfl]
  have S2 : StV (sA (sA h 55 i s0) 56 b (h.2.1 56 b + v3 * nI (tv i 0))) 1 nB nT tv := StV_eq S1 rfl rfl rfl
  by_cases i8 : i < 8
  · simp only [if_pos i8] at H ⊢
    refine brF (by decide) ⟨(in56 hb).2.2, (in56 hb).2.2, (in56 i8).2.2, (in56 i8).2.2, ?_⟩
    rw [show (sA (sA h 55 i s0) 56 b (h.2.1 56 b + v3 * nI (tv i 0))).2.1 58 b = h.2.1 58 b from rfl, show (sA (sA (sA h 55 i s0) 56 b (h.2.1 56 b + v3 * nI (tv i 0))) 58 b (h.2.1 58 b + v3)).2.1 58 i = h.2.1 58 i by rw [sA_A, if_pos rfl, if_neg hib]; rfl]
    have S4 : StV (sA (sA (sA (sA h 55 i s0) 56 b (h.2.1 56 b + v3 * nI (tv i 0))) 58 b (h.2.1 58 b + v3)) 58 i (h.2.1 58 i + v3)) 1 nB nT tv := StV_eq S2 rfl rfl rfl
    refine (store_told hE (by omega) S4 (k := 2) hi (by omega)).use (brF (by decide) ⟨(in56 i8).2.1, ?_⟩)
    rw [show (sA (sA (sA (sA h 55 i s0) 56 b (h.2.1 56 b + v3 * nI (tv i 0))) 58 b (h.2.1 58 b + v3)) 58 i (h.2.1 58 i + v3)).2.1 57 i = h.2.1 57 i from rfl]
    have e4 : EqO (fun q => 55 ≤ q ∧ q ≤ 58) h (sA (sA (sA (sA h 55 i s0) 56 b (h.2.1 56 b + v3 * nI (tv i 0))) 58 b (h.2.1 58 b + v3)) 58 i (h.2.1 58 i + v3)) := (((EqO.sA (F := fun q => 55 ≤ q ∧ q ≤ 58) (show 55 ≤ 55 ∧ 55 ≤ 58 by decide)).trans (EqO.sA (F := fun q => 55 ≤ q ∧ q ≤ 58) (show 55 ≤ 56 ∧ 56 ≤ 58 by decide))).trans (EqO.sA (F := fun q => 55 ≤ q ∧ q ≤ 58) (show 55 ≤ 58 ∧ 58 ≤ 58 by decide))).trans (EqO.sA (F := fun q => 55 ≤ q ∧ q ≤ 58) (show 55 ≤ 58 ∧ 58 ≤ 58 by decide))
    refine sh_loads hA hp hb hib hw (fun k hk ki => ?_) (fun h' e' l' => H h' (e4.trans (e'.wk (fun q z => by omega))) (fun k => ?_) (fun c => ?_) (fun c => ?_) (fun c hc => ?_))
    · rw [sA_o (show (55 : Nat) ≠ 58 by decide), sA_o (show (55 : Nat) ≠ 58 by decide), sA_o (show (55 : Nat) ≠ 56 by decide), sA_i, if_neg ki]; exact h55 k hk ki
    · rw [(e' 55 (by omega)).2.1, sA_o (show (55 : Nat) ≠ 58 by decide), sA_o (show (55 : Nat) ≠ 58 by decide), sA_o (show (55 : Nat) ≠ 56 by decide), sA_i]
    · rw [(e' 56 (by omega)).2.1, sA_o (show (56 : Nat) ≠ 58 by decide), sA_o (show (56 : Nat) ≠ 58 by decide), sA_i, sA_o (show (56 : Nat) ≠ 55 by decide)]
    · rw [(e' 58 (by omega)).2.1, sA_i, sA_i, sA_o (show (58 : Nat) ≠ 56 by decide), sA_o (show (58 : Nat) ≠ 55 by decide)]
    · rw [l' c hc, sA_o (show (57 : Nat) ≠ 58 by decide), sA_o (show (57 : Nat) ≠ 58 by decide), sA_o (show (57 : Nat) ≠ 56 by decide), sA_o (show (57 : Nat) ≠ 55 by decide)]
  · simp only [if_neg i8] at H ⊢
    refine brT (by trivial) ((store_told hE (by omega) S2 (k := 2) hi (by omega)).use (brT (by trivial) ?_))
    have e2 : EqO (fun q => 55 ≤ q ∧ q ≤ 58) h (sA (sA h 55 i s0) 56 b (h.2.1 56 b + v3 * nI (tv i 0))) := (EqO.sA (F := fun q => 55 ≤ q ∧ q ≤ 58) (show 55 ≤ 55 ∧ 55 ≤ 58 by decide)).trans (EqO.sA (F := fun q => 55 ≤ q ∧ q ≤ 58) (show 55 ≤ 56 ∧ 56 ≤ 58 by decide))
    refine sh_loads hA hp hb hib hw (fun k hk ki => ?_) (fun h' e' l' => H h' (e2.trans (e'.wk (fun q z => by omega))) (fun k => ?_) (fun c => ?_) (fun c => ?_) (fun c hc => ?_))
    · rw [sA_o (show (55 : Nat) ≠ 56 by decide), sA_i, if_neg ki]; exact h55 k hk ki
    · rw [(e' 55 (by omega)).2.1, sA_o (show (55 : Nat) ≠ 56 by decide), sA_i]
    · rw [(e' 56 (by omega)).2.1, sA_i, sA_o (show (56 : Nat) ≠ 55 by decide)]
    · rw [(e' 58 (by omega)).2.1, sA_o (show (58 : Nat) ≠ 56 by decide), sA_o (show (58 : Nat) ≠ 55 by decide)]
    · rw [l' c hc, sA_o (show (57 : Nat) ≠ 56 by decide), sA_o (show (57 : Nat) ≠ 55 by decide)]
theorem sh_top (hE : EOk E) (hL : 2 ≤ L) {i b : Nat} (hi : i < 24) (hb : b < 8) {v3 : Int32} {post : Hp → Prop} (H : at_Shutting_move_48 E L h post (nI i) (nI b) v3 (if i < 8 then 1 else 0) (if v3 ≤ 0 then -1 else nI b) (nI i)) : ConV E L m_Shutting_move 53 [.int (nI i), .int (nI b), .int v3] h post := by
  refine B_Shutting_move hE (by omega) (brF (nIneg (by omega)) (brF (nG 8 hb) (brF (nIneg (by omega)) (brT (nI_lt (b := 24) hi (by omega)) ?_))))
  rw [show (8 : Int32) = nI 8 from rfl, nIl (by omega) (by omega)]
  refine ⟨fun q => B_Shutting_move_32 ⟨fun c => ?_, fun c => ?_⟩, fun q => B_Shutting_move_32 ⟨fun c => ?_, fun c => ?_⟩⟩
  · rw [if_neg (show ¬ i < 8 by omega), if_pos c] at H; exact H
  · rw [if_neg (show ¬ i < 8 by omega), if_neg c] at H; exact H
  · rw [if_pos (show i < 8 by omega), if_pos c] at H; exact H
  · rw [if_pos (show i < 8 by omega), if_neg c] at H; exact H
theorem sh_up (hE : EOk E) (hL : 2 ≤ L) (S : StV h 1 nB nT tv) (V : ShV h pk tv) (hA : acy pk) {i b : Nat} (hi : i < 24) (hb : b < 8) (h0 : pk i = 0) (hib : i ≠ b) (hw : wi pk (i + 1) 8 (b + 1) = false) : ConV E L m_Shutting_move 53 [.int (nI i), .int (nI b), .int 1] h (fun h' => EqO (fun q => 55 ≤ q ∧ q ≤ 58) h h' ∧ ShV h' (upN pk i (b + 1)) tv) := by
  have hp : ∀ i, i < 24 → pk i ≤ 8 := fun i hi => (V.1 i hi).2
  refine sh_top hE hL hi hb ?_
  rw [if_neg (show ¬ (1 : Int32) ≤ 0 by decide)]
  refine sh_move48 hE hL S hA hp hi hb hib hw (fun k hk _ => (V.1 k hk).1) (fun h' e a5 a6 a8 a7 => ⟨e, fun k hk => ?_, fun c hc => ⟨?_, ?_, ?_⟩⟩)
  · rw [a5]
    by_cases d : k = i
    · rw [if_pos d, d, upN_y, bx_S]; exact ⟨rfl, by omega⟩
    · rw [if_neg d, upN_n d]; exact V.1 k hk
  · rw [a6, fil_up hi h0 (Nat.succ_ne_zero c)]
    obtain ⟨w1, -, -⟩ := V.2 c hc
    by_cases d : c = b
    · rw [if_pos d, if_pos (by omega), ← d, w1, show (1 : Int32) = nI 1 from rfl, nI_mul, nI_add, Nat.one_mul]
    · rw [if_neg d, if_neg (by omega), Nat.add_zero]; exact w1
  · rw [a7 c hc, lod_up hA hp hi hb h0 hib hw (Nat.succ_ne_zero c) (by omega)]
    obtain ⟨-, w2, -⟩ := V.2 c hc
    cases x : inCh pk b (c + 1)
    · rw [if_neg (by decide), if_neg (by decide), Nat.add_zero]; exact w2
    · rw [if_pos rfl, if_pos rfl, w2]
      by_cases i8 : i < 8
      · rw [if_pos i8, (V.2 i i8).2.1, show (1 : Int32) = nI 1 from rfl, nI_add, nI_mul, nI_add, Nat.one_mul]
      · have l0 : lod pk tv (i + 1) = 0 := sE_zero (fun j hj => if_neg (by rw [wi_big hp (by omega) 8 (j + 1) (by omega)]; decide))
        rw [if_neg i8, l0, addz, show (1 : Int32) = nI 1 from rfl, nI_mul, nI_add, Nat.one_mul]; rfl
  · rw [a8, hlv_up hi h0 hib]
    obtain ⟨-, -, w3⟩ := V.2 c hc
    by_cases i8 : i < 8
    · rw [if_pos i8]
      by_cases d : c = i
      · rw [if_pos d, if_pos d, if_neg (fun z => hib (by omega)), ← d, w3, show (1 : Int32) = nI 1 from rfl, nI_add]
      · rw [if_neg d, if_neg d]
        by_cases e2 : c = b
        · rw [if_pos e2, if_pos ⟨e2, i8⟩, ← e2, w3, show (1 : Int32) = nI 1 from rfl, nI_add]
        · rw [if_neg e2, if_neg (fun z => e2 z.1)]; exact w3
    · rw [if_neg i8, if_neg (show ¬ c = i by omega), if_neg (show ¬ (c = b ∧ i < 8) from fun z => i8 z.2)]; exact w3
theorem sh_down (hE : EOk E) (hL : 2 ≤ L) (S : StV h 1 nB nT tv) (hp : ∀ i, i < 24 → pk i ≤ 8) (hA : acy pk) {i b : Nat} (hi : i < 24) (hb : b < 8) (h0 : pk i = 0) (hib : i ≠ b) (hw : wi pk (i + 1) 8 (b + 1) = false) (V : ShV h (upN pk i (b + 1)) tv) : ConV E L m_Shutting_move 53 [.int (nI i), .int (nI b), .int (-1)] h (fun h' => EqO (fun q => 55 ≤ q ∧ q ≤ 58) h h' ∧ ShV h' pk tv) := by
  refine sh_top hE hL hi hb ?_
  rw [if_pos (show (-1 : Int32) ≤ 0 by decide)]
  have li : lod (upN pk i (b + 1)) tv (i + 1) = lod pk tv (i + 1) := by
    rw [lod_up hA hp hi hb h0 hib hw (Nat.succ_ne_zero i) (by omega)]
    have : inCh pk b (i + 1) = false := by unfold inCh; rw [hw, decide_eq_false (show ¬ i + 1 = b + 1 by omega)]; rfl
    rw [this, if_neg (by decide), Nat.add_zero]
  refine sh_move48 hE hL S hA hp hi hb hib hw (fun k hk ki => by rw [(V.1 k hk).1, upN_n ki]) (fun h' e a5 a6 a8 a7 => ⟨e, fun k hk => ?_, fun c hc => ⟨?_, ?_, ?_⟩⟩)
  · rw [a5]
    by_cases d : k = i
    · rw [if_pos d, d, h0]; exact ⟨rfl, by omega⟩
    · have := V.1 k hk
      rw [upN_n d] at this
      rw [if_neg d]; exact this
  · obtain ⟨w1, -, -⟩ := V.2 c hc
    rw [fil_up hi h0 (Nat.succ_ne_zero c)] at w1
    rw [a6]
    by_cases d : c = b
    · rw [if_pos (by omega)] at w1
      rw [if_pos d, ← d, w1, add_neg_n]
    · rw [if_neg (by omega), Nat.add_zero] at w1
      rw [if_neg d]; exact w1
  · obtain ⟨-, w2, -⟩ := V.2 c hc
    rw [lod_up hA hp hi hb h0 hib hw (Nat.succ_ne_zero c) (by omega)] at w2
    rw [a7 c hc]
    cases x : inCh pk b (c + 1)
    · rw [x, if_neg (by decide), Nat.add_zero] at w2
      rw [if_neg (by decide)]; exact w2
    · rw [x, if_pos rfl] at w2
      rw [if_pos rfl, w2]
      by_cases i8 : i < 8
      · rw [if_pos i8, (V.2 i i8).2.1, li, nI_add, add_neg_n]
      · have l0 : lod pk tv (i + 1) = 0 := sE_zero (fun j hj => if_neg (by rw [wi_big hp (by omega) 8 (j + 1) (by omega)]; decide))
        rw [if_neg i8, l0, addz, Nat.add_zero, add_neg_n]
  · obtain ⟨-, -, w3⟩ := V.2 c hc
    rw [hlv_up hi h0 hib] at w3
    rw [a8]
    by_cases i8 : i < 8
    · rw [if_pos i8]
      by_cases d : c = i
      · rw [if_pos d, if_neg (fun z => hib (by omega)), Nat.add_zero] at w3
        rw [if_pos d, ← d, w3, pk_m1]
      · rw [if_neg d, Nat.add_zero] at w3
        rw [if_neg d]
        by_cases e2 : c = b
        · rw [if_pos ⟨e2, i8⟩] at w3
          rw [if_pos e2, ← e2, w3, pk_m1]
        · rw [if_neg (fun z => e2 z.1), Nat.add_zero] at w3
          rw [if_neg e2]; exact w3
    · rw [if_neg (show ¬ c = i by omega), if_neg (show ¬ (c = b ∧ i < 8) from fun z => i8 z.2), Nat.add_zero, Nat.add_zero] at w3
      rw [if_neg i8]; exact w3
end Shut4
