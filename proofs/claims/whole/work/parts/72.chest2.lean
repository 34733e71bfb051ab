section Chest2
variable {E : EnvX} {L : Nat} {h : Hp} {K : Nat} {nB nT : Nat} {tv : Nat → Nat → Nat} {pk lv sn : Nat → Nat} {ck : Nat}
def goB (tv : Nat → Nat → Nat) (mem : Nat → Nat) (n b c : Nat) : Bool := psB tv mem n c (tv b 4) && (decide (sF tv mem 2 n c ≤ tv b 6) && decide (sF tv mem 0 n c ≤ tv b 0 * tv b 5))
def qW (tv : Nat → Nat → Nat) (mem : Nat → Nat) (n b x w c : Nat) : Bool := decide (pcn c = x) && (decide (sF tv mem 2 n c = w) && goB tv mem n b c)
def qS (tv : Nat → Nat → Nat) (mem : Nat → Nat) (n b w f c : Nat) : Bool := decide (sF tv mem 2 n c = w) && (decide (sF tv mem 0 n c = f) && goB tv mem n b c)
theorem pc_goInto (hE : EOk E) (hL : 5 ≤ L) (S : StV h 1 nB nT tv) {n c b : Nat} {mem : Nat → Nat} (P : PcV h n mem tv) (hc : c < 2 ^ n) (hb : b < 24) : RdI E L m_Picked_goInto 39 [.int (nI c), .int (nI b)] h (if goB tv mem n b c = true then 1 else 0) := by
  have t4 := (S.2.2.2.2.2 b 4 hb (by omega)).2
  have t6 := (S.2.2.2.2.2 b 6 hb (by omega)).2
  have t0 := (S.2.2.2.2.2 b 0 hb (by omega)).2
  have t5 := (S.2.2.2.2.2 b 5 hb (by omega)).2
  have mul : tv b 0 * tv b 5 ≤ 9999 * 9999 := Nat.mul_le_mul t0 t5
  have r1 := store_roomOf hE (L := L - 1) (by omega) S (b := b) (n := 0) hb (by omega)
  rw [Nat.pow_zero, Nat.div_one] at r1
  refine B_Picked_goInto hE (by omega) ((store_told hE (by omega) S (k := 4) hb (by omega)).use ((store_told hE (by omega) S (k := 6) hb (by omega)).use (r1.use ?_)))
  refine (pc_passes hE (by omega) S P hc (by omega) (Pw := fun w => decide (w ≤ tv b 6)) (Ps := fun w => decide (w ≤ tv b 0 * tv b 5)) (fun w hw => by rw [nIl (by omega) (by omega), decide_eq_true_eq]) (fun w hw => by rw [nIl (by omega) (by omega), decide_eq_true_eq])).use ⟨by split <;> decide, rfl, rfl⟩
theorem ch_begin (hE : EOk E) (hL : 8 ≤ L) (S : StV h 1 nB nT tv) (Z : PickZ h) (v : Int32) (q : Nat → Bool) : ConV E L m_Chest_begin 59 [.int v] h (fun h' => EqO (fun x => (39 ≤ x ∧ x ≤ 44) ∨ (59 ≤ x ∧ x ≤ 61)) h h' ∧ PickZ h' ∧ PcV h' (nF (wS v (fun _ => true)) 12) (itK (wS v (fun _ => true))) tv ∧ ChV h' q (nF (wS v (fun _ => true)) 12) 0) := by
  refine B_Chest_begin hE (by omega) ((pc_pick hE (by omega) S Z v (mx := 12) (by omega)).mono (fun h1 z1 => ?_))
  obtain ⟨e1, Z1, P1⟩ := z1
  generalize nF (wS v (fun _ => true)) 12 = n at *
  generalize itK (wS v (fun _ => true)) = mem at *
  have n12 := P1.1.2.1
  have p4 := pow13 (n := n) (by omega)
  refine (fillI_ok hE (by omega) (a := 61) (v := 0) k60.2.1 (by rw [k60.2.2]; decide)).mono (fun h2 z2 => ?_)
  obtain ⟨e2, f2⟩ := z2
  have P2 : MmV (sI h2 59 5 0) n mem := ⟨by rw [sI_1, if_neg (by omega), (e2 39 (by omega)).1]; exact P1.1.1, n12, fun k hk => by rw [sI_A, (e2 40 (by omega)).2.1]; exact P1.1.2.2 k hk⟩
  refine (pc_choices hE (by omega) P2).use ?_
  have e3 : EqO (fun x => 59 ≤ x ∧ x ≤ 61) h1 (sI (sI (sI h2 59 5 0) 59 6 (nI (2 ^ n) - 1)) 59 7 0) := (((e2.wk (fun x z => by omega)).trans (EqO.sI (F := fun x => 59 ≤ x ∧ x ≤ 61) (show 59 ≤ 59 ∧ 59 ≤ 61 by decide))).trans (EqO.sI (F := fun x => 59 ≤ x ∧ x ≤ 61) (show 59 ≤ 59 ∧ 59 ≤ 61 by decide))).trans (EqO.sI (F := fun x => 59 ≤ x ∧ x ≤ 61) (show 59 ≤ 59 ∧ 59 ≤ 61 by decide))
  refine ⟨(e1.wk (fun x z => Or.inl z)).trans (e3.wk (fun x z => Or.inr z)), PickZ_eq Z1 (fun a q1 q2 => (e3 a (by omega)).2.1), ?_, ?_, fun j hj => absurd hj (Nat.not_lt_zero j), ?_, ?_, fun k hk => ?_⟩
  · obtain ⟨⟨p1, p2, p3⟩, pl, ph⟩ := P1
    refine ⟨⟨by rw [(e3 39 (by omega)).1]; exact p1, p2, fun k hk => by rw [(e3 40 (by omega)).2.1]; exact p3 k hk⟩, fun c c1 c2 => ?_, fun c c1 c2 => ?_⟩
    · unfold TbV
      rw [(e3 41 (by omega)).2.1, (e3 42 (by omega)).2.1, (e3 43 (by omega)).2.1, (e3 44 (by omega)).2.1]
      exact pl c c1 c2
    · unfold TbV
      rw [(e3 41 (by omega)).2.1, (e3 42 (by omega)).2.1, (e3 43 (by omega)).2.1, (e3 44 (by omega)).2.1]
      exact ph c c1 c2
  · rw [sI_1, if_pos rfl, if_neg (by omega), sI_1, if_pos rfl, if_neg (by omega), sI_1, if_pos rfl, if_pos rfl]; rfl
  · rw [sI_1, if_pos rfl, if_neg (by omega), sI_1, if_pos rfl, if_pos rfl, show (1 : Int32) = nI 1 from rfl, nI_sub (by omega)]; rfl
  · rw [sI_1, if_pos rfl, if_pos rfl]; rfl
  · rw [sI_A, sI_A, sI_A, f2 k (by rw [k60.2.2]; exact hk)]; rfl
theorem PcV_eq {n : Nat} {mem : Nat → Nat} {h1 h2 : Hp} (P : PcV h1 n mem tv) (e : EqO (fun x => x = 59 ∨ x = 60 ∨ x = 61) h1 h2) : PcV h2 n mem tv := by
  obtain ⟨⟨p1, p2, p3⟩, pl, ph⟩ := P
  refine ⟨⟨by rw [(e 39 (by omega)).1]; exact p1, p2, fun k hk => by rw [(e 40 (by omega)).2.1]; exact p3 k hk⟩, fun c c1 c2 => ?_, fun c c1 c2 => ?_⟩
  · unfold TbV
    rw [(e 41 (by omega)).2.1, (e 42 (by omega)).2.1, (e 43 (by omega)).2.1, (e 44 (by omega)).2.1]
    exact pl c c1 c2
  · unfold TbV
    rw [(e 41 (by omega)).2.1, (e 42 (by omega)).2.1, (e 43 (by omega)).2.1, (e 44 (by omega)).2.1]
    exact ph c c1 c2
theorem ChV_skip {q : Nat → Bool} {n c : Nat} (V : ChV h q n c) (hq : q c = false) : ChV h q n (c + 1) := by
  obtain ⟨v1, v2, v3, v4, v5⟩ := V
  have nq : ¬ q c = true := by rw [hq]; decide
  refine ⟨by rw [cB_s, if_neg nq]; exact v1, fun j hj qj c12 => ?_, ?_, ?_, fun k hk => ?_⟩
  · by_cases d : j = c
    · rw [d] at qj; exact absurd qj nq
    · exact v2 j (by omega) qj c12
  · rw [v3]; congr 1; exact (if_neg nq).symm
  · rw [v4]; congr 1; exact (if_neg nq).symm
  · rw [v5 k hk]
    congr 1
    show _ = sE _ (c + 1)
    rw [sE_s, if_neg (fun z => nq z.1)]; rfl
def chF (x : Nat) : Prop := (39 ≤ x ∧ x ≤ 44) ∨ (59 ≤ x ∧ x ≤ 61)
def chPo (h : Hp) (tv : Nat → Nat → Nat) (n : Nat) (mem : Nat → Nat) (q : Nat → Bool) (h' : Hp) : Prop := EqO chF h h' ∧ PickZ h' ∧ PcV h' n mem tv ∧ ChV h' q n (2 ^ n)
theorem ch_step (hE : EOk E) (hL : 2 ≤ L) (S : StV h 1 nB nT tv) {h1 : Hp} {n c : Nat} {mem : Nat → Nat} {q : Nat → Bool} (hc : c < 2 ^ n) (e : EqO chF h h1) (Z : PickZ h1) (P : PcV h1 n mem tv) (V : ChV h1 q n c) (hq : q c = true) {post : Hp → Prop} (H : ∀ h2, EqO chF h h2 → PickZ h2 → PcV h2 n mem tv → ChV h2 q n (c + 1) → post h2) : ConV E L m_Chest_note 59 [.int (nI c)] h1 post := by
  refine (ch_note hE hL P.1.2.1 hc V hq).mono (fun h2 z2 => ?_)
  obtain ⟨e2, V2⟩ := z2
  exact H h2 (e.trans (e2.wk (fun x z => Or.inr (by omega)))) (PickZ_eq Z (fun a q1 q2 => (e2 a (by omega)).2.1)) (PcV_eq P e2) V2
theorem ch_weigh (hE : EOk E) (hL : 10 ≤ L) (S : StV h 1 nB nT tv) (Z : PickZ h) (v : Int32) {b x w : Nat} (hb : b < 24) (hx : x < 100) (hw : w < 2147483648) : ConV E L m_Chest_weigh 59 [.int (nI b), .int v, .int (nI x), .int (nI w)] h (chPo h tv (nF (wS v (fun _ => true)) 12) (itK (wS v (fun _ => true))) (qW tv (itK (wS v (fun _ => true))) (nF (wS v (fun _ => true)) 12) b x w)) := by
  refine B_Chest_weigh hE (by omega) ((ch_begin hE (by omega) S Z v (qW tv (itK (wS v (fun _ => true))) (nF (wS v (fun _ => true)) 12) b x w)).mono (fun h1 z1 => ?_))
  obtain ⟨e1, Z1, P1, V1⟩ := z1
  generalize nF (wS v (fun _ => true)) 12 = n at *
  generalize itK (wS v (fun _ => true)) = mem at *
  have n12 := P1.1.2.1
  have p4 := pow13 (n := n) (by omega)
  have main : ∀ m c, m + c = 2 ^ n → ∀ h2, EqO chF h h2 → PickZ h2 → PcV h2 n mem tv → ChV h2 (qW tv mem n b x w) n c → at_Chest_weigh_8 E L h2 (chPo h tv n mem (qW tv mem n b x w)) (nI b) (nI x) (nI w) (nI c) := by
    intro m
    induction m with
    | zero =>
      intro c hc h2 e2 Z2 P2 V2
      rw [show c = 2 ^ n by omega] at V2 ⊢
      exact B_Chest_weigh_8 ((pc_choices hE (by omega) P2.1).use (brT (nI_le (Nat.le_refl _) (by omega)) ⟨e2, Z2, P2, V2⟩))
    | succ m ih =>
      intro c hc h2 e2 Z2 P2 V2
      have hcn : c < 2 ^ n := by omega
      have S2 : StV h2 1 nB nT tv := S.keep e2 (by unfold chF; omega) (by unfold chF; omega)
      have s2 := sF_lt (w := 2) S2 P2 hcn (by omega)
      have pl := (bcN (x := c) (by omega)).2
      have skip : qW tv mem n b x w c = false → at_Chest_weigh_8 E L h2 (chPo h tv n mem (qW tv mem n b x w)) (nI b) (nI x) (nI w) (nI (c + 1)) := fun f => ih (c + 1) (by omega) h2 e2 Z2 P2 (ChV_skip V2 f)
      refine B_Chest_weigh_8 ((pc_choices hE (by omega) P2.1).use (brF (nI_ge hcn (by omega)) ((i_bitCount hE (by omega) (by omega)).use ?_)))
      rw [nIe (by omega) (by omega), nI_1]
      refine ⟨fun d => skip ?_, fun d => (pc_size hE (by omega) P2 hcn).2.1.use ?_⟩
      · unfold qW; rw [decide_eq_false d]; rfl
      · rw [nIe (by omega) (by omega)]
        refine ⟨fun d2 => skip ?_, fun d2 => (pc_goInto hE (by omega) S2 P2 hcn hb).use ?_⟩
        · unfold qW; rw [decide_eq_false d2, Bool.false_and, Bool.and_false]
        · by_cases g : goB tv mem n b c = true
          · rw [if_pos g]
            have qt : qW tv mem n b x w c = true := by unfold qW; rw [decide_eq_true d, decide_eq_true d2, g]; rfl
            exact brF (by decide) (ch_step hE (by omega) S hcn e2 Z2 P2 V2 qt (fun h3 e3 Z3 P3 V3 => ih (c + 1) (by omega) h3 e3 Z3 P3 V3))
          · rw [if_neg g]
            exact brT rfl (skip (by unfold qW; rw [show goB tv mem n b c = false by simpa using g]; simp))
  exact main (2 ^ n) 0 (by omega) h1 e1 Z1 P1 V1
theorem ch_sound (hE : EOk E) (hL : 10 ≤ L) (S : StV h 1 nB nT tv) (Z : PickZ h) (v : Int32) {b w f : Nat} (hb : b < 24) (hw : w < 2147483648) (hf : f < 2147483648) : ConV E L m_Chest_sound 59 [.int (nI b), .int v, .int (nI w), .int (nI f)] h (chPo h tv (nF (wS v (fun _ => true)) 12) (itK (wS v (fun _ => true))) (qS tv (itK (wS v (fun _ => true))) (nF (wS v (fun _ => true)) 12) b w f)) := by
  refine B_Chest_sound hE (by omega) ((ch_begin hE (by omega) S Z v (qS tv (itK (wS v (fun _ => true))) (nF (wS v (fun _ => true)) 12) b w f)).mono (fun h1 z1 => ?_))
  obtain ⟨e1, Z1, P1, V1⟩ := z1
  generalize nF (wS v (fun _ => true)) 12 = n at *
  generalize itK (wS v (fun _ => true)) = mem at *
  have n12 := P1.1.2.1
  have p4 := pow13 (n := n) (by omega)
  have main : ∀ m c, m + c = 2 ^ n → ∀ h2, EqO chF h h2 → PickZ h2 → PcV h2 n mem tv → ChV h2 (qS tv mem n b w f) n c → at_Chest_sound_8 E L h2 (chPo h tv n mem (qS tv mem n b w f)) (nI b) (nI w) (nI f) (nI c) := by
    intro m
    induction m with
    | zero =>
      intro c hc h2 e2 Z2 P2 V2
      rw [show c = 2 ^ n by omega] at V2 ⊢
      exact B_Chest_sound_8 ((pc_choices hE (by omega) P2.1).use (brT (nI_le (Nat.le_refl _) (by omega)) ⟨e2, Z2, P2, V2⟩))
    | succ m ih =>
      intro c hc h2 e2 Z2 P2 V2
      have hcn : c < 2 ^ n := by omega
      have S2 : StV h2 1 nB nT tv := S.keep e2 (by unfold chF; omega) (by unfold chF; omega)
      have s2 := sF_lt (w := 2) S2 P2 hcn (by omega)
      have s0 := sF_lt (w := 0) S2 P2 hcn (by omega)
      have skip : qS tv mem n b w f c = false → at_Chest_sound_8 E L h2 (chPo h tv n mem (qS tv mem n b w f)) (nI b) (nI w) (nI f) (nI (c + 1)) := fun f => ih (c + 1) (by omega) h2 e2 Z2 P2 (ChV_skip V2 f)
      refine B_Chest_sound_8 ((pc_choices hE (by omega) P2.1).use (brF (nI_ge hcn (by omega)) ((pc_size hE (by omega) P2 hcn).2.1.use ?_)))
      rw [nIe (by omega) (by omega), nI_1]
      refine ⟨fun d => skip ?_, fun d => (pc_size hE (by omega) P2 hcn).1.use ?_⟩
      · unfold qS; rw [decide_eq_false d]; rfl
      · rw [nIe (by omega) (by omega)]
        refine ⟨fun d2 => skip ?_, fun d2 => (pc_goInto hE (by omega) S2 P2 hcn hb).use ?_⟩
        · unfold qS; rw [decide_eq_false d2, Bool.false_and, Bool.and_false]
        · by_cases g : goB tv mem n b c = true
          · rw [if_pos g]
            have qt : qS tv mem n b w f c = true := by unfold qS; rw [decide_eq_true d, decide_eq_true d2, g]; rfl
            exact brF (by decide) (ch_step hE (by omega) S hcn e2 Z2 P2 V2 qt (fun h3 e3 Z3 P3 V3 => ih (c + 1) (by omega) h3 e3 Z3 P3 V3))
          · rw [if_neg g]
            exact brT rfl (skip (by unfold qS; rw [show goB tv mem n b c = false by simpa using g]; simp))
  exact main (2 ^ n) 0 (by omega) h1 e1 Z1 P1 V1
end Chest2
