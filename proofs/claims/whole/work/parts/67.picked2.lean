section Picked2
variable {E : EnvX} {L : Nat} {h : Hp} {nB nT : Nat} {tv : Nat → Nat → Nat} {pk lv sn : Nat → Nat} {ck : Nat}
def nF (W : Nat → Bool) (mx : Nat) : Nat := if cB W 24 < mx then cB W 24 else mx
theorem nF_le {W : Nat → Bool} {mx : Nat} : nF W mx ≤ mx ∧ nF W mx ≤ cB W 24 := by unfold nF; split <;> omega
theorem wS_8 {v : Int32} {P : Nat → Bool} : ∀ i, i ≤ 8 → cB (wS v P) i = 0 := fun i hi => sE_zero (fun j hj => if_neg (by unfold wS; rw [decide_eq_false (by omega), Bool.false_and]; decide))
theorem pc_pick (hE : EOk E) (hL : 6 ≤ L) (S : StV h 1 nB nT tv) (Z : PickZ h) (v : Int32) {mx : Nat} (hmx : mx ≤ 12) : ConV E L m_Picked_pick 39 [.int v, .int (nI mx)] h (fun h' => EqO (fun q => 39 ≤ q ∧ q ≤ 44) h h' ∧ PickZ h' ∧ PcV h' (nF (wS v (fun _ => true)) mx) (itK (wS v (fun _ => true))) tv) := by
  have wb : ∀ i, 8 ≤ i → wS v (fun _ => true) i = bO v i := fun i hi => by unfold wS; rw [decide_eq_true hi, Bool.true_and, Bool.and_true]
  have w8 := wS_8 (v := v) (P := fun _ => true) 8 (Nat.le_refl _)
  generalize wS v (fun _ => true) = W at *
  have nf := nF_le (W := W) (mx := mx)
  refine B_Picked_pick hE (by omega) ?_
  have main : ∀ m i, m + i = 24 → 8 ≤ i → ∀ h1, EqO (fun q => 39 ≤ q ∧ q ≤ 44) h h1 → (∀ a, 41 ≤ a → a ≤ 44 → h1.2.1 a = h.2.1 a) → h1.1 39 6 = nI (if cB W i < mx then cB W i else mx) → (∀ k, k < (if cB W i < mx then cB W i else mx) → h1.2.1 40 k = nI (itK W k)) → at_Picked_pick_8 E L h1 (fun h' => EqO (fun q => 39 ≤ q ∧ q ≤ 44) h h' ∧ PickZ h' ∧ PcV h' (nF W mx) (itK W) tv) v (nI mx) (nI i) := by
    intro m
    induction m with
    | zero =>
      intro i hi i8 h1 e z c a
      rw [show i = 24 by omega] at c a ⊢
      have S1 : StV h1 1 nB nT tv := S.keep e (by omega) (by omega)
      have Z1 : PickZ h1 := fun q q1 q2 => by rw [z q q1 q2]; exact Z q q1 q2
      have P1 : MmV h1 (nF W mx) (itK W) := ⟨c, by omega, fun k hk => ⟨a k hk, (itK_yes (by omega)).1⟩⟩
      refine B_Picked_pick_8 (brT (nEnd 24) ⟨rfl, ?_⟩)
      rw [c, show (6 : Int32) = nI 6 from rfl, show (if cB W 24 < mx then cB W 24 else mx) = nF W mx from rfl]
      have mn : (if nI 6 < nI (nF W mx) then nI 6 else nI (nF W mx)) = nI (if 6 < nF W mx then 6 else nF W mx) := by
        by_cases q : 6 < nF W mx
        · rw [if_pos q, if_pos ((nIt (by omega) (by omega)).mpr q)]
        · rw [if_neg q, if_neg (fun w => q ((nIt (by omega) (by omega)).mp w))]
      rw [mn]
      refine (pc_sumUp hE (by omega) S1 P1 (off := 0) (base := 0) (hm := if 6 < nF W mx then 6 else nF W mx) (Or.inl ⟨rfl, rfl⟩) (by split <;> omega) (by split <;> omega) (fun q q1 q2 => (Z1 q q1 q2).1)).mono (fun h2 z2 => ?_)
      obtain ⟨e2, o2, t2⟩ := z2
      have S2 : StV h2 1 nB nT tv := S1.keep e2 (by omega) (by omega)
      have P2 : MmV h2 (nF W mx) (itK W) := ⟨by rw [(e2 39 (by omega)).1]; exact P1.1, P1.2.1, fun k hk => by rw [(e2 40 (by omega)).2.1]; exact P1.2.2 k hk⟩
      have lo : ∀ c, c < 2 ^ 6 → c < 2 ^ nF W mx → TbV h2 tv (itK W) 0 0 c := fun c c6 cn => t2 c (by split <;> assumption)
      have ez : ∀ h3, EqO (fun q => 41 ≤ q ∧ q ≤ 44) h2 h3 → EqO (fun q => 39 ≤ q ∧ q ≤ 44) h h3 := fun h3 e3 => (e.trans (e2.wk (fun q z => by omega))).trans (e3.wk (fun q z => by omega))
      have Z2 : PickZ h2 := fun q q1 q2 => by rw [o2 q 0 (Or.inl (by omega)), o2 q 64 (Or.inr (by omega))]; exact Z1 q q1 q2
      rw [P2.1]
      by_cases q : 6 ≤ nF W mx
      · rw [nI_sub q]
        refine (pc_sumUp hE (by omega) S2 P2 (off := 6) (base := 64) (hm := nF W mx - 6) (Or.inr ⟨rfl, rfl⟩) (by omega) (by omega) (fun q q1 q2 => (Z2 q q1 q2).2)).mono (fun h3 z3 => ?_)
        obtain ⟨e3, o3, t3⟩ := z3
        refine ⟨ez h3 e3, fun q q1 q2 => ?_, ⟨by rw [(e3 39 (by omega)).1]; exact P2.1, P2.2.1, fun k hk => by rw [(e3 40 (by omega)).2.1]; exact P2.2.2 k hk⟩, fun c c6 cn => ?_, fun c c6 cn => t3 c cn⟩
        · rw [o3 q 0 (Or.inl (by omega)), o3 q 64 (Or.inl (by omega))]; exact Z2 q q1 q2
        · obtain ⟨l0, l1, l2, l3⟩ := lo c c6 cn
          unfold TbV
          rw [o3 _ _ (Or.inl (by omega)), o3 _ _ (Or.inl (by omega)), o3 _ _ (Or.inl (by omega)), o3 _ _ (Or.inl (by omega))]
          exact ⟨l0, l1, l2, l3⟩
      · refine B_Picked_sumUp hE (by omega) (brF' (by decide) (B_Picked_sumUp_14 (brT ?_ ⟨ez h2 EqO.rfl', Z2, P2, lo, fun c c6 cn => ?_⟩)))
        · rw [i32_le, pk_sub_toInt (by omega) (by omega)]
          have : (0 : Int32).toInt = 0 := rfl
          omega
        · rw [show nF W mx - 6 = 0 by omega] at cn
          rw [show c = 0 by have : (2:Nat) ^ 0 = 1 := rfl; omega]
          exact TbV_0 (fun q q1 q2 => (Z2 q q1 q2).2)
    | succ m ih =>
      intro i hi i8 h1 e z c a
      have i24 : i < 24 := by omega
      have cs := cB_s W i
      have cm := cB_mono W (u := i) (v := 24) (by omega)
      refine B_Picked_pick_8 (brF (nG 24 i24) ?_)
      rw [nI_1]
      by_cases w : bO v i = true
      · rw [wb i i8, if_pos w] at cs
        refine brF (bO_tt.mp w) ?_
        rw [c, nIl (by omega) (by split <;> omega)]
        by_cases q : cB W i < mx
        · rw [if_pos q] at c a ⊢
          refine brF (by omega) (brF (nI_ge (b := 12) (by omega) (by omega)) ?_)
          rw [nIc (by omega), sA_1, c, nI_1]
          refine ⟨in40 (by omega), ih (i + 1) (by omega) (by omega) _ ((e.trans (EqO.sA (F := fun q => 39 ≤ q ∧ q ≤ 44) (show 39 ≤ 40 ∧ 40 ≤ 44 by decide))).trans (EqO.sI (F := fun q => 39 ≤ q ∧ q ≤ 44) (show 39 ≤ 39 ∧ 39 ≤ 44 by decide))) (fun q q1 q2 => ?_) ?_ (fun k hk => ?_)⟩
          · rw [sI_A, ← z q q1 q2]
            exact ((EqO.sA (F := fun q => q = 40) rfl) q (by omega)).2.1
          · rw [sI_1, if_pos rfl, if_pos rfl, cs]
            congr 1
            split <;> omega
          · rw [sI_A, sA_A, if_pos rfl]
            by_cases d : k = cB W i
            · rw [if_pos d, d, itK_at i24 (by rw [wb i i8]; exact w)]
            · rw [if_neg d]
              refine a k ?_
              rw [cs] at hk
              split at hk <;> omega
        · rw [if_neg q] at c a ⊢
          have e1 : (if cB W (i + 1) < mx then cB W (i + 1) else mx) = mx := if_neg (by omega)
          refine brT (Nat.le_refl _) (ih (i + 1) (by omega) (by omega) h1 e z (by rw [e1]; exact c) (by rw [e1]; exact a))
      · have wf : bO v i = false := by simpa using w
        rw [wb i i8, if_neg w, Nat.add_zero] at cs
        refine brT (bO_ft.mp wf) (ih (i + 1) (by omega) (by omega) h1 e z (by rw [cs]; exact c) (by rw [cs]; exact a))
  refine main 16 8 (by omega) (by omega) _ (EqO.sI (F := fun q => 39 ≤ q ∧ q ≤ 44) (show 39 ≤ 39 ∧ 39 ≤ 44 by decide)) (fun _ _ _ => rfl) ?_ (fun k hk => ?_)
  · rw [sI_1, if_pos rfl, if_pos rfl, w8]
    by_cases q : 0 < mx
    · rw [if_pos q]; rfl
    · rw [if_neg q, show mx = 0 by omega]; rfl
  · rw [w8] at hk
    split at hk <;> omega
theorem cmod {c k : Nat} (hc : c < 2 ^ 12) : (c % 64).testBit k = (decide (k < 6) && c.testBit k) := Nat.testBit_mod_two_pow c 6 k
theorem cdiv {c k : Nat} : (c / 64).testBit k = c.testBit (6 + k) := by
  rw [show c / 64 = c >>> 6 from (Nat.shiftRight_eq_div_pow c 6).symm, Nat.testBit_shiftRight]
/-- a sum over all members is the sum of its halves -/
theorem sF_halves {mem : Nat → Nat} {w n c : Nat} (hn : n ≤ 12) (hc : c < 2 ^ n) : sF tv mem w n c = sV tv mem w 0 (c % 64) + sV tv mem w 6 (c / 64) := by
  have c12 : c < 2 ^ 12 := Nat.lt_of_lt_of_le hc (Nat.pow_le_pow_right (by decide) hn)
  have e1 : sF tv mem w 12 c = sF tv mem w n c := by
    unfold sF
    rw [show (12 : Nat) = n + (12 - n) by omega, sE_split, sE_zero (n := 12 - n) (fun k _ => by rw [bit_hi hc (by omega)]; rfl), Nat.add_zero]
  rw [← e1]
  unfold sF sV
  rw [sE_split _ 6 6]
  congr 1
  · refine sE_cong (n := 6) (fun k hk => ?_)
    rw [cmod c12, decide_eq_true hk, Bool.true_and, Nat.zero_add]
  · refine sE_cong (n := 6) (fun k hk => ?_)
    rw [cdiv]
theorem lowN {c : Nat} (hc : c < 2 ^ 12) : nI c &&& 63 = nI (c % 64) := pk_andN (by omega) 6 (by decide)
theorem highN {c : Nat} (hc : c < 2 ^ 12) : 64 + ((nI c >>> ((6 : Int32) &&& 31)) &&& 63) = nI (64 + c / 64) := by
  rw [pk_shrN (by omega) ((6 : Int32) &&& 31) 6 (by decide), pk_andN (by omega) 6 (by decide), show (64 : Int32) = nI 64 from rfl, nI_add]
  congr 1
  omega
theorem halves {n c : Nat} (hn : n ≤ 12) (hc : c < 2 ^ n) : c < 2 ^ 12 ∧ (c % 64 < 2 ^ 6 ∧ c % 64 < 2 ^ n) ∧ (c / 64 < 2 ^ 6 ∧ c / 64 < 2 ^ (n - 6)) := by
  have c12 : c < 2 ^ 12 := Nat.lt_of_lt_of_le hc (Nat.pow_le_pow_right (by decide) hn)
  refine ⟨c12, ⟨Nat.mod_lt _ (by decide), Nat.lt_of_le_of_lt (Nat.mod_le _ _) hc⟩, by omega, ?_⟩
  by_cases q : 6 ≤ n
  · rw [Nat.div_lt_iff_lt_mul (by decide), show (64 : Nat) = 2 ^ 6 from rfl, ← Nat.pow_add, show n - 6 + 6 = n by omega]; exact hc
  · have : 2 ^ n ≤ 2 ^ 6 := Nat.pow_le_pow_right (by decide) (by omega)
    rw [show n - 6 = 0 by omega]
    omega
theorem sV_bd {mem : Nat → Nat} {w off c n : Nat} (S : StV h 1 nB nT tv) (hm : ∀ k, off + k < n → mem (off + k) < 24) (hc : c < 2 ^ (n - off)) (hw : w < 7) : sV tv mem w off c ≤ 59994 := by
  have : sV tv mem w off c ≤ 6 * 9999 := sE_le (fun k hk => by
    by_cases e : c.testBit k = true
    · rw [if_pos e]
      refine (S.2.2.2.2.2 _ w (hm k ?_) hw).2
      refine Classical.byContradiction fun z => ?_
      rw [bit_hi hc (by omega)] at e; cases e
    · rw [if_neg e]; exact Nat.zero_le _)
  omega
theorem pc_size (hE : EOk E) (hL : 3 ≤ L) {n c : Nat} {mem : Nat → Nat} (P : PcV h n mem tv) (hc : c < 2 ^ n) : RdI E L m_Picked_size 39 [.int (nI c)] h (nI (sF tv mem 0 n c)) ∧ RdI E L m_Picked_weight 39 [.int (nI c)] h (nI (sF tv mem 2 n c)) ∧ RdI E L m_Picked_worth 39 [.int (nI c)] h (nI (sF tv mem 3 n c)) := by
  obtain ⟨c12, ⟨l6, ln⟩, ⟨h6, hn⟩⟩ := halves P.1.2.1 hc
  have lo : RdI E (L - 1) m_Picked_low 0 [.int (nI c)] h (nI (c % 64)) := B_Picked_low hE (by omega) ⟨lowN c12, rfl⟩
  have hi : RdI E (L - 1) m_Picked_high 0 [.int (nI c)] h (nI (64 + c / 64)) := B_Picked_high hE (by omega) ⟨highN c12, rfl⟩
  obtain ⟨a0, a1, a2, a3⟩ := P.2.1 _ l6 ln
  obtain ⟨b0, b1, b2, b3⟩ := P.2.2 _ h6 hn
  rw [Nat.zero_add] at a0 a1 a2 a3
  rw [sF_halves P.1.2.1 hc, sF_halves P.1.2.1 hc, sF_halves P.1.2.1 hc]
  refine ⟨?_, ?_, ?_⟩
  · refine B_Picked_size hE (by omega) (lo.use ⟨(in41 (by omega)).1, hi.use ⟨(in41 (by omega)).1, ?_⟩⟩)
    rw [nIc (by omega), nIc (by omega), a0, b0, nI_add]; exact ⟨rfl, rfl⟩
  · refine B_Picked_weight hE (by omega) (lo.use ⟨(in41 (by omega)).2.2.1, hi.use ⟨(in41 (by omega)).2.2.1, ?_⟩⟩)
    rw [nIc (by omega), nIc (by omega), a2, b2, nI_add]; exact ⟨rfl, rfl⟩
  · refine B_Picked_worth hE (by omega) (lo.use ⟨(in41 (by omega)).2.2.2, hi.use ⟨(in41 (by omega)).2.2.2, ?_⟩⟩)
    rw [nIc (by omega), nIc (by omega), a3, b3, nI_add]; exact ⟨rfl, rfl⟩
/-- all that is picked passes a lid -/
def psB (tv : Nat → Nat → Nat) (mem : Nat → Nat) (n c lid : Nat) : Bool := decide (sE (fun k => if c.testBit k = true ∧ lid < tv (mem k) 1 then 1 else 0) n = 0)
theorem psB_iff {mem : Nat → Nat} {n c lid : Nat} : psB tv mem n c lid = true ↔ ∀ k, k < n → c.testBit k = true → tv (mem k) 1 ≤ lid := by
  unfold psB
  rw [decide_eq_true_eq]
  constructor
  · intro a k hk b
    refine Classical.byContradiction fun z => ?_
    have := sE_part (fun k => if c.testBit k = true ∧ lid < tv (mem k) 1 then 1 else 0) hk
    rw [a, if_pos ⟨b, by omega⟩] at this
    omega
  · intro a
    refine sE_zero (fun k hk => if_neg (fun z => ?_))
    have := a k hk z.1
    omega
theorem pc_outline (hE : EOk E) (hL : 3 ≤ L) (S : StV h 1 nB nT tv) {n c : Nat} {mem : Nat → Nat} (P : PcV h n mem tv) (hc : c < 2 ^ n) : ∃ o : Nat, o < 100000 ∧ (∀ lid, o ≤ lid ↔ psB tv mem n c lid = true) ∧ RdI E L m_Picked_outline 39 [.int (nI c)] h (nI o) := by
  obtain ⟨c12, ⟨l6, ln⟩, ⟨h6, hn⟩⟩ := halves P.1.2.1 hc
  have lo : RdI E (L - 1) m_Picked_low 0 [.int (nI c)] h (nI (c % 64)) := B_Picked_low hE (by omega) ⟨lowN c12, rfl⟩
  have hi : RdI E (L - 1) m_Picked_high 0 [.int (nI c)] h (nI (64 + c / 64)) := B_Picked_high hE (by omega) ⟨highN c12, rfl⟩
  obtain ⟨a0, a1, a2, a3⟩ := P.2.1 _ l6 ln
  obtain ⟨b0, b1, b2, b3⟩ := P.2.2 _ h6 hn
  rw [Nat.zero_add] at a1
  have m24 : ∀ k, k < n → mem k < 24 := fun k hk => (P.1.2.2 k hk).2
  have x1 := mV_lt (n := n) (off := 0) (mem := mem) S (fun k hk => m24 _ (by omega)) ln
  have x2 := mV_lt (n := n) (off := 6) (mem := mem) S (fun k hk => m24 _ (by omega)) hn
  refine ⟨if mV tv mem 0 (c % 64) < mV tv mem 6 (c / 64) then mV tv mem 6 (c / 64) else mV tv mem 0 (c % 64), by split <;> omega, fun lid => ?_, ?_⟩
  · rw [mx_le, psB_iff]
    unfold mV
    rw [mE_le, mE_le]
    have n12 := P.1.2.1
    constructor
    · rintro ⟨p, q⟩ k hk b
      by_cases k6 : k < 6
      · have := p k k6
        rw [cmod c12, decide_eq_true k6, Bool.true_and, if_pos b, Nat.zero_add] at this; exact this
      · have := q (k - 6) (by omega)
        rw [cdiv, show 6 + (k - 6) = k by omega, if_pos b] at this; exact this
    · intro p
      refine ⟨fun k hk => ?_, fun k hk => ?_⟩
      · rw [cmod c12, decide_eq_true hk, Bool.true_and, Nat.zero_add]
        by_cases b : c.testBit k = true
        · rw [if_pos b]
          refine p k (Classical.byContradiction fun z => ?_) b
          rw [bit_hi hc (by omega)] at b; cases b
        · rw [if_neg b]; exact Nat.zero_le _
      · rw [cdiv]
        by_cases b : c.testBit (6 + k) = true
        · rw [if_pos b]
          refine p (6 + k) (Classical.byContradiction fun z => ?_) b
          rw [bit_hi hc (by omega)] at b; cases b
        · rw [if_neg b]; exact Nat.zero_le _
  · refine B_Picked_outline hE (by omega) (lo.use ⟨(in41 (by omega)).2.1, hi.use ⟨(in41 (by omega)).2.1, rfl, ?_⟩⟩)
    rw [nIc (by omega), nIc (by omega), a1, b1, mx_n (by omega) (by omega)]
    exact ⟨rfl, rfl⟩
theorem sF_lt (S : StV h 1 nB nT tv) {n c w : Nat} {mem : Nat → Nat} (P : PcV h n mem tv) (hc : c < 2 ^ n) (hw : w < 7) : sF tv mem w n c < 200000 := by
  obtain ⟨c12, ⟨l6, ln⟩, ⟨h6, hn⟩⟩ := halves P.1.2.1 hc
  have m24 : ∀ k, k < n → mem k < 24 := fun k hk => (P.1.2.2 k hk).2
  have x1 := sV_bd (n := n) (off := 0) (mem := mem) (w := w) S (fun k hk => m24 _ (by omega)) ln hw
  have x2 := sV_bd (n := n) (off := 6) (mem := mem) (w := w) S (fun k hk => m24 _ (by omega)) hn hw
  rw [sF_halves P.1.2.1 hc]
  omega
theorem pc_choices (hE : EOk E) (hL : 1 ≤ L) {n : Nat} {mem : Nat → Nat} (P : MmV h n mem) : RdI E L m_Picked_choices 39 [] h (nI (2 ^ n)) := by
  have n12 := P.2.1
  refine B_Picked_choices hE hL ⟨?_, rfl⟩
  rw [P.1, shlN (by omega)]
def memP (mem : Nat → Nat) (n c : Nat) : Nat → Bool := fun i => decide (sE (fun k => if c.testBit k = true ∧ mem k = i then 1 else 0) n ≠ 0)
theorem memP_s {mem : Nat → Nat} {n c i : Nat} : memP mem (n + 1) c i = (memP mem n c i || (c.testBit n && decide (mem n = i))) := by
  unfold memP
  rw [sE_s]
  by_cases a : c.testBit n = true ∧ mem n = i
  · rw [if_pos a, a.1, decide_eq_true a.2, decide_eq_true (by omega)]; simp
  · rw [if_neg a, Nat.add_zero]
    have : (c.testBit n && decide (mem n = i)) = false := by
      rw [Bool.and_eq_false_iff]
      by_cases b : c.testBit n = true
      · exact Or.inr (decide_eq_false (fun z => a ⟨b, z⟩))
      · exact Or.inl (by simpa using b)
    rw [this, Bool.or_false]
theorem pc_bits (hE : EOk E) (hL : 2 ≤ L) {n c : Nat} {mem : Nat → Nat} (P : MmV h n mem) (hc : c < 2 ^ 24) : ∃ v, Mk v (memP mem n c) ∧ RdI E L m_Picked_bits 39 [.int (nI c)] h v := by
  have n12 := P.2.1
  have key : ∀ k, k ≤ n → ∃ v, Mk v (memP mem k c) := by
    intro k
    induction k with
    | zero => intro _; exact ⟨0, mk_cong mk_0 (fun i _ => rfl)⟩
    | succ k ih =>
      intro hk
      obtain ⟨v, mv⟩ := ih (by omega)
      by_cases b : c.testBit k = true
      · exact ⟨_, mk_cong (mk_or mv (P.2.2 k (by omega)).2) (fun i _ => by rw [memP_s, b, Bool.true_and]; congr 1; exact decide_eq_decide.mpr eq_comm)⟩
      · exact ⟨v, mk_cong mv (fun i _ => by rw [memP_s, show c.testBit k = false by simpa using b]; simp)⟩
  obtain ⟨v, mv⟩ := key n (Nat.le_refl _)
  refine ⟨v, mv, B_Picked_bits hE (by omega) ?_⟩
  refine upto (P := fun k => ∀ u, Mk u (memP mem k c) → at_Picked_bits_4 E L h _ (nI c) u (nI k)) (n := n) (fun u mu => ?_) (fun k hk ih u mu => ?_) 0 (by omega) 0 (mk_cong mk_0 (fun i _ => rfl))
  · refine B_Picked_bits_4 ?_
    rw [P.1]
    exact brT (nI_le (Nat.le_refl _) (by omega)) ⟨mk_eq mu mv, rfl⟩
  · refine B_Picked_bits_4 ?_
    rw [P.1, bitN hc (by omega), nI_1]
    refine brF (nI_ge hk (by omega)) ?_
    by_cases b : c.testBit k = true
    · rw [if_pos b]
      refine brF (by decide) ((pc_member hE (by omega) P hk).use (ih _ ?_))
      exact mk_cong (mk_or mu (P.2.2 k hk).2) (fun i _ => by rw [memP_s, b, Bool.true_and]; congr 1; exact decide_eq_decide.mpr eq_comm)
    · rw [if_neg b]
      refine brT rfl (ih _ (mk_cong mu (fun i _ => by rw [memP_s, show c.testBit k = false by simpa using b]; simp)))
end Picked2
