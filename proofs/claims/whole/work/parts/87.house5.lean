section House5
variable {E : EnvX} {L : Nat} {h : Hp} {nB nT : Nat} {tv : Nat → Nat → Nat} {g : Nat → Nat → Bool} {pk lv sn : Nat → Nat} {ck : Nat}
def prW (tv : Nat → Nat → Nat) (z : Bool) (b : Nat) : Nat := if z = true then 1048576 + 256 * tv b 2 + 2 ^ b else 4096 * tv b 2 + 256 + 2 ^ b
def wB (tv : Nat → Nat → Nat) (nB B : Nat) : Nat := sE (fun b => if B.testBit b = true then tv b 2 else 0) nB
def cN (nB B : Nat) : Nat := sE (fun b => if B.testBit b = true then 1 else 0) nB
theorem sE_mul (f : Nat → Nat) (c : Nat) : ∀ n, sE (fun k => c * f k) n = c * sE f n
  | 0 => (Nat.mul_zero c).symm
  | n + 1 => by
    have := sE_mul f c n
    show sE (fun k => c * f k) n + c * f n = c * (sE f n + f n)
    rw [this, Nat.mul_add]
theorem bitsum (B : Nat) : ∀ k, sE (fun b => if B.testBit b = true then 2 ^ b else 0) k = B % 2 ^ k
  | 0 => (Nat.mod_one B).symm
  | k + 1 => by
    rw [sE_s, bitsum B k, Nat.mod_pow_succ, Nat.testBit_eq_decide_div_mod_eq]
    congr 1
    by_cases c : B / 2 ^ k % 2 = 1
    · rw [if_pos (decide_eq_true c), c, Nat.mul_one]
    · rw [if_neg (by rw [decide_eq_false c]; decide), show B / 2 ^ k % 2 = 0 by omega, Nat.mul_zero]
theorem Pr_eq {z : Bool} {B : Nat} (hB : B < 2 ^ nB) : Pr (prW tv z) nB B = if z = true then 1048576 * cN nB B + 256 * wB tv nB B + B else 4096 * wB tv nB B + 256 * cN nB B + B := by
  have b0 := bitsum B nB
  rw [Nat.mod_eq_of_lt hB] at b0
  cases z
  · rw [if_neg (by decide)]
    unfold Pr wB cN
    rw [← sE_mul, ← sE_mul, ← sE_add, show (fun b => 4096 * (if B.testBit b = true then tv b 2 else 0) + 256 * (if B.testBit b = true then 1 else 0)) = (fun b => 4096 * (if B.testBit b = true then tv b 2 else 0) + 256 * (if B.testBit b = true then 1 else 0)) from rfl]
    refine Eq.trans ?_ (congrArg (fun x => sE (fun b => 4096 * (if B.testBit b = true then tv b 2 else 0) + 256 * (if B.testBit b = true then 1 else 0)) nB + x) b0)
    show _ = sE (fun b => 4096 * (if B.testBit b = true then tv b 2 else 0) + 256 * (if B.testBit b = true then 1 else 0)) nB + sE (fun b => if B.testBit b = true then 2 ^ b else 0) nB
    rw [← sE_add]
    refine sE_cong (n := nB) (fun b hb => ?_)
    by_cases t : B.testBit b = true
    · rw [if_pos t, if_pos t, if_pos t, if_pos t]; unfold prW; rw [if_neg (by decide)]
    · rw [if_neg t, if_neg t, if_neg t, if_neg t]
  · rw [if_pos rfl]
    unfold Pr wB cN
    rw [← sE_mul, ← sE_mul, ← sE_add]
    refine Eq.trans ?_ (congrArg (fun x => sE (fun b => 1048576 * (if B.testBit b = true then 1 else 0) + 256 * (if B.testBit b = true then tv b 2 else 0)) nB + x) b0)
    show _ = sE (fun b => 1048576 * (if B.testBit b = true then 1 else 0) + 256 * (if B.testBit b = true then tv b 2 else 0)) nB + sE (fun b => if B.testBit b = true then 2 ^ b else 0) nB
    rw [← sE_add]
    refine sE_cong (n := nB) (fun b hb => ?_)
    by_cases t : B.testBit b = true
    · rw [if_pos t, if_pos t, if_pos t, if_pos t]; unfold prW; rw [if_pos rfl]
    · rw [if_neg t, if_neg t, if_neg t, if_neg t]
theorem cN_pc {B : Nat} (h8 : nB ≤ 8) (hB : B < 2 ^ nB) : pcn B = cN nB B ∧ cN nB B ≤ 8 := by
  refine ⟨?_, ?_⟩
  · unfold pcn cN
    rw [show (24 : Nat) = nB + (24 - nB) by omega, sE_split, sE_zero (n := 24 - nB) (fun k _ => by rw [bit_hi hB (by omega)]; rfl), Nat.add_zero]
  · have : cN nB B ≤ nB * 1 := sE_le (fun k _ => by split <;> omega)
    omega
theorem wB_le {B : Nat} (h8 : nB ≤ 8) (ht : ∀ b, b < nB → tv b 2 ≤ 99) : wB tv nB B ≤ 792 := by
  have : wB tv nB B ≤ nB * 99 := sE_le (fun k hk => by
    split
    · exact ht k hk
    · exact Nat.zero_le _)
  have : nB * 99 ≤ 8 * 99 := Nat.mul_le_mul_right _ h8
  omega
theorem Pr_lt {z : Bool} (h8 : nB ≤ 8) (ht : ∀ b, b < nB → tv b 2 ≤ 99) (B : Nat) : Pr (prW tv z) nB B < 16777216 := by
  have : Pr (prW tv z) nB B ≤ nB * 1100000 := sE_le (fun k hk => by
    have := ht k hk
    have p9 := pow9 (n := k) (by omega)
    split
    · unfold prW; split <;> omega
    · exact Nat.zero_le _)
  have : nB * 1100000 ≤ 8 * 1100000 := Nat.mul_le_mul_right _ h8
  omega
theorem Pr_inj {z : Bool} (h8 : nB ≤ 8) {B B' : Nat} (hB : B < 2 ^ nB) (hB' : B' < 2 ^ nB) (e : Pr (prW tv z) nB B = Pr (prW tv z) nB B') : B = B' := by
  have p9 := pow9 h8
  rw [Pr_eq hB, Pr_eq hB'] at e
  cases z
  · rw [if_neg (by decide), if_neg (by decide)] at e; omega
  · rw [if_pos rfl, if_pos rfl] at e; omega
theorem h_price (hE : EOk E) (hL : 2 ≤ L) (S : StV h 1 nB nT tv) (ht : ∀ b, b < nB → tv b 2 ≤ 99) {b : Nat} (hb : b < nB) (v : Int32) : RdI E L m_Household_priceOf 45 [.int (nI b), .int v] h (nI (prW tv (decide (v = 0)) b)) := by
  have h8 := S.2.2.2.1
  have tb := ht b hb
  refine B_Household_priceOf hE (by omega) ((store_told hE (by omega) S (k := 2) (by omega) (by omega)).use ⟨fun c => ⟨?_, rfl⟩, fun c => ⟨?_, rfl⟩⟩)
  · have : ∀ w, w < 100 → ∀ b, b < 8 → ((1048576 ||| (nI w <<< ((8 : Int32) &&& 31))) ||| ((1 : Int32) <<< (nI b &&& 31))) = nI (1048576 + 256 * w + 2 ^ b) := by decide +kernel
    rw [this _ (by omega) b (by omega)]
    unfold prW; rw [if_pos (decide_eq_true c)]
  · have : ∀ w, w < 100 → ∀ b, b < 8 → (((nI w <<< ((12 : Int32) &&& 31)) ||| 256) ||| ((1 : Int32) <<< (nI b &&& 31))) = nI (4096 * w + 256 + 2 ^ b) := by decide +kernel
    rw [this _ (by omega) b (by omega)]
    unfold prW; rw [if_neg (by rw [decide_eq_false c]; decide)]
theorem goB_mono {mem : Nat → Nat} {n : Nat} : gMono (goB tv mem n) := fun b x y hs hy => by
  unfold goB at hy ⊢
  rw [Bool.and_eq_true, Bool.and_eq_true, decide_eq_true_eq, decide_eq_true_eq] at hy ⊢
  have sm : ∀ w, sF tv mem w n x ≤ sF tv mem w n y := fun w => sE_mon (fun k _ => by
    by_cases t : x.testBit k = true
    · rw [if_pos t, if_pos (sub_bit hs t)]; exact Nat.le_refl _
    · rw [if_neg t]; exact Nat.zero_le _)
  have s2 := sm 2
  have s0 := sm 0
  exact ⟨psB_iff.mpr (fun k hk t => psB_iff.mp hy.1 k hk (sub_bit hs t)), by omega, by omega⟩
theorem goB_0 {mem : Nat → Nat} {n : Nat} (b : Nat) : goB tv mem n b 0 = true := by
  have s0 : ∀ w, sF tv mem w n 0 = 0 := fun w => sE_zero (fun k _ => by rw [Nat.zero_testBit]; rfl)
  unfold goB
  rw [s0, s0, psB_iff.mpr (fun k _ t => by rw [Nat.zero_testBit] at t; cases t), decide_eq_true (Nat.zero_le _), decide_eq_true (Nat.zero_le _)]; rfl
def skH (h : Hp) (g : Nat → Nat → Bool) (pr : Nat → Nat) (tv : Nat → Nat → Nat) (nB n : Nat) (mem : Nat → Nat) (y : Int32) (h' : Hp) : Prop := EqO (fun x => 39 ≤ x ∧ x ≤ 52) h h' ∧ PickZ h' ∧ PcV h' n mem tv ∧ TkV h' g n nB ∧ ((y = -1 ∧ ∀ B, B < 2 ^ nB → cnF g B nB (2 ^ n - 1) = false) ∨ ∃ B, y = nI B ∧ bsB g pr nB n B)
/-- there is a best lot, if there is one at all -/
theorem bs_some {pr : Nat → Nat} {n : Nat} : ∀ N, (∃ B, B < 2 ^ nB ∧ cnF g B nB (2 ^ n - 1) = true ∧ Pr pr nB B < N) → ∃ B, bsB g pr nB n B
  | 0, ⟨B, _, _, z⟩ => absurd z (Nat.not_lt_zero _)
  | N + 1, ⟨B, b1, b2, b3⟩ => by
    by_cases ex : ∃ B, B < 2 ^ nB ∧ cnF g B nB (2 ^ n - 1) = true ∧ Pr pr nB B < N
    · exact bs_some N ex
    · exact ⟨B, b1, b2, fun B' c1 c2 => Classical.byContradiction fun z => ex ⟨B', c1, c2, by omega⟩⟩
theorem h_seek (hE : EOk E) (hL : 10 ≤ L) (S : StV h 1 nB nT tv) (Z : PickZ h) (ht : ∀ b, b < nB → tv b 2 ≤ 99) (v s : Int32) : ConI E L m_Household_seek 45 [.int v, .int s] h (skH h (goB tv (itK (wS v (fun _ => true))) (nF (wS v (fun _ => true)) 10)) (prW tv (decide (s = 0))) tv nB (nF (wS v (fun _ => true)) 10) (itK (wS v (fun _ => true)))) := by
  have h8 := S.2.2.2.1
  have nle := nF_le (W := wS v (fun _ => true)) (mx := 10)
  refine B_Household_seek hE (by omega) ((pc_pick hE (by omega) S Z v (mx := 10) (by omega)).mono (fun h1 z1 => ?_))
  obtain ⟨e1, Z1, P1⟩ := z1
  generalize nF (wS v (fun _ => true)) 10 = n at *
  generalize itK (wS v (fun _ => true)) = mem at *
  have pw := pow11 (n := n) (by omega)
  have S1 : StV h1 1 nB nT tv := S.keep e1 (by omega) (by omega)
  refine (pc_choices hE (by omega) P1.1).use ((h_note hE (by omega) S1 P1 (by omega)).mono (fun h2 z2 => ?_))
  obtain ⟨e2, T2⟩ := z2
  refine (fillI_ok hE (by omega) (a := 47) (v := 1073741824) k46.2.1.1 (by rw [k46.2.1.2]; decide)).mono (fun h3 z3 => ⟨in47 (k := 0) (by omega), ?_⟩)
  obtain ⟨e3, f3⟩ := z3
  rw [pred1 (by omega)]
  have prl := Pr_lt (z := decide (s = 0)) h8 ht
  have main : ∀ f b, f + b = nB → ∀ h4 pv, EqO (fun x => x = 46 ∨ (47 ≤ x ∧ x ≤ 51)) h1 h4 → TkV h4 (goB tv mem n) n nB → PvV h4 n pv → SdX (goB tv mem n) (prW tv (decide (s = 0))) nB n pv b → (∀ Bs, bsB (goB tv mem n) (prW tv (decide (s = 0))) nB n Bs → CpX (goB tv mem n) (prW tv (decide (s = 0))) nB n Bs pv b) → at_Household_seek_43 E L h4 (skH h (goB tv mem n) (prW tv (decide (s = 0))) tv nB n mem) s (nI (2 ^ n - 1)) (nI b) := by
    intro f
    induction f with
    | zero =>
      intro b hb h4 pv e4 T4 V4 sd cp
      rw [show b = nB by omega] at sd cp ⊢
      have S4 : StV h4 1 nB nT tv := S1.keep e4 (by omega) (by omega)
      obtain ⟨v1, v2⟩ := V4 (2 ^ n - 1) (by omega)
      have fr : EqO (fun x => 39 ≤ x ∧ x ≤ 52) h h4 := (e1.wk (fun x z => by omega)).trans (e4.wk (fun x z => by omega))
      have Z4 : PickZ h4 := PickZ_eq Z1 (fun a q1 q2 => (e4 a (by omega)).2.1)
      have P4 : PcV h4 n mem tv := PcV_eqO P1 e4 (fun x h1 h2 => by omega)
      refine B_Household_seek_43 ((store_boxes hE (by omega) S4).use (brT (nI_le (Nat.le_refl _) (by omega)) ⟨in47 (by omega), ?_⟩))
      rw [nIc (by omega), v1, show (1073741824 : Int32) = nI 1073741824 from rfl, nIe (by omega) (by omega)]
      refine ⟨fun q => ⟨in47 (by omega), fr, Z4, P4, T4, Or.inr ?_⟩, fun q => ⟨fr, Z4, P4, T4, Or.inl ⟨rfl, fun B hB => ?_⟩⟩⟩
      · obtain ⟨B, b1, b2, b3⟩ := sd (2 ^ n - 1) (by omega) (by omega)
        have p9 := pow9 h8
        refine ⟨B, ?_, b1, b2, fun B' c1 c2 => ?_⟩
        · rw [pk_andN (by omega) 8 (by decide), ← b3, Pr_eq b1]
          congr 1
          split <;> omega
        · obtain ⟨Bs, hBs⟩ := bs_some (g := goB tv mem n) (pr := prW tv (decide (s = 0))) (nB := nB) (n := n) (Pr (prW tv (decide (s = 0))) nB B' + 1) ⟨B', c1, c2, by omega⟩
          have y1 := CpX_end hBs (cp Bs hBs)
          have y2 := hBs.2.2 B' c1 c2
          omega
      · cases hc : cnF (goB tv mem n) B nB (2 ^ n - 1)
        · rfl
        · obtain ⟨Bs, hBs⟩ := bs_some (g := goB tv mem n) (pr := prW tv (decide (s = 0))) (nB := nB) (n := n) (Pr (prW tv (decide (s = 0))) nB B + 1) ⟨B, hB, hc, by omega⟩
          have y1 := CpX_end hBs (cp Bs hBs)
          have y2 := prl Bs
          omega
    | succ f ih =>
      intro b hb h4 pv e4 T4 V4 sd cp
      have S4 : StV h4 1 nB nT tv := S1.keep e4 (by omega) (by omega)
      refine B_Household_seek_43 ((store_boxes hE (by omega) S4).use (brF (nI_ge (by omega) (by omega)) ((h_price hE (by omega) S4 ht (show b < nB by omega) s).use ?_)))
      refine (h_offer hE (by omega) goB_mono (fun b => goB_0 b) (fun b => by have := Nat.two_pow_pos b; unfold prW; split <;> omega) prl T4 V4 (show b < nB by omega) sd).mono (fun h5 z5 => ?_)
      obtain ⟨e5, pv5, V5, sd5, cp5⟩ := z5
      rw [nI_1]
      exact ih (b + 1) (by omega) h5 pv5 (e4.trans (e5.wk (fun x z => by omega))) ⟨T4.1, T4.2.1, fun c hc => by rw [(e5 46 (by omega)).2.1]; exact T4.2.2 c hc⟩ V5 sd5 (fun Bs hB => cp5 Bs hB (cp Bs hB))
  refine main nB 0 (by omega) _ (upN (fun _ => 1073741824) 0 0) (((e2.wk (fun x z => by omega)).trans (e3.wk (fun x z => by omega))).trans (EqO.sA (F := fun x => x = 46 ∨ (47 ≤ x ∧ x ≤ 51)) (by omega))) ⟨T2.1, T2.2.1, fun c hc => by rw [sA_A, if_neg (by omega), (e3 46 (by omega)).2.1]; exact T2.2.2 c hc⟩ (fun c hc => ?_) (fun c hc hN => ?_) (fun Bs hB => CpX_0 hB upN_y)
  · rw [sA_A, if_pos rfl, show (0 : Int32).toNatClampNeg = 0 from rfl]
    by_cases d : c = 0
    · rw [if_pos d, d, upN_y]; exact ⟨rfl, by omega⟩
    · rw [if_neg d, upN_n d, f3 c (by rw [k46.2.1.2]; omega)]; exact ⟨rfl, Nat.le_refl _⟩
  · by_cases d : c = 0
    · rw [d]
      refine ⟨0, Nat.two_pow_pos 0, cn_0 (fun b => goB_0 b) nB, ?_⟩
      rw [upN_y]
      exact sE_zero (fun k _ => by rw [Nat.zero_testBit]; rfl)
    · rw [upN_n d] at hN
      exact absurd hN (Nat.lt_irrefl _)
end House5
