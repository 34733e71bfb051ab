/-! ===== things picked, their sums by halves ===== -/
def wS (v : Int32) (P : Nat → Bool) (i : Nat) : Bool := decide (8 ≤ i) && (bO v i && P i)
def sV (tv : Nat → Nat → Nat) (mem : Nat → Nat) (w off c : Nat) : Nat := sE (fun k => if c.testBit k = true then tv (mem (off + k)) w else 0) 6
def mV (tv : Nat → Nat → Nat) (mem : Nat → Nat) (off c : Nat) : Nat := mE (fun k => if c.testBit k = true then tv (mem (off + k)) 1 else 0) 6
def TbV (h : Hp) (tv : Nat → Nat → Nat) (mem : Nat → Nat) (base off c : Nat) : Prop := h.2.1 41 (base + c) = nI (sV tv mem 0 off c) ∧ h.2.1 42 (base + c) = nI (mV tv mem off c) ∧ h.2.1 43 (base + c) = nI (sV tv mem 2 off c) ∧ h.2.1 44 (base + c) = nI (sV tv mem 3 off c)
def MmV (h : Hp) (n : Nat) (mem : Nat → Nat) : Prop := h.1 39 6 = nI n ∧ n ≤ 12 ∧ ∀ k, k < n → h.2.1 40 k = nI (mem k) ∧ mem k < 24
def PcV (h : Hp) (n : Nat) (mem : Nat → Nat) (tv : Nat → Nat → Nat) : Prop := MmV h n mem ∧ (∀ c, c < 2 ^ 6 → c < 2 ^ n → TbV h tv mem 0 0 c) ∧ (∀ c, c < 2 ^ 6 → c < 2 ^ (n - 6) → TbV h tv mem 64 6 c)
/-- sums over all members -/
def sF (tv : Nat → Nat → Nat) (mem : Nat → Nat) (w n c : Nat) : Nat := sE (fun k => if c.testBit k = true then tv (mem k) w else 0) n
theorem bitAdd {k r j : Nat} (hk : k < 6) (hr : r < 2 ^ k) (hj : j < 6) : (r + 2 ^ k).testBit j = (r.testBit j || decide (k = j)) := (show ∀ k, k < 6 → ∀ r, r < 2 ^ k → ∀ j, j < 6 → (r + 2 ^ k).testBit j = (r.testBit j || decide (k = j)) by decide) k hk r hr j hj
theorem mx_n {a b : Nat} (ha : a < 2147483648) (hb : b < 2147483648) : (if nI a < nI b then nI b else nI a) = nI (if a < b then b else a) := by
  by_cases c : a < b
  · rw [if_pos c, if_pos ((nIt ha hb).mpr c)]
  · rw [if_neg c, if_neg (fun z => c ((nIt ha hb).mp z))]
theorem sV_add {tv : Nat → Nat → Nat} {mem : Nat → Nat} {w off k r : Nat} (hk : k < 6) (hr : r < 2 ^ k) : sV tv mem w off (r + 2 ^ k) = sV tv mem w off r + tv (mem (off + k)) w := by
  have e1 : sE (fun j => if k = j then tv (mem (off + k)) w else 0) 6 = tv (mem (off + k)) w := by
    have : ∀ n, k < n → sE (fun j => if k = j then tv (mem (off + k)) w else 0) n = tv (mem (off + k)) w := by
      intro n
      induction n with
      | zero => intro q; omega
      | succ n ih =>
        intro q
        rw [sE_s]
        by_cases e : k = n
        · rw [if_pos e, sE_zero (fun j hj => if_neg (by omega)), Nat.zero_add]
        · rw [if_neg e, ih (by omega), Nat.add_zero]
    exact this 6 hk
  suffices e2 : sV tv mem w off (r + 2 ^ k) = sV tv mem w off r + sE (fun j => if k = j then tv (mem (off + k)) w else 0) 6 by rw [e1] at e2; exact e2
  unfold sV
  rw [← sE_add]
  refine sE_cong (n := 6) (fun j hj => ?_)
  rw [bitAdd hk hr hj]
  by_cases e : k = j
  · subst e
    rw [decide_eq_true rfl, Bool.or_true, if_pos rfl, if_pos rfl, bit_hi hr (Nat.le_refl _), if_neg (by decide), Nat.zero_add]
  · rw [decide_eq_false e, Bool.or_false, if_neg e, Nat.add_zero]
theorem mV_add {tv : Nat → Nat → Nat} {mem : Nat → Nat} {off k r : Nat} (hk : k < 6) (hr : r < 2 ^ k) : mV tv mem off (r + 2 ^ k) = if mV tv mem off r < tv (mem (off + k)) 1 then tv (mem (off + k)) 1 else mV tv mem off r := by
  refine eq_le (fun x => ?_)
  rw [mx_le]
  unfold mV
  rw [mE_le, mE_le]
  constructor
  · intro a
    refine ⟨fun j hj => ?_, ?_⟩
    · have := a j hj
      rw [bitAdd hk hr hj] at this
      by_cases e : r.testBit j = true
      · rw [e, Bool.true_or, if_pos rfl] at this; rw [if_pos e]; exact this
      · rw [if_neg e]; exact Nat.zero_le _
    · have := a k hk
      rw [bitAdd hk hr hk, decide_eq_true rfl, Bool.or_true, if_pos rfl] at this
      exact this
  · rintro ⟨a, b⟩ j hj
    rw [bitAdd hk hr hj]
    by_cases e : k = j
    · subst e; rw [decide_eq_true rfl, Bool.or_true, if_pos rfl]; exact b
    · rw [decide_eq_false e, Bool.or_false]; exact a j hj
theorem sV_0 {tv : Nat → Nat → Nat} {mem : Nat → Nat} {w off : Nat} : sV tv mem w off 0 = 0 := sE_zero (fun k _ => by rw [Nat.zero_testBit]; rfl)
theorem mV_0 {tv : Nat → Nat → Nat} {mem : Nat → Nat} {off : Nat} : mV tv mem off 0 = 0 := Nat.le_zero.mp (mE_le.mpr (fun k _ => by rw [Nat.zero_testBit]; exact Nat.le_refl _))
theorem TbV_0 {h : Hp} {tv : Nat → Nat → Nat} {mem : Nat → Nat} {base off : Nat} (Z : ∀ a, 41 ≤ a → a ≤ 44 → h.2.1 a base = 0) : TbV h tv mem base off 0 := by
  unfold TbV
  rw [sV_0, sV_0, sV_0, mV_0]
  exact ⟨Z 41 (by omega) (by omega), Z 42 (by omega) (by omega), Z 43 (by omega) (by omega), Z 44 (by omega) (by omega)⟩
theorem e41 {h : Hp} {k : Nat} {v : Int32} (r : Nat) (hr : 41 ≤ r ∧ r ≤ 44) : EqO (fun q => 41 ≤ q ∧ q ≤ 44) h (sA h r k v) := EqO.sA (F := fun q => 41 ≤ q ∧ q ≤ 44) hr
section Picked
variable {E : EnvX} {L : Nat} {h : Hp} {nB nT : Nat} {tv : Nat → Nat → Nat} {pk lv : Nat → Nat}
theorem k40 : (akd 40 = 1 ∧ aln 40 = 12) ∧ (akd 41 = 1 ∧ aln 41 = 128) ∧ (akd 42 = 1 ∧ aln 42 = 128) ∧ (akd 43 = 1 ∧ aln 43 = 128) ∧ (akd 44 = 1 ∧ aln 44 = 128) := by decide +kernel
theorem in40 {k : Nat} (hk : k < 12) : inI 40 (nI k) := inI_of k40.1.1 (by rw [k40.1.2]; exact hk) (by rw [k40.1.2]; decide)
theorem in41 {k : Nat} (hk : k < 128) : inI 41 (nI k) ∧ inI 42 (nI k) ∧ inI 43 (nI k) ∧ inI 44 (nI k) := ⟨inI_of k40.2.1.1 (by rw [k40.2.1.2]; exact hk) (by rw [k40.2.1.2]; decide), inI_of k40.2.2.1.1 (by rw [k40.2.2.1.2]; exact hk) (by rw [k40.2.2.1.2]; decide), inI_of k40.2.2.2.1.1 (by rw [k40.2.2.2.1.2]; exact hk) (by rw [k40.2.2.2.1.2]; decide), inI_of k40.2.2.2.2.1 (by rw [k40.2.2.2.2.2]; exact hk) (by rw [k40.2.2.2.2.2]; decide)⟩
theorem pc_member (hE : EOk E) (hL : 1 ≤ L) {n k : Nat} {mem : Nat → Nat} (P : MmV h n mem) (hk : k < n) : RdI E L m_Picked_memberAt 39 [.int (nI k)] h (nI (mem k)) := by
  obtain ⟨p1, p2, p3⟩ := P
  refine B_Picked_memberAt hE hL (brF (nIneg (by omega)) ?_)
  rw [p1, nIc (by omega)]
  exact brF (nI_ge hk (by omega)) (brF (nI_ge (b := 12) (by omega) (by omega)) ⟨in40 (by omega), (p3 k hk).1, rfl⟩)
theorem pc_one (hE : EOk E) (hL : 2 ≤ L) (S : StV h 1 nB nT tv) {a b i x0 x1 x2 x3 : Nat} (ha : a < 128) (hb : b < 128) (hi : i < 24) (q0 : h.2.1 41 a = nI x0) (q1 : h.2.1 42 a = nI x1) (q2 : h.2.1 43 a = nI x2) (q3 : h.2.1 44 a = nI x3) (b1 : x1 < 100000) : WrV E L m_Picked_sumUpOne 39 [.int (nI a), .int (nI b), .int (nI i)] h (sA (sA (sA (sA h 41 b (nI (x0 + tv i 0))) 42 b (nI (if x1 < tv i 1 then tv i 1 else x1))) 43 b (nI (x2 + tv i 2))) 44 b (nI (x3 + tv i 3))) := by
  have t9 : tv i 1 ≤ 9999 := (S.2.2.2.2.2 i 1 hi (by omega)).2
  refine B_Picked_sumUpOne hE (by omega) ⟨(in41 ha).1, (store_told hE (by omega) S (k := 0) hi (by omega)).use ⟨(in41 hb).1, (in41 ha).2.1, ?_⟩⟩
  rw [nIc (by omega), nIc (by omega), q0, nI_add]
  have S1 : StV (sA h 41 b (nI (x0 + tv i 0))) 1 nB nT tv := StV_eq S rfl rfl rfl
  refine (store_told hE (by omega) S1 (k := 1) hi (by omega)).use ⟨rfl, (in41 hb).2.1, (in41 ha).2.2.1, ?_⟩
  rw [show (sA h 41 b (nI (x0 + tv i 0))).2.1 42 a = nI x1 from q1, mx_n (by omega) (by omega)]
  have S2 : StV (sA (sA h 41 b (nI (x0 + tv i 0))) 42 b (nI (if x1 < tv i 1 then tv i 1 else x1))) 1 nB nT tv := StV_eq S1 rfl rfl rfl
  refine (store_told hE (by omega) S2 (k := 2) hi (by omega)).use ⟨(in41 hb).2.2.1, (in41 ha).2.2.2, ?_⟩
  rw [show (sA (sA h 41 b (nI (x0 + tv i 0))) 42 b (nI (if x1 < tv i 1 then tv i 1 else x1))).2.1 43 a = nI x2 from q2, nI_add]
  have S3 : StV (sA (sA (sA h 41 b (nI (x0 + tv i 0))) 42 b (nI (if x1 < tv i 1 then tv i 1 else x1))) 43 b (nI (x2 + tv i 2))) 1 nB nT tv := StV_eq S2 rfl rfl rfl
  refine (store_told hE (by omega) S3 (k := 3) hi (by omega)).use ⟨(in41 hb).2.2.2, ?_⟩
  rw [show (sA (sA (sA h 41 b (nI (x0 + tv i 0))) 42 b (nI (if x1 < tv i 1 then tv i 1 else x1))) 43 b (nI (x2 + tv i 2))).2.1 44 a = nI x3 from q3, nI_add]
theorem mV_lt {mem : Nat → Nat} {n off c : Nat} (S : StV h 1 nB nT tv) (hm : ∀ k, off + k < n → mem (off + k) < 24) (hc : c < 2 ^ (n - off)) : mV tv mem off c < 100000 := by
  have : mV tv mem off c ≤ 9999 := mE_le.mpr (fun k hk => by
    by_cases e : c.testBit k = true
    · rw [if_pos e]
      refine (S.2.2.2.2.2 _ 1 (hm k ?_) (by omega)).2
      refine Classical.byContradiction fun z => ?_
      rw [bit_hi hc (by omega)] at e; cases e
    · rw [if_neg e]; exact Nat.zero_le _)
  omega
theorem pc_sumUp (hE : EOk E) (hL : 4 ≤ L) (S : StV h 1 nB nT tv) {n off base hm : Nat} {mem : Nat → Nat} (P : MmV h n mem) (hb : (off = 0 ∧ base = 0) ∨ (off = 6 ∧ base = 64)) (h6 : hm ≤ 6) (hn : off + hm ≤ n) (Z : ∀ a, 41 ≤ a → a ≤ 44 → h.2.1 a base = 0) : ConV E L m_Picked_sumUp 39 [.int (nI off), .int (nI hm)] h (fun h' => EqO (fun q => 41 ≤ q ∧ q ≤ 44) h h' ∧ (∀ a j, (j ≤ base ∨ base + 64 ≤ j) → h'.2.1 a j = h.2.1 a j) ∧ ∀ c, c < 2 ^ hm → TbV h' tv mem base off c) := by
  have mem24 : ∀ k, k < n → mem k < 24 := fun k hk => (P.2.2 k hk).2
  have n12 := P.2.1
  have l14 : ∀ f k, f + k = hm → ∀ h1, EqO (fun q => 41 ≤ q ∧ q ≤ 44) h h1 → (∀ a j, (j ≤ base ∨ base + 64 ≤ j) → h1.2.1 a j = h.2.1 a j) → (∀ c, c < 2 ^ k → TbV h1 tv mem base off c) → at_Picked_sumUp_14 E L h1 (fun h' => EqO (fun q => 41 ≤ q ∧ q ≤ 44) h h' ∧ (∀ a j, (j ≤ base ∨ base + 64 ≤ j) → h'.2.1 a j = h.2.1 a j) ∧ ∀ c, c < 2 ^ hm → TbV h' tv mem base off c) (nI off) (nI hm) (nI base) (nI k) := by
    intro f
    induction f with
    | zero =>
      intro k hk h1 e o t
      rw [show k = hm by omega] at t ⊢
      exact B_Picked_sumUp_14 (brT (nI_le (Nat.le_refl _) (by omega)) ⟨e, o, t⟩)
    | succ f ih =>
      intro k hk h1 e o t
      have P1 : MmV h1 n mem := by
        obtain ⟨p1, p2, p3⟩ := P
        exact ⟨by rw [(e 39 (by omega)).1]; exact p1, p2, fun k hk => by rw [(e 40 (by omega)).2.1]; exact p3 k hk⟩
      have k6 : k < 6 := by omega
      have pw : 2 ^ k ≤ 32 := (show ∀ k, k < 6 → 2 ^ k ≤ 32 by decide) k k6
      refine B_Picked_sumUp_14 (brF (nI_ge (by omega) (by omega)) (brF (nI_ge (b := 6) k6 (by omega)) ?_))
      rw [nI_add]
      refine (pc_member hE (by omega) P1 (show off + k < n by omega)).use ?_
      have l40 : ∀ g r, g + r = 2 ^ k → ∀ h2, EqO (fun q => 41 ≤ q ∧ q ≤ 44) h h2 → (∀ a j, (j ≤ base ∨ base + 64 ≤ j) → h2.2.1 a j = h.2.1 a j) → (∀ c, c < r + 2 ^ k → TbV h2 tv mem base off c) → at_Picked_sumUp_40 E L h2 (fun h' => EqO (fun q => 41 ≤ q ∧ q ≤ 44) h h' ∧ (∀ a j, (j ≤ base ∨ base + 64 ≤ j) → h'.2.1 a j = h.2.1 a j) ∧ ∀ c, c < 2 ^ hm → TbV h' tv mem base off c) (nI off) (nI hm) (nI base) (nI k) (nI (mem (off + k))) (nI r) := by
        intro g
        induction g with
        | zero =>
          intro r hr h2 e2 o2 t2
          refine B_Picked_sumUp_40 ?_
          rw [shlN (by omega), nI_1]
          refine brT (nI_le (by omega) (by omega)) (ih (k + 1) (by omega) h2 e2 o2 (fun c hc => t2 c ?_))
          rw [Nat.pow_succ] at hc; omega
        | succ g ihg =>
          intro r hr h2 e2 o2 t2
          have S2 : StV h2 1 nB nT tv := S.keep e2 (by omega) (by omega)
          obtain ⟨x0, x1, x2, x3⟩ := t2 r (by omega)
          refine B_Picked_sumUp_40 ?_
          rw [shlN (by omega), nI_add, nI_add]
          refine brF (nI_ge (by omega) (by omega)) ((pc_one hE (by omega) S2 (a := base + r) (b := base + r + 2 ^ k) (by omega) (by omega) (mem24 (off + k) (by omega)) x0 x1 x2 x3 (mV_lt (n := off + hm) S (fun j hj => mem24 (off + j) (by omega)) (by
            have : 2 ^ k ≤ 2 ^ (off + hm - off) := Nat.pow_le_pow_right (by decide) (by omega)
            omega))).use ?_)
          have neq : ∀ c, c ≠ r + 2 ^ k → base + c ≠ base + r + 2 ^ k := fun c hc => by omega
          rw [nI_1]
          refine ihg (r + 1) (by omega) _ ((((e2.trans (e41 41 (by decide))).trans (e41 42 (by decide))).trans (e41 43 (by decide))).trans (e41 44 (by decide))) (fun a j hj => ?_) (fun c hc => ?_)
          · have nj : j ≠ base + r + 2 ^ k := by omega
            rw [sA_A, sA_A, sA_A, sA_A, ← o2 a j hj]
            simp only [if_neg nj, ite_self]
          · by_cases d : c = r + 2 ^ k
            · unfold TbV
              rw [d, sV_add k6 (by omega), sV_add k6 (by omega), sV_add k6 (by omega), mV_add k6 (by omega), ← Nat.add_assoc]
              refine ⟨?_, ?_, ?_, ?_⟩
              · rw [sA_A, if_neg (by omega), sA_A, if_neg (by omega), sA_A, if_neg (by omega), sA_A, if_pos rfl, if_pos rfl]
              · rw [sA_A, if_neg (by omega), sA_A, if_neg (by omega), sA_A, if_pos rfl, if_pos rfl]
              · rw [sA_A, if_neg (by omega), sA_A, if_pos rfl, if_pos rfl]
              · rw [sA_A, if_pos rfl, if_pos rfl]
            · obtain ⟨y0, y1, y2, y3⟩ := t2 c (by omega)
              have nj := neq c d
              unfold TbV
              refine ⟨?_, ?_, ?_, ?_⟩
              · rw [sA_A, if_neg (by omega), sA_A, if_neg (by omega), sA_A, if_neg (by omega), sA_A, if_pos rfl, if_neg nj]; exact y0
              · rw [sA_A, if_neg (by omega), sA_A, if_neg (by omega), sA_A, if_pos rfl, if_neg nj, sA_A, if_neg (by omega)]; exact y1
              · rw [sA_A, if_neg (by omega), sA_A, if_pos rfl, if_neg nj, sA_A, if_neg (by omega), sA_A, if_neg (by omega)]; exact y2
              · rw [sA_A, if_pos rfl, if_neg nj, sA_A, if_neg (by omega), sA_A, if_neg (by omega), sA_A, if_neg (by omega)]; exact y3
      exact l40 (2 ^ k) 0 (by omega) h1 e o (fun c hc => t c (by omega))
  have go := l14 hm 0 (by omega) h EqO.rfl' (fun _ _ _ => rfl) (fun c hc => by
    rw [show c = 0 by have : (2:Nat) ^ 0 = 1 := rfl; omega]; exact TbV_0 Z)
  refine B_Picked_sumUp hE (by omega) ?_
  rcases hb with ⟨rfl, rfl⟩ | ⟨rfl, rfl⟩
  · exact brT' rfl go
  · exact brF' (by decide) go
end Picked
