section HoldsP
/-- the greatest part of l, at most y, that does; 0 if none -/
def mxQ (Q : Nat → Bool) (l : Nat) : Nat → Nat
  | 0 => 0
  | y + 1 => if (y + 1) &&& l = y + 1 ∧ Q (y + 1) = true then y + 1 else mxQ Q l y
theorem mxQ_s (Q : Nat → Bool) (l y : Nat) : mxQ Q l (y + 1) = if (y + 1) &&& l = y + 1 ∧ Q (y + 1) = true then y + 1 else mxQ Q l y := rfl
theorem mxQ_le (Q : Nat → Bool) (l : Nat) : ∀ y, mxQ Q l y ≤ y
  | 0 => Nat.le_refl _
  | y + 1 => by
    have := mxQ_le Q l y
    rw [mxQ_s]; split <;> omega
theorem mxQ_sub (Q : Nat → Bool) (l : Nat) : ∀ y, mxQ Q l y &&& l = mxQ Q l y
  | 0 => Nat.zero_and l
  | y + 1 => by
    rw [mxQ_s]
    split
    · rename_i z; exact z.1
    · exact mxQ_sub Q l y
theorem mxQ_yes {Q : Nat → Bool} {l : Nat} : ∀ {y x}, x ≤ y → x &&& l = x → Q x = true → Q (mxQ Q l y) = true ∧ x ≤ mxQ Q l y
  | 0, x, h, _, hq => by rw [show x = 0 by omega] at hq ⊢; exact ⟨hq, Nat.le_refl _⟩
  | y + 1, x, h, hs, hq => by
    rw [mxQ_s]
    by_cases z : (y + 1) &&& l = y + 1 ∧ Q (y + 1) = true
    · rw [if_pos z]; exact ⟨z.2, h⟩
    · rw [if_neg z]
      have : x ≠ y + 1 := fun w => z (by rw [← w]; exact ⟨hs, hq⟩)
      exact mxQ_yes (by omega) hs hq
theorem mxQ_skip {Q : Nat → Bool} {l y : Nat} : ∀ a, (∀ x, y < x → x ≤ y + a → x &&& l = x → Q x = false) → mxQ Q l (y + a) = mxQ Q l y
  | 0, _ => rfl
  | a + 1, h => by
    show mxQ Q l (y + a + 1) = _
    rw [mxQ_s, if_neg (fun z => by rw [h (y + a + 1) (by omega) (by omega) z.1] at z; cases z.2)]
    exact mxQ_skip a (fun x h1 h2 => h x h1 (by omega))
/-- the boxes of a lot from the place j on -/
def ubM (B j : Nat) : Nat := tkM (fun b => B.testBit b && decide (j ≤ cB (fun b => B.testBit b) b)) 8
theorem ub_bit {B j b : Nat} (hB : B < 2 ^ 8) : (ubM B j).testBit b = (B.testBit b && decide (j ≤ cB (fun b => B.testBit b) b)) := by
  unfold ubM
  rw [tk_bit]
  by_cases h : b < 8
  · rw [decide_eq_true h, Bool.true_and]
  · rw [decide_eq_false h, bit_hi hB (by omega)]; rfl
theorem ub_lt {B j : Nat} : ubM B j < 256 := tk_lt _ 8
theorem cB_8 {B : Nat} (hB : B < 2 ^ 8) {k : Nat} (hk : 8 ≤ k) : cB (fun b => B.testBit b) k = cB (fun b => B.testBit b) 8 := by
  unfold cB
  rw [show k = 8 + (k - 8) by omega, sE_split, sE_zero (n := k - 8) (fun i _ => if_neg (by show ¬ B.testBit (8 + i) = true; rw [bit_hi hB (by omega)]; decide)), Nat.add_zero]
theorem row_at {B j : Nat} (hB : B < 2 ^ 8) (hj : j < cB (fun b => B.testBit b) 8) : itK (fun b => B.testBit b) j < 8 ∧ B.testBit (itK (fun b => B.testBit b) j) = true ∧ cB (fun b => B.testBit b) (itK (fun b => B.testBit b) j) = j := by
  obtain ⟨a, b, c⟩ := itK_yes (W := fun b => B.testBit b) (k := j) (by rw [cB_8 hB (by omega)]; exact hj)
  refine ⟨Classical.byContradiction fun z => ?_, b, c⟩
  rw [bit_hi hB (by omega)] at b; cases b
theorem ub_del {B j : Nat} (hB : B < 2 ^ 8) (hj : j < cB (fun b => B.testBit b) 8) : (ubM B j).testBit (itK (fun b => B.testBit b) j) = true ∧ del (ubM B j) (itK (fun b => B.testBit b) j) = ubM B (j + 1) := by
  obtain ⟨a, b, c⟩ := row_at hB hj
  have t : (ubM B j).testBit (itK (fun b => B.testBit b) j) = true := by rw [ub_bit hB, b, c, decide_eq_true (Nat.le_refl j)]; rfl
  refine ⟨t, Nat.eq_of_testBit_eq (fun i => ?_)⟩
  rw [del_bit t, ub_bit hB, ub_bit hB]
  cases hb : B.testBit i
  · rfl
  · rw [Bool.true_and, Bool.true_and]
    by_cases e : itK (fun b => B.testBit b) j = i
    · rw [decide_eq_true e, ← e, c, decide_eq_false (show ¬ j + 1 ≤ j by omega)]; simp
    · rw [decide_eq_false e]
      have : cB (fun b => B.testBit b) i ≠ j := fun w => e (cB_inj (W := fun b => B.testBit b) b hb (by omega))
      rw [show decide (j ≤ cB (fun b => B.testBit b) i) = decide (j + 1 ≤ cB (fun b => B.testBit b) i) from decide_eq_decide.mpr (by omega)]; simp
theorem ub_end {B : Nat} (hB : B < 2 ^ 8) : ubM B (cB (fun b => B.testBit b) 8) = 0 := Nat.eq_of_testBit_eq (fun i => by
  rw [ub_bit hB, Nat.zero_testBit]
  cases hb : B.testBit i
  · rfl
  · have i8 : i < 8 := Classical.byContradiction fun z => by rw [bit_hi hB (by omega)] at hb; cases hb
    have := cB_lt (W := fun b => B.testBit b) hb i8
    rw [decide_eq_false (by omega)]; rfl)
theorem ub_up {B b : Nat} (hB : B < 2 ^ 8) : upB B b = ubM B (cB (fun b => B.testBit b) b) := Nat.eq_of_testBit_eq (fun i => by
  rw [up_bit, ub_bit hB]
  cases hb : B.testBit i
  · rw [Bool.and_false, Bool.false_and]
  · rw [Bool.and_true, Bool.true_and]
    by_cases e : b ≤ i
    · rw [decide_eq_true e, decide_eq_true (cB_mono _ e)]
    · have := cB_lt (W := fun b => B.testBit b) hb (show i < b by omega)
      rw [decide_eq_false e, decide_eq_false (by omega)])
end HoldsP
section Holds
variable {E : EnvX} {h : Hp} {nB : Nat} {g : Nat → Nat → Bool} {n B : Nat}
/-- boxes lined up; nothing is hopeless that isn't -/
def LnV (h : Hp) (B : Nat) : Prop := h.1 45 9 = nI (cB (fun b => B.testBit b) 8) ∧ ∀ j, j < cB (fun b => B.testBit b) 8 → h.2.1 52 j = nI (itK (fun b => B.testBit b) j)
def HpV (h : Hp) (g : Nat → Nat → Bool) (nB n B : Nat) : Prop := ∀ c, c < 2 ^ n → ∃ v, h.2.1 48 c = nI v ∧ v < 256 ∧ ∀ j, j < cB (fun b => B.testBit b) 8 → v.testBit j = true → cnF g (ubM B j) nB c = false
def ctPo (h : Hp) (g : Nat → Nat → Bool) (nB n B j c : Nat) (y : Int32) (h' : Hp) : Prop := EqO (fun x => x = 48) h h' ∧ HpV h' g nB n B ∧ ((y = 1 ∧ cnF g (ubM B j) nB c = true) ∨ (y = 0 ∧ cnF g (ubM B j) nB c = false))
theorem h_canTake (hE : EOk E) (hg : gMono g) (g0 : ∀ b, g b 0 = true) (hB : B < 2 ^ nB) (h8 : nB ≤ 8) : ∀ m j, m + j = cB (fun b => B.testBit b) 8 → ∀ (L : Nat), 4 + m ≤ L → ∀ h, TkV h g n nB → LnV h B → HpV h g nB n B → ∀ c, c < 2 ^ n → ConI E L m_Household_canTake 45 [.int (nI j), .int (nI c)] h (ctPo h g nB n B j c) := by
  have p9 := pow9 h8
  have hB8 : B < 2 ^ 8 := by have : 2 ^ nB ≤ 2 ^ 8 := Nat.pow_le_pow_right (by decide) h8; omega
  have R8 := cB_le (fun b => B.testBit b) 8
  intro m
  induction m with
  | zero =>
    intro j hj L hL h T Ln Hv c hc
    have pw := pow11 T.1
    refine B_Household_canTake hE (by omega) ?_
    rw [Ln.1, nI_z (by omega)]
    refine ⟨fun c0 => brT (nI_le (by omega) (by omega)) ⟨EqO.rfl', Hv, Or.inr ⟨rfl, ?_⟩⟩, fun c0 => ⟨EqO.rfl', Hv, Or.inl ⟨rfl, by rw [c0]; exact cn_0 g0 nB⟩⟩⟩
    have s := cnF_skip (g := g) (B := 0) (k := 0) nB (fun b _ _ => Nat.zero_testBit b) c
    rw [Nat.zero_add] at s
    rw [show j = cB (fun b => B.testBit b) 8 by omega, ub_end hB8, s]
    exact decide_eq_false c0
  | succ m ih =>
    intro j hj L hL h T Ln Hv c hc
    have pw := pow11 T.1
    have jR : j < cB (fun b => B.testBit b) 8 := by omega
    obtain ⟨r1, r2, r3⟩ := row_at hB8 jR
    obtain ⟨d1, d2⟩ := ub_del hB8 jR
    have rn : itK (fun b => B.testBit b) j < nB := Classical.byContradiction fun z => by rw [bit_hi hB (by omega)] at r2; cases r2
    obtain ⟨v, v1, v2, v3⟩ := Hv c hc
    refine B_Household_canTake hE (by omega) ?_
    rw [Ln.1, nI_z (by omega), nIc (by omega), v1, bitN (by omega) (by omega)]
    refine ⟨fun c0 => brF (nI_ge (by omega) (by omega)) ⟨in48 (by omega), ?_⟩, fun c0 => ⟨EqO.rfl', Hv, Or.inl ⟨rfl, by rw [c0]; exact cn_0 g0 nB⟩⟩⟩
    by_cases vb : v.testBit j = true
    · rw [if_pos vb]
      exact brF (by decide) ⟨EqO.rfl', Hv, Or.inr ⟨rfl, v3 j jR vb⟩⟩
    · rw [if_neg vb]
      refine brT rfl ?_
      -- all parts of c, from the greatest on
      have last : ∀ h1, EqO (fun x => x = 48) h h1 → HpV h1 g nB n B → (∀ x, x &&& c = x → g (itK (fun b => B.testBit b) j) x = true → noMore g (itK (fun b => B.testBit b) j) x c → cnF g (ubM B (j + 1)) nB (c ^^^ x) = false) → at_Household_canTake_31 E L h1 (ctPo h g nB n B j c) (nI j) (nI c) (-1) := fun h1 e1 H1 a => by
        have no : cnF g (ubM B j) nB c = false := by
          cases hh : cnF g (ubM B j) nB c
          · rfl
          · obtain ⟨x, x1, x2, x3⟩ := (cn_any d1 nB rn c).mp hh
            rw [d2] at x3
            obtain ⟨p, p1, p2, p3, p4⟩ := grow (g := g) (b := itK (fun b => B.testBit b) j) (c - x + 1) x (by omega) x1 x2
            have m3 : cnF g (ubM B (j + 1)) nB (c ^^^ p) = true := by
              refine cn_mono hg nB (sub_of (fun i hi => ?_)) x3
              rw [Nat.testBit_xor] at hi ⊢
              cases hr : c.testBit i
              · rw [hr] at hi
                have := sub_bit p1 (show p.testBit i = true by simpa using hi)
                rw [hr] at this; cases this
              · rw [hr] at hi
                cases ha : x.testBit i
                · rfl
                · have := sub_bit p2 ha
                  rw [this] at hi; cases hi
            rw [a p p1 p3 p4] at m3; cases m3
        obtain ⟨w, w1, w2, w3⟩ := H1 c hc
        have ol : w ||| 2 ^ j < 256 := Nat.or_lt_two_pow (n := 8) (by omega) (Nat.pow_lt_pow_right (by decide) (by omega))
        refine B_Household_canTake_31 (brT (by decide) ⟨in48 (by omega), in48 (by omega), ?_⟩)
        rw [nIc (by omega), w1, shlN (by omega), orN (by omega) (by have := pow9 (n := j) (by omega); omega)]
        refine ⟨e1.trans (EqO.sA (F := fun x => x = 48) rfl), fun c' hc' => ?_, Or.inr ⟨rfl, no⟩⟩
        rw [sA_A, if_pos rfl]
        by_cases d : c' = c
        · rw [if_pos d, d]
          refine ⟨w ||| 2 ^ j, rfl, ol, fun i hi hb => ?_⟩
          rw [orb] at hb
          by_cases e : j = i
          · rw [← e]; exact no
          · rw [decide_eq_false e, Bool.or_false] at hb; exact w3 i hi hb
        · rw [if_neg d]; exact H1 c' hc'
      have main : ∀ N a, a < N → a &&& c = a → ∀ h1, EqO (fun x => x = 48) h h1 → HpV h1 g nB n B → (∀ x, a < x → x &&& c = x → g (itK (fun b => B.testBit b) j) x = true → noMore g (itK (fun b => B.testBit b) j) x c → cnF g (ubM B (j + 1)) nB (c ^^^ x) = false) → at_Household_canTake_31 E L h1 (ctPo h g nB n B j c) (nI j) (nI c) (nI a) := by
        intro N
        induction N with
        | zero => intro a ha; omega
        | succ N ihN =>
          intro a ha as' h1 e1 H1 up
          have al := sbs_le as'
          have T1 : TkV h1 g n nB := ⟨T.1, T.2.1, fun c hc => by rw [(e1 46 (by omega)).2.1]; exact T.2.2 c hc⟩
          have Ln1 : LnV h1 B := ⟨by rw [(e1 45 (by omega)).1]; exact Ln.1, fun j hj => by rw [(e1 52 (by omega)).2.1]; exact Ln.2 j hj⟩
          have nx : ∀ h2, EqO (fun x => x = 48) h h2 → HpV h2 g nB n B → (g (itK (fun b => B.testBit b) j) a = true → noMore g (itK (fun b => B.testBit b) j) a c → cnF g (ubM B (j + 1)) nB (c ^^^ a) = false) → ((¬ nI a = 0 → at_Household_canTake_31 E L h2 (ctPo h g nB n B j c) (nI j) (nI c) ((nI a - 1) &&& nI c)) ∧ (nI a = 0 → at_Household_canTake_31 E L h2 (ctPo h g nB n B j c) (nI j) (nI c) (-1))) := fun h2 e2 H2 fa => by
            rw [nI_z (by omega)]
            refine ⟨fun a0 => ?_, fun a0 => last h2 e2 H2 (fun x x1 x2 x3 => ?_)⟩
            · rw [pred1 (by omega), andN (by omega) (by omega)]
              have l2 : (a - 1) &&& c ≤ a - 1 := Nat.and_le_left
              refine ihN _ (by omega) (and_sub _ _) h2 e2 H2 (fun x lx x1 x2 x3 => ?_)
              by_cases d : x = a
              · rw [d] at x2 x3 ⊢; exact fa x2 x3
              · by_cases w : a < x
                · exact up x w x1 x2 x3
                · have := next_part c a x as' x1 (by omega); omega
            · by_cases d : x = a
              · rw [d] at x2 x3 ⊢; exact fa x2 x3
              · exact up x (by omega) x1 x2 x3
          refine B_Household_canTake_31 (brF (nIneg (by omega)) ⟨(in49 (by omega)).2.2.2, ?_⟩)
          rw [nIc (by omega), Ln1.2 j jR]
          refine (h_takes hE (by omega) T1 rn (show a < 2 ^ n by omega)).use ?_
          by_cases ga : g (itK (fun b => B.testBit b) j) a = true
          · rw [if_pos ga]
            obtain ⟨x, rx, hx⟩ := h_noMore hE (L := L - 1) (by omega) T1 rn hc as'
            refine brF (by decide) ⟨(in49 (by omega)).2.2.2, ?_⟩
            rw [Ln1.2 j jR]
            refine rx.use ?_
            rcases hx with ⟨rfl, nm⟩ | ⟨rfl, nm⟩
            · refine brF (by decide) (brF (by decide) ?_)
              rw [nI_1, xorN (by omega) (by omega)]
              refine (ih (j + 1) (by omega) (L - 1) (by omega) h1 T1 Ln1 H1 (c ^^^ a) (Nat.xor_lt_two_pow hc (by omega))).mono (fun y h2 z2 => ?_)
              obtain ⟨e2, H2, hy⟩ := z2
              rcases hy with ⟨rfl, cy⟩ | ⟨rfl, cy⟩
              · refine brF (by decide) ⟨e1.trans e2, H2, Or.inl ⟨rfl, (cn_any d1 nB rn c).mpr ⟨a, as', ga, by rw [d2]; exact cy⟩⟩⟩
              · exact brT rfl (nx h2 (e1.trans e2) H2 (fun _ _ => cy))
            · exact brT rfl (brT rfl (nx h1 e1 H1 (fun _ w => absurd w nm)))
          · rw [if_neg ga]
            exact brT rfl (brT rfl (nx h1 e1 H1 (fun w => absurd w ga)))
      exact main (c + 1) c (by omega) (Nat.and_self _) h EqO.rfl' Hv (fun x lx x1 _ _ => by have := sbs_le x1; omega)
theorem h_greatest (hE : EOk E) {L : Nat} (hg : gMono g) (g0 : ∀ b, g b 0 = true) (hB : B < 2 ^ nB) (h8 : nB ≤ 8) (hL : 16 ≤ L) {j l : Nat} (hj : j < cB (fun b => B.testBit b) 8) (T : TkV h g n nB) (Ln : LnV h B) (Hv : HpV h g nB n B) (hl : l < 2 ^ n) : ConI E L m_Household_greatestPart 45 [.int (nI j), .int (nI l)] h (fun y h' => EqO (fun x => x = 48) h h' ∧ HpV h' g nB n B ∧ y = nI (mxQ (fun x => g (itK (fun b => B.testBit b) j) x && cnF g (ubM B (j + 1)) nB (l ^^^ x)) l l)) := by
  have p9 := pow9 h8
  have hB8 : B < 2 ^ 8 := by have : 2 ^ nB ≤ 2 ^ 8 := Nat.pow_le_pow_right (by decide) h8; omega
  have R8 := cB_le (fun b => B.testBit b) 8
  have pw := pow11 T.1
  obtain ⟨r1, r2, r3⟩ := row_at hB8 hj
  have rn : itK (fun b => B.testBit b) j < nB := Classical.byContradiction fun z => by rw [bit_hi hB (by omega)] at r2; cases r2
  refine B_Household_greatestPart hE (by omega) ?_
  generalize hQ : (fun x => g (itK (fun b => B.testBit b) j) x && cnF g (ubM B (j + 1)) nB (l ^^^ x)) = Q
  have main : ∀ N a, a < N → a &&& l = a → ∀ h1, EqO (fun x => x = 48) h h1 → HpV h1 g nB n B → (∀ x, a < x → x &&& l = x → Q x = false) → at_Household_greatestPart_2 E L h1 (fun y h' => EqO (fun x => x = 48) h h' ∧ HpV h' g nB n B ∧ y = nI (mxQ Q l l)) (nI j) (nI l) (nI a) := by
    intro N
    induction N with
    | zero => intro a ha; omega
    | succ N ihN =>
      intro a ha as' h1 e1 H1 up
      have al := sbs_le as'
      have em : mxQ Q l l = mxQ Q l a := by
        have := mxQ_skip (Q := Q) (l := l) (y := a) (l - a) (fun x h1 h2 h3 => up x h1 h3)
        rw [show a + (l - a) = l by omega] at this; exact this
      have T1 : TkV h1 g n nB := ⟨T.1, T.2.1, fun c hc => by rw [(e1 46 (by omega)).2.1]; exact T.2.2 c hc⟩
      have Ln1 : LnV h1 B := ⟨by rw [(e1 45 (by omega)).1]; exact Ln.1, fun j hj => by rw [(e1 52 (by omega)).2.1]; exact Ln.2 j hj⟩
      refine B_Household_greatestPart_2 ?_
      rw [nI_le0 (by omega)]
      refine ⟨fun a0 => ⟨e1, H1, by rw [em, a0]; rfl⟩, fun a0 => ⟨(in49 (by omega)).2.2.2, ?_⟩⟩
      have nx : ∀ h2, EqO (fun x => x = 48) h h2 → HpV h2 g nB n B → Q a = false → at_Household_greatestPart_2 E L h2 (fun y h' => EqO (fun x => x = 48) h h' ∧ HpV h' g nB n B ∧ y = nI (mxQ Q l l)) (nI j) (nI l) ((nI a - 1) &&& nI l) := fun h2 e2 H2 fa => by
        rw [pred1 (by omega), andN (by omega) (by omega)]
        have l2 : (a - 1) &&& l ≤ a - 1 := Nat.and_le_left
        refine ihN _ (by omega) (and_sub _ _) h2 e2 H2 (fun x lx x1 => ?_)
        by_cases d : x = a
        · rw [d]; exact fa
        · by_cases w : a < x
          · exact up x w x1
          · have := next_part l a x as' x1 (by omega); omega
      rw [nIc (by omega), Ln1.2 j hj]
      refine (h_takes hE (by omega) T1 rn (show a < 2 ^ n by omega)).use ?_
      by_cases ga : g (itK (fun b => B.testBit b) j) a = true
      · rw [if_pos ga, nI_1, xorN (by omega) (by omega)]
        refine brF (by decide) ((h_canTake hE hg g0 hB h8 (cB (fun b => B.testBit b) 8 - (j + 1)) (j + 1) (by omega) (L - 1) (by omega) h1 T1 Ln1 H1 (l ^^^ a) (Nat.xor_lt_two_pow hl (by omega))).mono (fun y h2 z2 => ?_))
        obtain ⟨e2, H2, hy⟩ := z2
        rcases hy with ⟨rfl, cy⟩ | ⟨rfl, cy⟩
        · refine brF (by decide) ⟨e1.trans e2, H2, ?_⟩
          obtain ⟨a', ea⟩ : ∃ a', a = a' + 1 := ⟨a - 1, by omega⟩
          rw [em]
          congr 1
          rw [ea, mxQ_s, if_pos ⟨by rw [← ea]; exact as', by rw [← ea, ← hQ]; show (g (itK (fun b => B.testBit b) j) a && cnF g (ubM B (j + 1)) nB (l ^^^ a)) = true; rw [ga, cy]; rfl⟩]
        · exact brT rfl (nx h2 (e1.trans e2) H2 (by rw [← hQ]; show (g (itK (fun b => B.testBit b) j) a && cnF g (ubM B (j + 1)) nB (l ^^^ a)) = false; rw [cy, Bool.and_false]))
      · rw [if_neg ga]
        exact brT rfl (nx h1 e1 H1 (by rw [← hQ]; show (g (itK (fun b => B.testBit b) j) a && cnF g (ubM B (j + 1)) nB (l ^^^ a)) = false; rw [show g (itK (fun b => B.testBit b) j) a = false by simpa using ga]; rfl))
  exact main (l + 1) l (by omega) (Nat.and_self _) h EqO.rfl' Hv (fun x lx x1 => by have := sbs_le x1; omega)
/-- which box it is in, + 1 -/
def gpt (g : Nat → Nat → Bool) (nB B j l : Nat) : Nat := mxQ (fun x => g (itK (fun b => B.testBit b) j) x && cnF g (ubM B (j + 1)) nB (l ^^^ x)) l l
def rsF (g : Nat → Nat → Bool) (mem : Nat → Nat) (nB n B i : Nat) : Nat → Nat → Nat → Nat
  | 0, _, _ => 0
  | f + 1, j, l => if memP mem n (gpt g nB B j l) i = true then itK (fun b => B.testBit b) j + 1 else rsF g mem nB n B i f (j + 1) (l ^^^ gpt g nB B j l)
theorem h_boxFor (hE : EOk E) {L : Nat} {tv : Nat → Nat → Nat} {mem : Nat → Nat} (hg : gMono g) (g0 : ∀ b, g b 0 = true) (hB : B < 2 ^ nB) (h8 : nB ≤ 8) (hL : 18 ≤ L) (T : TkV h g n nB) (P : PcV h n mem tv) {i : Nat} (hi : i < 24) : ConI E L m_Household_boxFor 45 [.int (nI i), .int (nI B)] h (fun y h' => EqO (fun x => x = 45 ∨ x = 48 ∨ x = 52) h h' ∧ y = bx (rsF g mem nB n B i (cB (fun b => B.testBit b) 8) 0 (2 ^ n - 1))) := by
  have p9 := pow9 h8
  have pw := pow11 T.1
  have hB8 : B < 2 ^ 8 := by have : 2 ^ nB ≤ 2 ^ 8 := Nat.pow_le_pow_right (by decide) h8; omega
  have R8 := cB_le (fun b => B.testBit b) 8
  -- the boxes in a row
  have lu : ConV E (L - 1) m_Household_lineUp 45 [.int (nI B)] h (fun h' => EqO (fun x => x = 45 ∨ x = 52) h h' ∧ LnV h' B) := by
    refine B_Household_lineUp hE (by omega) ?_
    have main : ∀ f b, f + b = 8 → ∀ h1, EqO (fun x => x = 45 ∨ x = 52) h h1 → h1.1 45 9 = nI (cB (fun b => B.testBit b) b) → (∀ j, j < cB (fun b => B.testBit b) b → h1.2.1 52 j = nI (itK (fun b => B.testBit b) j)) → at_Household_lineUp_7 E (L - 1) h1 (fun h' => EqO (fun x => x = 45 ∨ x = 52) h h' ∧ LnV h' B) (nI B) (nI b) := by
      intro f
      induction f with
      | zero =>
        intro b hb h1 e1 a1 a2
        rw [show b = 8 by omega] at a1 a2 ⊢
        exact B_Household_lineUp_7 (brT (nEnd 8) ⟨e1, a1, a2⟩)
      | succ f ih =>
        intro b hb h1 e1 a1 a2
        have cs := cB_s (fun b => B.testBit b) b
        have cm := cB_mono (fun b => B.testBit b) (u := b + 1) (v := 8) (by omega)
        refine B_Household_lineUp_7 (brF (nG 8 (by omega)) ?_)
        rw [bitN (by omega) (by omega), a1, nI_1]
        by_cases t : B.testBit b = true
        · rw [if_pos t]
          have cs' : cB (fun b => B.testBit b) (b + 1) = cB (fun b => B.testBit b) b + 1 := by rw [cs]; show _ + (if B.testBit b = true then 1 else 0) = _; rw [if_pos t]
          refine brF (by decide) ⟨(in49 (by omega)).2.2.2, ?_⟩
          rw [nIc (by omega), sA_1, a1, nI_1]
          refine ih (b + 1) (by omega) _ ((e1.trans (EqO.sA (F := fun x => x = 45 ∨ x = 52) (Or.inr rfl))).trans (EqO.sI (F := fun x => x = 45 ∨ x = 52) (Or.inl rfl))) ?_ (fun j hj => ?_)
          · rw [sI_1, if_pos rfl, if_pos rfl, cs']
          · rw [sI_A, sA_A, if_pos rfl]
            by_cases d : j = cB (fun b => B.testBit b) b
            · rw [if_pos d, d, itK_at (W := fun b => B.testBit b) (by omega) t]
            · rw [if_neg d]; exact a2 j (by omega)
        · rw [if_neg t]
          have cs' : cB (fun b => B.testBit b) (b + 1) = cB (fun b => B.testBit b) b := by rw [cs]; show _ + (if B.testBit b = true then 1 else 0) = _; rw [if_neg t]; rfl
          exact brT rfl (ih (b + 1) (by omega) h1 e1 (by rw [cs']; exact a1) (by rw [cs']; exact a2))
    refine main 8 0 (by omega) _ (EqO.sI (F := fun x => x = 45 ∨ x = 52) (Or.inl rfl)) ?_ (fun j hj => absurd hj (Nat.not_lt_zero j))
    rw [sI_1, if_pos rfl, if_pos rfl]; rfl
  refine B_Household_boxFor hE (by omega) (lu.mono (fun h1 z1 => ?_))
  obtain ⟨e1, Ln1⟩ := z1
  refine (fillI_ok hE (by omega) (a := 48) (v := 0) k46.2.2.1.1 (by rw [k46.2.2.1.2]; decide)).mono (fun h2 z2 => ?_)
  obtain ⟨e2, f2⟩ := z2
  have P2 : PcV h2 n mem tv := PcV_eqO (PcV_eqO P e1 (fun x h1 h2 => by omega)) e2 (fun x h1 h2 => by omega)
  have T2 : TkV h2 g n nB := ⟨T.1, T.2.1, fun c hc => by rw [(e2 46 (by omega)).2.1, (e1 46 (by omega)).2.1]; exact T.2.2 c hc⟩
  have Ln2 : LnV h2 B := ⟨by rw [(e2 45 (by omega)).1]; exact Ln1.1, fun j hj => by rw [(e2 52 (by omega)).2.1]; exact Ln1.2 j hj⟩
  have H2 : HpV h2 g nB n B := fun c hc => ⟨0, by rw [f2 c (by rw [k46.2.2.1.2]; omega)]; rfl, by omega, fun j _ z => by rw [Nat.zero_testBit] at z; cases z⟩
  refine (pc_choices hE (by omega) P2.1).use ?_
  rw [pred1 (by omega)]
  have main : ∀ f j, f + j = cB (fun b => B.testBit b) 8 → ∀ l, l < 2 ^ n → ∀ h3, EqO (fun x => x = 48) h2 h3 → HpV h3 g nB n B → rsF g mem nB n B i f j l = rsF g mem nB n B i (cB (fun b => B.testBit b) 8) 0 (2 ^ n - 1) → at_Household_boxFor_26 E L h3 (fun y h' => EqO (fun x => x = 45 ∨ x = 48 ∨ x = 52) h h' ∧ y = bx (rsF g mem nB n B i (cB (fun b => B.testBit b) 8) 0 (2 ^ n - 1))) (nI i) (nI l) (nI j) := by
    intro f
    induction f with
    | zero =>
      intro j hj l hl h3 e3 H3 er
      have fr : EqO (fun x => x = 45 ∨ x = 48 ∨ x = 52) h h3 := ((e1.wk (fun x z => by omega)).trans (e2.wk (fun x z => by omega))).trans (e3.wk (fun x z => by omega))
      refine B_Household_boxFor_26 ?_
      rw [(e3 45 (by omega)).1, Ln2.1]
      exact brT (nI_le (by omega) (by omega)) ⟨fr, by rw [← er]; rfl⟩
    | succ f ih =>
      intro j hj l hl h3 e3 H3 er
      have T3 : TkV h3 g n nB := ⟨T.1, T.2.1, fun c hc => by rw [(e3 46 (by omega)).2.1]; exact T2.2.2 c hc⟩
      have Ln3 : LnV h3 B := ⟨by rw [(e3 45 (by omega)).1]; exact Ln2.1, fun j hj => by rw [(e3 52 (by omega)).2.1]; exact Ln2.2 j hj⟩
      refine B_Household_boxFor_26 ?_
      rw [Ln3.1]
      refine brF (nI_ge (by omega) (by omega)) ((h_greatest hE hg g0 hB h8 (by omega) (show j < cB (fun b => B.testBit b) 8 by omega) T3 Ln3 H3 hl).mono (fun y h4 z4 => ?_))
      obtain ⟨e4, H4, ey⟩ := z4
      have ey' : y = nI (gpt g nB B j l) := ey
      have gl : gpt g nB B j l ≤ l := mxQ_le _ _ _
      have P4 : PcV h4 n mem tv := PcV_eqO (PcV_eqO P2 e3 (fun x h1 h2 => by omega)) e4 (fun x h1 h2 => by omega)
      obtain ⟨vb, mvb, rb⟩ := pc_bits hE (L := L - 1) (by omega) P4.1 (c := gpt g nB B j l) (by omega)
      have fr : EqO (fun x => x = 45 ∨ x = 48 ∨ x = 52) h h4 := (((e1.wk (fun x z => by omega)).trans (e2.wk (fun x z => by omega))).trans (e3.wk (fun x z => by omega))).trans (e4.wk (fun x z => by omega))
      rw [ey']
      refine rb.use ?_
      rw [mk_test mvb hi]
      have es : rsF g mem nB n B i (f + 1) j l = if memP mem n (gpt g nB B j l) i = true then itK (fun b => B.testBit b) j + 1 else rsF g mem nB n B i f (j + 1) (l ^^^ gpt g nB B j l) := rfl
      by_cases q : memP mem n (gpt g nB B j l) i = true
      · rw [if_pos q]
        rw [es, if_pos q] at er
        refine brF (by decide) ⟨(in49 (by omega)).2.2.2, fr, ?_⟩
        rw [nIc (by omega), (e4 52 (by omega)).2.1, Ln3.2 j (by omega), ← er, bx_S]
      · rw [if_neg q, xorN (by omega) (by omega), nI_1]
        rw [es, if_neg q] at er
        exact brT rfl (ih (j + 1) (by omega) _ (Nat.xor_lt_two_pow hl (by omega)) h4 (e3.trans e4) H4 er)
  exact main (cB (fun b => B.testBit b) 8) 0 (by omega) (2 ^ n - 1) (by omega) h2 EqO.rfl' H2 rfl
end Holds
