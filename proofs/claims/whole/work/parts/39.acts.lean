/-! ===== acts ===== -/
def aN (w : Int64) : Nat := w.toInt.toNat
def itB (nB nT i : Nat) : Bool := decide (i < nB ∨ (8 ≤ i ∧ i < 8 + nT))
theorem itB_iff {nB nT i : Nat} : itB nB nT i = true ↔ isIt nB nT i := decide_eq_true_iff
/-- what an act is: 1 laying in, 2 lifting out, 0 none -/
def aK (nB nT : Nat) (w : Int64) : Nat := if w < 0 then 0 else if aN w < 1000 then (if itB nB nT (aN w % 100) = true ∧ aN w / 100 < nB then 1 else 0) else (if itB nB nT (aN w - 1000) = true then 2 else 0)
theorem aN_lN {n : Nat} (h : n < 2 ^ 63) : aN (lN n) = n := by
  unfold aN; rw [pk_lT h]; rfl
theorem lN_neg {n : Nat} (h : n < 2 ^ 63) : ¬ lN n < 0 := lN_nn (by omega)
theorem aK_cases (nB nT : Nat) (h8 : nB ≤ 8) (h16 : nT ≤ 16) (w : Int64) : (aK nB nT w = 0 ∧ (w < 0 ∨ ∃ n, n < 2 ^ 63 ∧ w = lN n ∧ ((n < 1000 ∧ ¬ (isIt nB nT (n % 100) ∧ n / 100 < nB)) ∨ (1000 ≤ n ∧ ¬ isIt nB nT (n - 1000))))) ∨ (∃ i b, aK nB nT w = 1 ∧ aN w % 100 = i ∧ aN w / 100 = b ∧ isIt nB nT i ∧ b < nB ∧ w = lN (100 * b + i)) ∨ ∃ i, aK nB nT w = 2 ∧ aN w - 1000 = i ∧ isIt nB nT i ∧ w = lN (1000 + i) := by
  by_cases c : w < 0
  · exact Or.inl ⟨by unfold aK; rw [if_pos c], Or.inl c⟩
  · obtain ⟨n, hn, rfl⟩ := pk_lOf c
    have e := aN_lN hn
    by_cases c1 : n < 1000
    · by_cases c2 : itB nB nT (n % 100) = true ∧ n / 100 < nB
      · refine Or.inr (Or.inl ⟨n % 100, n / 100, ?_, by rw [e], by rw [e], itB_iff.mp c2.1, c2.2, by rw [show 100 * (n / 100) + n % 100 = n from Nat.div_add_mod n 100]⟩)
        unfold aK; rw [if_neg c, e, if_pos c1, if_pos c2]
      · refine Or.inl ⟨?_, Or.inr ⟨n, hn, rfl, Or.inl ⟨c1, fun z => c2 ⟨itB_iff.mpr z.1, z.2⟩⟩⟩⟩
        unfold aK; rw [if_neg c, e, if_pos c1, if_neg c2]
    · by_cases c2 : itB nB nT (n - 1000) = true
      · refine Or.inr (Or.inr ⟨n - 1000, ?_, by rw [e], itB_iff.mp c2, by rw [show 1000 + (n - 1000) = n by omega]⟩)
        unfold aK; rw [if_neg c, e, if_neg c1, if_pos c2]
      · refine Or.inl ⟨?_, Or.inr ⟨n, hn, rfl, Or.inr ⟨by omega, fun z => c2 (itB_iff.mpr z)⟩⟩⟩
        unfold aK; rw [if_neg c, e, if_neg c1, if_neg c2]
abbrev Sg := (Nat → Nat) × (Nat → Nat) × (Nat → Nat) × Nat
def rsA (nB nT : Nat) (tv : Nat → Nat → Nat) (σ : Sg) (w : Int64) : Int32 :=
  if aK nB nT w = 1 then rfs σ.1 σ.2.1 tv nB (aN w % 100) (aN w / 100) else if aK nB nT w = 2 then (if σ.1 (aN w - 1000) = 0 ∨ 0 < lft σ.1 σ.2.1 (bO 0) 9 (aN w - 1000 + 1) then -5 else 0) else -2
def stA (nB nT : Nat) (tv : Nat → Nat → Nat) (σ : Sg) (w : Int64) : Sg :=
  if rsA nB nT tv σ w = 0 then (if aK nB nT w = 1 then (upN σ.1 (aN w % 100) (aN w / 100 + 1), upN σ.2.1 (aN w % 100) (cnt σ.1 (aN w / 100 + 1)), upN σ.2.2.1 (aN w % 100) (σ.2.2.2 + 1), σ.2.2.2 + 1) else (upN σ.1 (aN w - 1000) 0, σ.2.1, σ.2.2.1, σ.2.2.2)) else σ
def runA (nB nT : Nat) (tv : Nat → Nat → Nat) (ws : Nat → Int64) : Nat → Nat → Sg → Nat × Int32 × Sg
  | 0, k, σ => (k, 0, σ)
  | m + 1, k, σ => if rsA nB nT tv σ (ws k) = 0 then runA nB nT tv ws m (k + 1) (stA nB nT tv σ (ws k)) else (k, rsA nB nT tv σ (ws k), σ)
/-- what the invariant says of where all lies -/
def SgOk (σ : Sg) : Prop := acy σ.1 ∧ OrdV σ.1 σ.2.1 σ.2.2.1 σ.2.2.2 ∧ ∀ i, i < 24 → σ.1 i ≤ 8
theorem stA_ok {nB nT : Nat} {tv : Nat → Nat → Nat} {σ : Sg} (h8 : nB ≤ 8) (h16 : nT ≤ 16) (ok : SgOk σ) (w : Int64) : SgOk (stA nB nT tv σ w) ∧ (stA nB nT tv σ w).2.2.2 ≤ σ.2.2.2 + 1 := by
  obtain ⟨o1, o2, o3⟩ := ok
  unfold stA
  by_cases c : rsA nB nT tv σ w = 0
  · rw [if_pos c]
    rcases aK_cases nB nT h8 h16 w with ⟨q, -⟩ | ⟨i, b, q, e1, e2, hi, hb, -⟩ | ⟨i, q, e1, hi, -⟩
    · unfold rsA at c; rw [if_neg (by omega), if_neg (by omega)] at c; exact absurd c (by decide)
    · unfold rsA at c
      rw [if_pos q, e1, e2] at c
      rw [if_pos q, e1, e2]
      obtain ⟨q1, q2, q3, -⟩ := rfs_0 c
      exact ⟨⟨acy_put o1 o3 (by omega) q2 q3, OrdV_put o2 q1, upN_le o3 (by omega)⟩, Nat.le_refl _⟩
    · have hi24 : i < 24 := by rcases hi with q | q <;> omega
      unfold rsA at c
      rw [if_neg (by omega), if_pos q, e1] at c
      rw [if_neg (by omega), e1]
      have c2 : ¬ (σ.1 i = 0 ∨ 0 < lft σ.1 σ.2.1 (bO 0) 9 (i + 1)) := fun z => by rw [if_pos z] at c; exact absurd c (by decide)
      have ht : σ.1 i ≠ 0 → ∀ j, j < 24 → σ.1 j = σ.1 i → ¬ σ.2.1 i < σ.2.1 j := fun z => lft_top (lv := σ.2.1) hi24 z (by omega)
      exact ⟨⟨acy_take o1 i, OrdV_take o2 hi24 ht, upN_le o3 (by omega)⟩, Nat.le_succ _⟩
  · rw [if_neg c]; exact ⟨⟨o1, o2, o3⟩, Nat.le_succ _⟩
theorem sub_k (a b i : Nat) : a + (b + i) - b = a + i := by omega
section Acts
variable {E : EnvX} {L : Nat} {h : Hp} {K : Nat} {nB nT : Nat} {tv : Nat → Nat → Nat}
theorem put_w {i b : Nat} (hi : i < 24) (hb : b < 8) : lN (100 * b + i) / 100 = lN b ∧ lN (100 * b + i) - lN (100 * b + i) / 100 * 100 = lN i ∧ (lN (100 * b + i)).toInt32 = nI (100 * b + i) ∧ nI (100 * b + i) / 100 = nI b ∧ nI (100 * b + i) - nI (100 * b + i) / 100 * 100 = nI i := by
  refine ⟨?_, ?_, lN_i _, ?_, ?_⟩
  · rw [show (100 : Int64) = lN 100 from rfl, pk_lDiv (by omega) (by omega) (by omega), show (100 * b + i) / 100 = b by omega]
  · rw [show (100 : Int64) = lN 100 from rfl, pk_lRem (by omega) (by omega) (by omega), show (100 * b + i) % 100 = i by omega]
  · exact (show ∀ b, b < 8 → ∀ i, i < 24 → nI (100 * b + i) / 100 = nI b by decide +kernel) b hb i hi
  · exact (show ∀ b, b < 8 → ∀ i, i < 24 → nI (100 * b + i) - nI (100 * b + i) / 100 * 100 = nI i by decide +kernel) b hb i hi
theorem lt1000 {n : Nat} (hn : n < 2 ^ 63) : lg_cmp (lN n) 1000 < 0 ↔ n < 1000 := by
  rw [lgc_lt, show (1000 : Int64) = lN 1000 from rfl, pk_lLT hn (by omega)]
theorem lt0 {n : Nat} (hn : n < 2 ^ 63) : ¬ lg_cmp (lN n) 0 < 0 := by
  rw [lgc_lt]; exact lN_neg hn
theorem x_doAct (hE : EOk E) (hL : 6 ≤ L) {r : Nat} {σ : Sg} (Y : LyV h r σ.1 σ.2.1) (S : StV h (rf r 0) nB nT tv) (w : Int64) : ConI E L m_Layout_doAct r [.long w] h (fun y h' => y = rsA nB nT tv σ w ∧ EqO (fun q => q = r + 1 ∨ q = r + 2) h h' ∧ LyV h' r (stA nB nT tv σ w).1 (stA nB nT tv σ w).2.1) := by
  have h8 := S.2.2.2.1
  have h16 := S.2.2.2.2.1
  refine B_Layout_doAct hE (by omega) Y.1 ?_
  rcases aK_cases nB nT h8 h16 w with ⟨q, hw⟩ | ⟨i, b, q, e1, e2, hi, hb, rfl⟩ | ⟨i, q, e1, hi, rfl⟩
  · have er : rsA nB nT tv σ w = -2 := by unfold rsA; rw [if_neg (by omega), if_neg (by omega)]
    have es : stA nB nT tv σ w = σ := by unfold stA; rw [if_neg (by rw [er]; decide)]
    rw [er, es]
    have fin : (-2 : Int32) = -2 ∧ EqO (fun q => q = r + 1 ∨ q = r + 2) h h ∧ LyV h r σ.1 σ.2.1 := ⟨rfl, EqO.rfl', Y⟩
    rcases hw with c | ⟨n, hn, rfl, c⟩
    · have c1 : lg_cmp w 1000 < 0 := by
        rw [lgc_lt, i64_lt]; rw [i64_lt] at c
        have a1 : (0 : Int64).toInt = 0 := rfl
        have a2 : (1000 : Int64).toInt = 1000 := rfl
        omega
      exact brT c1 (B_Layout_doAct_13 (brT rfl ⟨by decide, B_Layout_doAct_31 (brT rfl ⟨by decide, B_Layout_doAct_48 (brT ((lgc_lt _ _).mpr c) (B_Layout_doAct_84 fin))⟩)⟩))
    · rcases c with ⟨c1, c2⟩ | ⟨c1, c2⟩
      · refine brT ((lt1000 hn).mpr c1) (B_Layout_doAct_13 (brT rfl ⟨by decide, B_Layout_doAct_31 (brT rfl ⟨by decide, B_Layout_doAct_48 (brF (lt0 hn) ?_)⟩)⟩))
        rw [show (100 : Int64) = lN 100 from rfl, pk_lRem hn (by omega) (by omega), pk_lDiv hn (by omega) (by omega)]
        by_cases d : isIt nB nT (n % 100)
        · refine (hasItem_yes hE (by omega) S d).use (brF (by decide) (brT' rfl ((hasBox_no hE (by omega) S (fun b hb z => c2 ⟨d, ?_⟩)).use (brT' rfl (B_Layout_doAct_84 fin)))))
          have := (pk_lEQ (a := n / 100) (b := b) (by omega) (by omega)).mp z
          omega
        · refine (hasItem_no hE (by omega) S (fun i hi z => d ?_)).use (brT rfl (B_Layout_doAct_84 fin))
          have := (pk_lEQ (a := n % 100) (b := i) (by omega) (by rcases hi with q | q <;> omega)).mp z
          rw [this]; exact hi
      · refine brF (fun z => by have := (lt1000 hn).mp z; omega) (B_Layout_doAct_13 (brF (by decide) (B_Layout_doAct_31 (brF (by decide) (B_Layout_doAct_48 (brF (lt0 hn) ?_))))))
        rw [show (1000 : Int64) = lN 1000 from rfl, lN_sub c1]
        refine (hasItem_no hE (by omega) S (fun i hi z => c2 ?_)).use (brT rfl (B_Layout_doAct_84 fin))
        have := (pk_lEQ (a := n - 1000) (b := i) (by omega) (by rcases hi with q | q <;> omega)).mp z
        rw [this]; exact hi
  · have hi24 : i < 24 := by rcases hi with q | q <;> omega
    obtain ⟨p1, p2, -, -, -⟩ := put_w hi24 (show b < 8 by omega)
    have er : rsA nB nT tv σ (lN (100 * b + i)) = rfs σ.1 σ.2.1 tv nB i b := by unfold rsA; rw [if_pos q, e1, e2]
    refine brT ((lt1000 (by omega)).mpr (by omega)) (B_Layout_doAct_13 (brT rfl ⟨by decide, B_Layout_doAct_31 (brT rfl ⟨by decide, B_Layout_doAct_48 (brF (lt0 (by omega)) ?_)⟩)⟩))
    rw [p2, p1]
    refine (hasItem_yes hE (by omega) S hi).use (brF (by decide) (brT' rfl ((hasBox_yes hE (by omega) S hb).use (brF' (by decide) (B_Layout_doAct_87 (brT rfl ?_))))))
    rw [lN_i, lN_i]
    refine (ly_whyNotPut hE (by omega) Y S hi24 (by omega)).use ?_
    rw [er]
    by_cases c : rfs σ.1 σ.2.1 tv nB i b = 0
    · have es : stA nB nT tv σ (lN (100 * b + i)) = (upN σ.1 i (b + 1), upN σ.2.1 i (cnt σ.1 (b + 1)), upN σ.2.2.1 i (σ.2.2.2 + 1), σ.2.2.2 + 1) := by unfold stA; rw [if_pos (by rw [er]; exact c), if_pos q, e1, e2]
      rw [es]
      have l1 := ly_lay hE (L := L - 1) (by omega) Y (i := i) (c := b + 1) hi24 (by omega)
      rw [bx_S] at l1
      exact brT' c (brT rfl (brT' c (l1.mono (fun h1 z => ⟨rfl, z.1, z.2⟩))))
    · have es : stA nB nT tv σ (lN (100 * b + i)) = σ := by unfold stA; rw [if_neg (by rw [er]; exact c)]
      rw [es]
      exact brF' c (brF' c ⟨rfl, EqO.rfl', Y⟩)
  · have hi24 : i < 24 := by rcases hi with q | q <;> omega
    have er : rsA nB nT tv σ (lN (1000 + i)) = if σ.1 i = 0 ∨ 0 < lft σ.1 σ.2.1 (bO 0) 9 (i + 1) then -5 else 0 := by unfold rsA; rw [if_neg (by omega), if_pos q, e1]
    refine brF (fun z => by have := (lt1000 (by omega)).mp z; omega) (B_Layout_doAct_13 (brF (by decide) (B_Layout_doAct_31 (brF (by decide) (B_Layout_doAct_48 (brF (lt0 (by omega)) ?_))))))
    rw [show (1000 : Int64) = lN 1000 from rfl, lN_sub (by omega), Nat.add_sub_cancel_left]
    refine (hasItem_yes hE (by omega) S hi).use (brF (by decide) (brF' (by decide) (B_Layout_doAct_87 (brF (by decide) ?_))))
    rw [lN_i]
    refine (ly_whyNotTaken hE (by omega) Y hi24).use ?_
    rw [er]
    by_cases c : σ.1 i = 0 ∨ 0 < lft σ.1 σ.2.1 (bO 0) 9 (i + 1)
    · have es : stA nB nT tv σ (lN (1000 + i)) = σ := by unfold stA; rw [if_neg (by rw [er, if_pos c]; decide)]
      rw [es, if_pos c]
      exact brF' (by decide) (brF' (by decide) ⟨rfl, EqO.rfl', Y⟩)
    · have es : stA nB nT tv σ (lN (1000 + i)) = (upN σ.1 i 0, σ.2.1, σ.2.2.1, σ.2.2.2) := by unfold stA; rw [if_pos (by rw [er, if_neg c]), if_neg (by omega), e1]
      rw [es, if_neg c]
      exact brT' rfl (brF (by decide) ((ly_lift hE (by omega) Y hi24).mono (fun h1 z => ⟨rfl, z.1.wk (fun q z => Or.inl z), z.2⟩)))
theorem m_acts (hE : EOk E) (hL : 8 ≤ L) {σ : Sg} (ok : SgOk σ) (hck : σ.2.2.2 + 1 < 1073741824) (M : MdV h nB nT tv σ.1 σ.2.2.1 σ.2.2.2) (w : Int64) : ConI E L m_M_acts 74 [.long w] h (fun y h' => y = rsA nB nT tv σ w ∧ FrM h h' ∧ h'.1 = h.1 ∧ MdV h' nB nT tv (stA nB nT tv σ w).1 (stA nB nT tv σ w).2.2.1 (stA nB nT tv σ w).2.2.2) := by
  have h8 := M.1.1
  have h16 := M.1.2.1
  refine B_M_acts hE (by omega) ?_
  rcases aK_cases nB nT h8 h16 w with ⟨q, hw⟩ | ⟨i, b, q, e1, e2, hi, hb, rfl⟩ | ⟨i, q, e1, hi, rfl⟩
  · have er : rsA nB nT tv σ w = -2 := by unfold rsA; rw [if_neg (by omega), if_neg (by omega)]
    have es : stA nB nT tv σ w = σ := by unfold stA; rw [if_neg (by rw [er]; decide)]
    rw [er, es]
    have fin : (-2 : Int32) = -2 ∧ FrM h h ∧ h.1 = h.1 ∧ MdV h nB nT tv σ.1 σ.2.2.1 σ.2.2.2 := ⟨rfl, FrM.rfl', rfl, M⟩
    rcases hw with c | ⟨n, hn, rfl, c⟩
    · have c1 : lg_cmp w 1000 < 0 := by
        rw [lgc_lt, i64_lt]; rw [i64_lt] at c
        have a1 : (0 : Int64).toInt = 0 := rfl
        have a2 : (1000 : Int64).toInt = 1000 := rfl
        omega
      exact brT c1 (brT ((lgc_lt _ _).mpr c) fin)
    · rcases c with ⟨c1, c2⟩ | ⟨c1, c2⟩
      · refine brT ((lt1000 hn).mpr c1) (brF (lt0 hn) ⟨by decide, ?_⟩)
        rw [show (100 : Int64) = lN 100 from rfl, pk_lRem hn (by omega) (by omega), pk_lDiv hn (by omega) (by omega)]
        by_cases d : n / 100 < nB
        · refine (m_isBox_yes hE (by omega) M d).use (brF (by decide) ⟨by decide, (m_isItem_no hE (by omega) M (fun i hi z => c2 ⟨?_, d⟩)).use (brT' rfl fin)⟩)
          have := (pk_lEQ (a := n % 100) (b := i) (by omega) (by rcases hi with q | q <;> omega)).mp z
          rw [this]; exact hi
        · refine (m_isBox_no hE (by omega) M (fun b hb z => d ?_)).use (brT rfl fin)
          have := (pk_lEQ (a := n / 100) (b := b) (by omega) (by omega)).mp z
          omega
      · refine brF (fun z => by have := (lt1000 hn).mp z; omega) ?_
        rw [show (1000 : Int64) = lN 1000 from rfl, lN_sub c1]
        refine (m_isItem_no hE (by omega) M (fun i hi z => c2 ?_)).use (brT' rfl fin)
        have := (pk_lEQ (a := n - 1000) (b := i) (by omega) (by rcases hi with q | q <;> omega)).mp z
        rw [this]; exact hi
  · have hi24 : i < 24 := by rcases hi with q | q <;> omega
    obtain ⟨p1, p2, p3, p4, p5⟩ := put_w hi24 (show b < 8 by omega)
    have er : rsA nB nT tv σ (lN (100 * b + i)) = rfs σ.1 σ.2.1 tv nB i b := by unfold rsA; rw [if_pos q, e1, e2]
    refine brT ((lt1000 (by omega)).mpr (by omega)) (brF (lt0 (by omega)) ⟨by decide, ?_⟩)
    rw [p3, p5, p4, p2, p1]
    refine (m_isBox_yes hE (by omega) M hb).use (brF (by decide) ⟨by decide, (m_isItem_yes hE (by omega) M hi).use (brF' (by decide) ⟨by decide, by decide, (m_refuses hE (by omega) M ok.1 ok.2.1 hi hb).use ?_⟩)⟩)
    rw [er]
    by_cases c : rfs σ.1 σ.2.1 tv nB i b = 0
    · have es : stA nB nT tv σ (lN (100 * b + i)) = (upN σ.1 i (b + 1), upN σ.2.1 i (cnt σ.1 (b + 1)), upN σ.2.2.1 i (σ.2.2.2 + 1), σ.2.2.2 + 1) := by unfold stA; rw [if_pos (by rw [er]; exact c), if_pos q, e1, e2]
      rw [es]
      exact brT' c ⟨by decide, by decide, (m_comes hE (by omega) M hi24 (by omega)).use ⟨rfl, FrM.c3 hi24, rfl, sC3_MsV M hck hi hb⟩⟩
    · have es : stA nB nT tv σ (lN (100 * b + i)) = σ := by unfold stA; rw [if_neg (by rw [er]; exact c)]
      rw [es]
      exact brF' c ⟨rfl, FrM.rfl', rfl, M⟩
  · have hi24 : i < 24 := by rcases hi with q | q <;> omega
    have er : rsA nB nT tv σ (lN (1000 + i)) = if σ.1 i = 0 ∨ 0 < lft σ.1 σ.2.1 (bO 0) 9 (i + 1) then -5 else 0 := by unfold rsA; rw [if_neg (by omega), if_pos q, e1]
    have t1 := m_canBeTaken hE (L := L - 1) (by omega) M ok.1 ok.2.1 hi24
    refine brF (fun z => by have := (lt1000 (by omega)).mp z; omega) ?_
    rw [show (1000 : Int64) = lN 1000 from rfl, lN_sub (by omega), Nat.add_sub_cancel_left, lN_i, show (1000 : Int32) = nI 1000 from rfl, show (171 : Int32) = nI 171 from rfl, nI_add, nI_sub (by omega), nI_sub (by omega), Nat.add_sub_cancel_left, sub_k 171 1000 i, nIc (by omega)]
    refine (m_isItem_yes hE (by omega) M hi).use (brF' (by decide) (t1.use ?_))
    rw [er]
    by_cases c : σ.1 i = 0 ∨ 0 < lft σ.1 σ.2.1 (bO 0) 9 (i + 1)
    · have es : stA nB nT tv σ (lN (1000 + i)) = σ := by unfold stA; rw [if_neg (by rw [er, if_pos c]; decide)]
      rw [es, if_pos c, if_pos c]
      exact brT' rfl ⟨rfl, FrM.rfl', rfl, M⟩
    · have es : stA nB nT tv σ (lN (1000 + i)) = (upN σ.1 i 0, σ.2.1, σ.2.2.1, σ.2.2.2) := by unfold stA; rw [if_pos (by rw [er, if_neg c]), if_neg (by omega), e1]
      rw [es, if_neg c, if_neg c]
      exact brF' (by decide) ⟨in75 (by omega), rfl, FrM.s75 (by omega), rfl, sT_MsV M hi24⟩
end Acts
