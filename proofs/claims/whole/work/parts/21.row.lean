/-! ===== Arrays.fill; rows; the store ===== -/
section RowStore
variable {E : EnvX} {L : Nat} {h : Hp}
/-- n places filled with v -/
theorem fillI_ok (hE : EOk E) (hL : 1 ≤ L) {a : Nat} {v : Int32} (h1 : akd a = 1) (h2 : aln a < 2147483648) : ConV E L m_Arrays_fillI 0 [.ref a, .int v] h (fun h' => EqO (fun q => q = a) h h' ∧ ∀ j, j < aln a → h'.2.1 a j = v) := by
  refine B_Arrays_fillI hE hL ⟨Or.inl h1, ?_⟩
  have main : ∀ k, k ≤ aln a → ∀ g : Hp, EqO (fun q => q = a) h g → (∀ j, j < k → g.2.1 a j = v) → at_Arrays_fillI_5 E L g (fun h' => EqO (fun q => q = a) h h' ∧ ∀ j, j < aln a → h'.2.1 a j = v) a v (nI k) (nI (aln a)) := by
    refine upto ?_ ?_
    · intro g hg hf
      exact B_Arrays_fillI_5 (brT (nI_le (Nat.le_refl _) h2) ⟨hg, hf⟩)
    · intro k hk ih g hg hf
      refine B_Arrays_fillI_5 (brF (nI_ge hk h2) ⟨inI_of h1 hk h2, ?_⟩)
      rw [nI_1, nIc (by omega)]
      refine ih _ (hg.trans (EqO.sA rfl)) (fun j hj => ?_)
      rw [sA_A, if_pos rfl]
      by_cases e : j = k
      · rw [if_pos e]
      · rw [if_neg e]; exact hf j (by omega)
  exact main 0 (Nat.zero_le _) h EqO.rfl' (fun j hj => absurd hj (Nat.not_lt_zero j))
theorem fillJ_ok (hE : EOk E) (hL : 1 ≤ L) {a : Nat} {v : Int64} (h1 : akd a = 2) (h2 : aln a < 2147483648) : ConV E L m_Arrays_fillJ 0 [.ref a, .long v] h (fun h' => EqO (fun q => q = a) h h' ∧ ∀ j, j < aln a → h'.2.2 a j = v) := by
  refine B_Arrays_fillJ hE hL ⟨Or.inr (Or.inl h1), ?_⟩
  have main : ∀ k, k ≤ aln a → ∀ g : Hp, EqO (fun q => q = a) h g → (∀ j, j < k → g.2.2 a j = v) → at_Arrays_fillJ_6 E L g (fun h' => EqO (fun q => q = a) h h' ∧ ∀ j, j < aln a → h'.2.2 a j = v) a v (nI k) (nI (aln a)) := by
    refine upto ?_ ?_
    · intro g hg hf
      exact B_Arrays_fillJ_6 (brT (nI_le (Nat.le_refl _) h2) ⟨hg, hf⟩)
    · intro k hk ih g hg hf
      refine B_Arrays_fillJ_6 (brF (nI_ge hk h2) ⟨inJ_of h1 hk h2, ?_⟩)
      rw [nI_1, nIc (by omega)]
      refine ih _ (hg.trans (EqO.sL rfl)) (fun j hj => ?_)
      rw [sL_L, if_pos rfl]
      by_cases e : j = k
      · rw [if_pos e]
      · rw [if_neg e]; exact hf j (by omega)
  exact main 0 (Nat.zero_le _) h EqO.rfl' (fun j hj => absurd hj (Nat.not_lt_zero j))
def RdL (E : EnvX) (L mi t : Nat) (as : List Value) (h : Hp) (x : Int64) : Prop := ConL E L mi t as h (fun y h' => y = x ∧ h' = h)
theorem RdL.use {mi t : Nat} {as : List Value} {x : Int64} {post : Int64 → Hp → Prop} (H : RdL E L mi t as h x) (k : post x h) : ConL E L mi t as h post := ConL.mono H (fun y h' e => by obtain ⟨rfl, rfl⟩ := e; exact k)
/-! rows -/
def cutF (s : Int32) (v : Int64) : Int64 := if s = 0 then v.toInt32.toInt8.toInt32.toInt64 else if s = 1 then v.toInt32.toInt16.toInt32.toInt64 else if s = 2 then v.toInt32.toInt64 else v
theorem row_isMissing (hE : EOk E) (hL : 1 ≤ L) {r : Nat} (hr : cls r = 7) : RdI E L m_Row_isMissing r [] h (if h.1 r 2 = -1 then 1 else 0) := by
  refine B_Row_isMissing hE hL hr ⟨fun c => ?_, fun c => ?_⟩
  · rw [if_neg c]; exact ⟨rfl, rfl⟩
  · rw [if_pos c]; exact ⟨rfl, rfl⟩
theorem row_many (hE : EOk E) (hL : 1 ≤ L) {r : Nat} (hr : cls r = 7) : RdI E L m_Row_many r [] h (h.1 r 2) := B_Row_many hE hL hr ⟨rfl, rfl⟩
theorem row_hasPlace (hE : EOk E) (hL : 1 ≤ L) {r n : Nat} (hr : cls r = 7) (hm : h.1 r 2 = nI n) (hn : n ≤ 40) (v : Int32) : RdI E L m_Row_hasPlace r [.int v] h (if 0 ≤ v ∧ v < nI n then 1 else 0) := by
  refine B_Row_hasPlace hE hL hr ⟨fun c => ?_, fun c => ?_⟩
  · rw [if_neg (fun q => by have := i32_le.mp q.1; have := i32_lt.mp c; have e : (0 : Int32).toInt = 0 := rfl; omega)]; exact ⟨rfl, rfl⟩
  · rw [hm]
    refine ⟨fun c2 => ?_, fun c2 => ?_⟩
    · rw [if_neg (fun q => by have := i32_lt.mp q.2; have := i32_le.mp c2; omega)]; exact ⟨rfl, rfl⟩
    · refine brF (fun c3 => c2 ?_) ?_
      · rw [i32_le, nI_int (by omega)]
        have := i32_le.mp c3
        have e : (40 : Int32).toInt = 40 := rfl
        omega
      · rw [if_pos]
        · exact ⟨rfl, rfl⟩
        · constructor
          · rw [i32_le]; rw [i32_lt] at c; omega
          · rw [i32_lt]; rw [i32_le] at c2; omega
theorem row_get (hE : EOk E) (hL : 2 ≤ L) {r n k : Nat} (hr : cls r = 7) (hm : h.1 r 2 = nI n) (hn : n ≤ 40) (hk : k < n) : RdL E L m_Row_get r [.int (nI k)] h (h.2.2 (r + 1) k) := by
  obtain ⟨s1, s2, s3⟩ := sh_row hr
  refine B_Row_get hE (by omega) hr ((row_hasPlace hE (by omega) hr hm hn (nI k)).use ?_)
  rw [if_pos ⟨nI_pos' (by omega), nI_lt hk (by omega)⟩]
  refine brF (by decide) ?_
  rw [s1]
  refine ⟨inJ_of s2 (by omega) (by omega), ?_⟩
  rw [nIc (by omega)]
  exact ⟨rfl, rfl⟩
theorem row_cut (hE : EOk E) (hL : 1 ≤ L) {r s : Nat} (hr : cls r = 7) (hs : h.1 r 1 = nI s) (h3 : s ≤ 3) (v : Int64) : RdL E L m_Row_cut r [.long v] h (cutF (nI s) v) := by
  refine B_Row_cut hE hL hr ?_
  rw [hs]
  unfold cutF
  rcases (show s = 0 ∨ s = 1 ∨ s = 2 ∨ s = 3 by omega) with rfl | rfl | rfl | rfl
  · exact ⟨fun _ => ⟨rfl, rfl⟩, fun c => absurd c (by decide), fun c => absurd c (by decide), fun c => absurd c (by decide)⟩
  · exact ⟨fun c => absurd c (by decide), fun _ => ⟨rfl, rfl⟩, fun c => absurd c (by decide), fun c => absurd c (by decide)⟩
  · exact ⟨fun c => absurd c (by decide), fun c => absurd c (by decide), fun _ => ⟨rfl, rfl⟩, fun c => absurd c (by decide)⟩
  · exact ⟨fun c => absurd c (by decide), fun c => absurd c (by decide), fun c => absurd c (by decide), fun _ => ⟨rfl, rfl⟩⟩
theorem row_set (hE : EOk E) (hL : 2 ≤ L) {r n s k : Nat} (hr : cls r = 7) (hm : h.1 r 2 = nI n) (hn : n ≤ 40) (hs : h.1 r 1 = nI s) (h3 : s ≤ 3) (hk : k < n) (v : Int64) : WrV E L m_Row_set r [.int (nI k), .long v] h (sL h (r + 1) k (cutF (nI s) v)) := by
  obtain ⟨s1, s2, s3⟩ := sh_row hr
  refine B_Row_set hE (by omega) hr ((row_hasPlace hE (by omega) hr hm hn (nI k)).use ?_)
  rw [if_pos ⟨nI_pos' (by omega), nI_lt hk (by omega)⟩]
  refine brF (by decide) ((row_cut hE (by omega) hr hs h3 v).use ?_)
  rw [s1]
  refine ⟨inJ_of s2 (by omega) (by omega), ?_⟩
  rw [nIc (by omega)]
theorem row_begin (hE : EOk E) (hL : 2 ≤ L) {r : Nat} (hr : cls r = 7) (s n : Int32) : ConV E L m_Row_begin r [.int s, .int n] h (fun h' => EqO (fun q => q = r ∨ q = r + 1) h h' ∧ h'.1 r 1 = s ∧ h'.1 r 2 = n ∧ ∀ j, j < 40 → h'.2.2 (r + 1) j = 0) := by
  obtain ⟨s1, s2, s3⟩ := sh_row hr
  refine B_Row_begin hE (by omega) hr ?_
  rw [s1]
  refine (fillJ_ok hE (by omega) s2 (by omega)).mono (fun h1 q => ?_)
  refine ⟨(q.1.wk (fun z hz => Or.inr hz)).trans ((EqO.sI (Or.inl rfl)).trans (EqO.sI (Or.inl rfl))), ?_, ?_, fun j hj => ?_⟩
  · rw [sI_1, if_pos rfl, if_neg (by decide), sI_1, if_pos rfl, if_pos rfl]
  · rw [sI_1, if_pos rfl, if_pos rfl]
  · exact q.2 j (by omega)
/-! the store -/
/-- the store r: how many boxes and things, what was told of each item -/
def StV (h : Hp) (r nB nT : Nat) (tv : Nat → Nat → Nat) : Prop :=
  cls r = 9 ∧ h.1 r 1 = nI nB ∧ h.1 r 2 = nI nT ∧ nB ≤ 8 ∧ nT ≤ 16 ∧ ∀ i k, i < 24 → k < 7 → h.2.1 (r + 1) (7 * i + k) = nI (tv i k) ∧ tv i k ≤ 9999
theorem StV.keep {h h' : Hp} {r nB nT : Nat} {tv : Nat → Nat → Nat} (S : StV h r nB nT tv) {F : Nat → Prop} (e : EqO F h h') (h1 : ¬ F r) (h2 : ¬ F (r + 1)) : StV h' r nB nT tv := by
  obtain ⟨a, b, c, d, f, g⟩ := S
  unfold StV
  rw [(e r h1).1, (e (r + 1) h2).2.1]
  exact ⟨a, b, c, d, f, g⟩
def isIt (nB nT i : Nat) : Prop := i < nB ∨ (8 ≤ i ∧ i < 8 + nT)
theorem store_boxes (hE : EOk E) (hL : 1 ≤ L) {r nB nT : Nat} {tv : Nat → Nat → Nat} (S : StV h r nB nT tv) : RdI E L m_Store_boxes r [] h (nI nB) := by
  refine B_Store_boxes hE hL S.1 ?_
  rw [S.2.1]; exact ⟨rfl, rfl⟩
theorem store_things (hE : EOk E) (hL : 1 ≤ L) {r nB nT : Nat} {tv : Nat → Nat → Nat} (S : StV h r nB nT tv) : RdI E L m_Store_things r [] h (nI nT) := by
  refine B_Store_things hE hL S.1 ?_
  rw [S.2.2.1]; exact ⟨rfl, rfl⟩
theorem store_itemCount (hE : EOk E) (hL : 1 ≤ L) {r nB nT : Nat} {tv : Nat → Nat → Nat} (S : StV h r nB nT tv) : RdI E L m_Store_itemCount r [] h (nI (nB + nT)) := by
  refine B_Store_itemCount hE hL S.1 ?_
  rw [S.2.1, S.2.2.1, nI_add]; exact ⟨rfl, rfl⟩
theorem store_told (hE : EOk E) (hL : 1 ≤ L) {r nB nT : Nat} {tv : Nat → Nat → Nat} (S : StV h r nB nT tv) {i k : Nat} (hi : i < 24) (hk : k < 7) : RdI E L m_Store_told r [.int (nI i), .int (nI k)] h (nI (tv i k)) := by
  obtain ⟨s1, s2, s3⟩ := sh_store S.1
  refine B_Store_told hE hL S.1 (brF (nIneg (by omega)) (brF (nG 24 hi) (brF (nIneg (by omega)) (brT (nLt 7 hk) ?_))))
  have e : nI i * 7 + nI k = nI (7 * i + k) := by
    rw [show (7 : Int32) = nI 7 from rfl, nI_mul, nI_add, Nat.mul_comm]
  rw [s1, e, nIc (by omega), (S.2.2.2.2.2 i k hi hk).1]
  exact ⟨inI_of s2 (by omega) (by omega), rfl, rfl⟩
theorem lgc_lt (x y : Int64) : lg_cmp x y < 0 ↔ x < y := by
  unfold lg_cmp
  by_cases h1 : x > y
  · rw [if_pos h1]
    have h2 := i64_lt.mp h1
    constructor
    · intro c; exact absurd c (by decide)
    · intro c; have := i64_lt.mp c; omega
  · rw [if_neg h1]
    by_cases h2 : x = y
    · rw [if_pos h2]
      subst h2
      constructor
      · intro c; exact absurd c (by decide)
      · intro c; have := i64_lt.mp c; omega
    · rw [if_neg h2]
      constructor
      · intro _
        rw [i64_lt]
        have h3 : ¬ y.toInt < x.toInt := fun c => h1 (i64_lt.mpr c)
        have h4 : ¬ x.toInt = y.toInt := fun c => h2 (i64_eq.mpr c)
        omega
      · intro _; decide
theorem lgc_ge (x y : Int64) : 0 ≤ lg_cmp x y ↔ ¬ x < y := by
  rw [← lgc_lt]
  constructor
  · intro a b
    have := i32_le.mp a; have := i32_lt.mp b; omega
  · intro a
    rw [i32_le]; rw [i32_lt] at a; omega
theorem store_hasBox (hE : EOk E) (hL : 1 ≤ L) {r nB nT : Nat} {tv : Nat → Nat → Nat} (S : StV h r nB nT tv) (v : Int64) : RdI E L m_Store_hasBox r [.long v] h (if ¬ v < 0 ∧ v < lN nB then 1 else 0) := by
  refine B_Store_hasBox hE hL S.1 ?_
  rw [S.2.1, lgc_lt, lgc_ge, nI_l (by have := S.2.2.2.1; omega)]
  refine ⟨fun c => ?_, fun c => ⟨fun c2 => ?_, fun c2 => ?_⟩⟩
  · rw [if_neg (fun q => q.1 c)]; exact ⟨rfl, rfl⟩
  · rw [if_neg (fun q => c2 q.2)]; exact ⟨rfl, rfl⟩
  · rw [if_pos ⟨c, Decidable.not_not.mp c2⟩]; exact ⟨rfl, rfl⟩
theorem lN_lt63 {a b : Nat} (ha : a < 9223372036854775808) (hb : b < 9223372036854775808) : lN a < lN b ↔ a < b := pk_lLT ha hb
theorem lN_nn {a : Nat} (ha : a < 9223372036854775808) : ¬ lN a < 0 := by
  rw [show (0 : Int64) = lN 0 from rfl, lN_lt63 ha (by omega)]; omega
theorem hasBox_yes (hE : EOk E) (hL : 1 ≤ L) {r nB nT b : Nat} {tv : Nat → Nat → Nat} (S : StV h r nB nT tv) (hb : b < nB) : RdI E L m_Store_hasBox r [.long (lN b)] h 1 := by
  have h8 := S.2.2.2.1
  refine (store_hasBox hE hL S (lN b)).eq (if_pos ⟨lN_nn (by omega), ?_⟩)
  rw [lN_lt63 (by omega) (by omega)]; exact hb
theorem hasBox_no (hE : EOk E) (hL : 1 ≤ L) {r nB nT : Nat} {tv : Nat → Nat → Nat} {v : Int64} (S : StV h r nB nT tv) (hb : ∀ b, b < nB → v ≠ lN b) : RdI E L m_Store_hasBox r [.long v] h 0 := by
  have h8 := S.2.2.2.1
  refine (store_hasBox hE hL S v).eq (if_neg (fun q => ?_))
  obtain ⟨k, hk, rfl⟩ := pk_lOf q.1
  exact hb k ((lN_lt63 hk (by omega)).mp q.2) rfl
theorem hasItem_yes (hE : EOk E) (hL : 2 ≤ L) {r nB nT i : Nat} {tv : Nat → Nat → Nat} (S : StV h r nB nT tv) (hi : isIt nB nT i) : RdI E L m_Store_hasItem r [.long (lN i)] h 1 := by
  have h8 := S.2.2.2.1
  have h16 := S.2.2.2.2.1
  refine B_Store_hasItem hE (by omega) S.1 ?_
  by_cases hb : i < nB
  · refine (hasBox_yes hE (by omega) S hb).use (brF' (by decide) ⟨rfl, rfl⟩)
  · refine (hasBox_no hE (by omega) S (fun b hb2 e => hb ?_)).use (brT' rfl ?_)
    · have := (pk_lEQ (a := i) (b := b) (by rcases hi with q | q <;> omega) (by omega)).mp e
      omega
    · have hi2 : 8 ≤ i ∧ i < 8 + nT := hi.resolve_left hb
      rw [S.2.2.1, lgc_lt, lgc_ge, show (8 : Int32) = nI 8 from rfl, nI_add, nI_l (by omega), show (8 : Int64) = lN 8 from rfl, lN_lt63 (by omega) (by omega), lN_lt63 (by omega) (by omega)]
      exact brF (by omega) (brF (by omega) ⟨rfl, rfl⟩)
theorem hasItem_no (hE : EOk E) (hL : 2 ≤ L) {r nB nT : Nat} {v : Int64} {tv : Nat → Nat → Nat} (S : StV h r nB nT tv) (hi : ∀ i, isIt nB nT i → v ≠ lN i) : RdI E L m_Store_hasItem r [.long v] h 0 := by
  have h8 := S.2.2.2.1
  have h16 := S.2.2.2.2.1
  refine B_Store_hasItem hE (by omega) S.1 ?_
  refine (hasBox_no hE (by omega) S (fun b hb e => hi b (Or.inl hb) e)).use (brT' rfl ?_)
  rw [S.2.2.1, lgc_lt, lgc_ge, show (8 : Int32) = nI 8 from rfl, nI_add, nI_l (by omega)]
  refine ⟨fun _ => ⟨rfl, rfl⟩, fun c => brT (fun c2 => ?_) ⟨rfl, rfl⟩⟩
  have h0 : ¬ v < 0 := fun c3 => c (Int64.lt_trans c3 (by decide))
  obtain ⟨k, hk, rfl⟩ := pk_lOf h0
  rw [show (8 : Int64) = lN 8 from rfl, lN_lt63 hk (by omega)] at c
  rw [lN_lt63 hk (by omega)] at c2
  exact hi k (Or.inr ⟨by omega, c2⟩) rfl
theorem roomBy_ok (hE : EOk E) (hL : 1 ≤ L) {a f n : Nat} (ha : a * f < 2147483648) (hn : n < 31) : RdI E L m_X_roomBy 0 [.int (nI a), .int (nI f), .int (nI n)] h (nI (a * f / 2 ^ n)) := by
  refine B_X_roomBy hE hL ?_
  have e1 : nI a * nI f = nI (a * f) := nI_mul a f
  have e2 : ((nI n &&& 31).toBitVec.smod 32).toNat = n := (show ∀ n, n < 32 → ((nI n &&& 31).toBitVec.smod 32).toNat = n by decide +kernel) n (by omega)
  rw [e1, pk_shrN ha _ n e2]
  exact ⟨rfl, rfl⟩
theorem store_roomOf (hE : EOk E) (hL : 2 ≤ L) {r nB nT b n : Nat} {tv : Nat → Nat → Nat} (S : StV h r nB nT tv) (hb : b < 24) (hn : n < 31) : RdI E L m_Store_roomOf r [.int (nI b), .int (nI n)] h (nI (tv b 0 * tv b 5 / 2 ^ n)) := by
  have h1 := (S.2.2.2.2.2 b 0 hb (by omega)).2
  have h2 := (S.2.2.2.2.2 b 5 hb (by omega)).2
  have h3 : tv b 0 * tv b 5 < 2147483648 := Nat.lt_of_le_of_lt (Nat.mul_le_mul h1 h2) (by decide)
  exact B_Store_roomOf hE (by omega) S.1 ((store_told hE (by omega) S hb (k := 0) (by omega)).use ((store_told hE (by omega) S hb (k := 5) (by omega)).use ((roomBy_ok hE (by omega) h3 hn).use ⟨rfl, rfl⟩)))
theorem store_itemAt (hE : EOk E) (hL : 1 ≤ L) {r nB nT k : Nat} {tv : Nat → Nat → Nat} (S : StV h r nB nT tv) (hk : k < nB + nT) : RdI E L m_Store_itemAt r [.int (nI k)] h (nI (if k < nB then k else 8 + k - nB)) := by
  have h8 := S.2.2.2.1
  have h16 := S.2.2.2.2.1
  refine B_Store_itemAt hE hL S.1 ?_
  rw [S.2.1]
  by_cases c : k < nB
  · rw [if_pos c]
    exact brF (nI_ge c (by omega)) ⟨rfl, rfl⟩
  · rw [if_neg c, show (8 : Int32) = nI 8 from rfl, nI_add, nI_sub (by omega)]
    exact brT (nI_le (by omega) (by omega)) ⟨rfl, rfl⟩
theorem store_weightOfBoxes (hE : EOk E) (hL : 2 ≤ L) {r nB nT : Nat} {tv : Nat → Nat → Nat} (S : StV h r nB nT tv) (x : Int32) : RdI E L m_Store_weightOfBoxes r [.int x] h (nI (sE (fun b => if (x >>> (nI b &&& 31)) &&& 1 = 0 then 0 else tv b 2) nB)) := by
  have h8 := S.2.2.2.1
  refine B_Store_weightOfBoxes hE (by omega) S.1 ?_
  refine upto (P := fun k => at_Store_weightOfBoxes_4 E L r h _ x (nI (sE (fun b => if (x >>> (nI b &&& 31)) &&& 1 = 0 then 0 else tv b 2) k)) (nI k)) (n := nB) ?_ ?_ 0 (Nat.zero_le _)
  · refine B_Store_weightOfBoxes_4 ?_
    rw [S.2.1]
    exact brT (nI_le (Nat.le_refl _) (by omega)) ⟨rfl, rfl⟩
  · intro k hk ih
    refine B_Store_weightOfBoxes_4 ?_
    rw [S.2.1, nI_1]
    refine brF (nI_ge hk (by omega)) ⟨fun c => ?_, fun c => ?_⟩
    · simp only [sE, if_pos c] at ih
      exact ih
    · refine (store_told hE (by omega) S (i := k) (k := 2) (by omega) (by omega)).use ?_
      simp only [sE, if_neg c] at ih
      rw [nI_add]
      exact ih
end RowStore
