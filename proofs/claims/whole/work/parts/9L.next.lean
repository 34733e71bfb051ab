/-! ===== the reference's next token ===== -/
section NextM
variable {E : EnvX} {L : Nat} {h h0 : Hp} {T : Nat → Nat} {n : Nat}
def mTp (h : Hp) (T : Nat → Nat) (n : Nat) : Prop := n ≤ 900 ∧ h.1 74 8 = nI n ∧ ∀ p, p < n → h.2.1 77 p = nI (T p) ∧ T p < 256
def mSg (T : Nat → Nat) (n p : Nat) : Int32 := if p < n then nI (T p) else -1
theorem m_see (hE : EOk E) (hL : 1 ≤ L) (t : mTp h T n) {p : Nat} (hp : p < 2147483648) : RdI E L m_M_see 74 [.int (nI p)] h (mSg T n p) := by
  obtain ⟨t1, t2, t3⟩ := t
  refine B_M_see hE hL ?_
  rw [t2, nIl (by omega) hp]
  unfold mSg
  refine ⟨fun c => ?_, fun c => ?_⟩
  · rw [if_neg (by omega)]; exact ⟨rfl, rfl⟩
  · rw [if_pos (by omega), nIc hp, (t3 p (by omega)).1]
    exact ⟨inI_of k10.2.2.1 (by rw [k10.2.2.2]; omega) (by rw [k10.2.2.2]; decide), rfl, rfl⟩
theorem mSg_y {p : Nat} (c : p < n) : mSg T n p = nI (rSg T n p) := by unfold mSg; rw [if_pos c, rSg_y c]
theorem mSg_n {p : Nat} (c : ¬ p < n) : mSg T n p = -1 := by unfold mSg; rw [if_neg c]
theorem mTp.b (t : mTp h T n) (p : Nat) : rSg T n p < 2147483648 := by
  have := rSg_lt (T := T) (n := n) (fun q hq => (t.2.2 q hq).2) p
  omega
theorem mSg_eq (t : mTp h T n) {p c : Nat} (h0 : c ≠ 0) (h1 : c < 256) : mSg T n p = nI c ↔ rSg T n p = c := by
  by_cases q : p < n
  · rw [mSg_y q]
    exact nIe (t.b p) (by omega)
  · rw [mSg_n q, rSg_n (by omega)]
    exact ⟨fun z => absurd z.symm (nIm1 (by omega)), fun z => absurd z.symm h0⟩
theorem m_small (hE : EOk E) (hL : 1 ≤ L) (t : mTp h T n) (p : Nat) : RdI E L m_M_isSmall 0 [.int (mSg T n p)] h (if rLt (rSg T n p) = true then 1 else 0) := by
  by_cases q : p < n
  · have hc := t.b p
    rw [mSg_y q]
    refine B_M_isSmall hE hL ?_
    rw [show (97 : Int32) = nI 97 from rfl, show (122 : Int32) = nI 122 from rfl, nIt hc (by decide), nIt (by decide) hc]
    refine ⟨fun q => ?_, fun q => ⟨fun q2 => ?_, fun q2 => ?_⟩⟩
    · rw [if_neg (fun z => by have := rLt_iff.mp z; omega)]; exact ⟨rfl, rfl⟩
    · rw [if_neg (fun z => by have := rLt_iff.mp z; omega)]; exact ⟨rfl, rfl⟩
    · rw [if_pos (rLt_iff.mpr (by omega))]; exact ⟨rfl, rfl⟩
  · rw [mSg_n q, rSg_n (by omega)]
    exact B_M_isSmall hE hL (brT (by decide) ⟨rfl, rfl⟩)
theorem m_digit (hE : EOk E) (hL : 1 ≤ L) (t : mTp h T n) (p : Nat) : RdI E L m_M_isDigit 0 [.int (mSg T n p)] h (if rDg (rSg T n p) = true then 1 else 0) := by
  by_cases q : p < n
  · have hc := t.b p
    rw [mSg_y q]
    refine B_M_isDigit hE hL ?_
    rw [show (48 : Int32) = nI 48 from rfl, show (57 : Int32) = nI 57 from rfl, nIt hc (by decide), nIt (by decide) hc]
    refine ⟨fun q => ?_, fun q => ⟨fun q2 => ?_, fun q2 => ?_⟩⟩
    · rw [if_neg (fun z => by have := rDg_iff.mp z; omega)]; exact ⟨rfl, rfl⟩
    · rw [if_neg (fun z => by have := rDg_iff.mp z; omega)]; exact ⟨rfl, rfl⟩
    · rw [if_pos (rDg_iff.mpr (by omega))]; exact ⟨rfl, rfl⟩
  · rw [mSg_n q, rSg_n (by omega)]
    exact B_M_isDigit hE hL (brT (by decide) ⟨rfl, rfl⟩)
/-! keys -/
def kP (k : Nat) : Nat := [1, 5, 8, 12, 18, 25, 31, 37, 43].getD k 43
theorem kP_tab : ∀ k, k < 8 → (kW k).length ≤ 6 ∧ 1 ≤ (kW k).length ∧ kP k + (kW k).length + 1 = kP (k + 1) ∧ kP k + (kW k).length < 43 ∧ ∀ i, i < 7 → (i < (kW k).length → (sBy (953 - 950)).getD (kP k + i) 0 = nI ((kW k).getD i 0) ∧ (kW k).getD i 0 ≠ 32 ∧ (kW k).getD i 0 < 256) ∧ (i = (kW k).length → (sBy (953 - 950)).getD (kP k + i) 0 = 32) := by decide +kernel
theorem kW_inj : ∀ k, k < 8 → ∀ j, j < 8 → kW k = kW j → k = j := by decide +kernel
theorem rSpl_inj {a e : Nat} {W W' : List Nat} (p : rSpl T n a e W) (q : rSpl T n a e W') : W = W' := by
  have hl : W.length = W'.length := by have := p.1; have := q.1; omega
  refine List.ext_getElem hl (fun i h1 h2 => ?_)
  have e1 := p.2 i h1
  have e2 := q.2 i h2
  rw [e1] at e2
  rw [List.getD_eq_getElem?_getD, List.getD_eq_getElem?_getD, List.getElem?_eq_getElem h1, List.getElem?_eq_getElem h2] at e2
  exact e2
def kyP (T : Nat → Nat) (n a e : Nat) (h : Hp) (y : Int32) (h' : Hp) : Prop := ∃ κ, y = nI κ ∧ κ ≤ 8 ∧ (∀ k, k < 8 → (κ = k ↔ rSpl T n a e (kW k))) ∧ h' = h
theorem m_keyAt (hE : EOk E) (hL : 1 ≤ L) (t : mTp h T n) {a e : Nat} (h6 : h.1 74 6 = nI a) (h7 : h.1 74 7 = nI e) (hae : a < e) (he : e ≤ n) : ConI E L m_M_keyAt 74 [] h (kyP T n a e h) := by
  have hn := t.1
  have h43 : (sBy (953 - 950)).length = 43 := rfl
  refine B_M_keyAt hE hL ?_
  have l97 : ∀ d k j, k < 8 → d + j = (kW k).length → at_M_keyAt_4 E L h (kyP T n a e h) (nI (k + 1)) (nI (kP (k + 1))) → at_M_keyAt_97 E L h (kyP T n a e h) (nI k) (nI (kP k + j)) := by
    intro d
    induction d with
    | zero =>
      intro k j hk hd H
      obtain ⟨k1, k2, k3, k4, k5⟩ := kP_tab k hk
      have c := (k5 j (by omega)).2 (by omega)
      refine B_M_keyAt_97 ⟨⟨by decide, by decide⟩, by decide, vp_in_nI (by rw [h43]; omega) (by rw [h43]; decide), brT (by rw [nIc (by omega)]; exact c) ?_⟩
      rw [nI_1, nI_1, show kP k + j + 1 = kP (k + 1) by omega]
      exact H
    | succ d ih =>
      intro k j hk hd H
      obtain ⟨k1, k2, k3, k4, k5⟩ := kP_tab k hk
      obtain ⟨c1, c2, c3⟩ := (k5 j (by omega)).1 (by omega)
      refine B_M_keyAt_97 ⟨⟨by decide, by decide⟩, by decide, vp_in_nI (by rw [h43]; omega) (by rw [h43]; decide), brF ?_ ?_⟩
      · rw [nIc (by omega), c1, show (32 : Int32) = nI 32 from rfl, nIe (by omega) (by decide)]
        exact c2
      · rw [nI_1, Nat.add_assoc]
        exact ih k (j + 1) hk (by omega) H
  have l15 : ∀ d k i, k < 8 → d + i = (kW k).length → a + i ≤ e → (∀ j, j < i → rSg T n (a + j) = (kW k).getD j 0) → (¬ rSpl T n a e (kW k) → at_M_keyAt_4 E L h (kyP T n a e h) (nI (k + 1)) (nI (kP (k + 1)))) → (rSpl T n a e (kW k) → kyP T n a e h (nI k) h) → at_M_keyAt_15 E L h (kyP T n a e h) (nI k) (nI (kP k)) (nI i) := by
    intro d
    induction d with
    | zero =>
      intro k i hk hd hi hj H1 H2
      obtain ⟨k1, k2, k3, k4, k5⟩ := kP_tab k hk
      have c := (k5 i (by omega)).2 (by omega)
      refine B_M_keyAt_15 ?_
      rw [h6, h7, nI_add, nI_add, nIc (by omega), c, nIe (by omega) (by omega)]
      refine ⟨⟨by decide, by decide⟩, by decide, vp_in_nI (by rw [h43]; omega) (by rw [h43]; decide), brT rfl ⟨⟨by decide, by decide⟩, by decide, vp_in_nI (by rw [h43]; omega) (by rw [h43]; decide), brT' rfl ⟨fun q => ?_, fun q => ?_⟩⟩⟩
      · exact l97 (kW k).length k 0 hk (by omega) (H1 (fun z => q (by have := z.1; omega)))
      · exact H2 ⟨by omega, fun j hj2 => hj j (by omega)⟩
    | succ d ih =>
      intro k i hk hd hi hj H1 H2
      obtain ⟨k1, k2, k3, k4, k5⟩ := kP_tab k hk
      obtain ⟨c1, c2, c3⟩ := (k5 i (by omega)).1 (by omega)
      have n32 : ¬ nI ((kW k).getD i 0) = 32 := by
        rw [show (32 : Int32) = nI 32 from rfl, nIe (by omega) (by decide)]
        exact c2
      have vp : vp_in (nI (kP k + i)) (sBy (953 - 950)).length := vp_in_nI (by rw [h43]; omega) (by rw [h43]; decide)
      have go : ¬ rSpl T n a e (kW k) → at_M_keyAt_97 E L h (kyP T n a e h) (nI k) (nI (kP k)) := fun z => l97 (kW k).length k 0 hk (by omega) (H1 z)
      refine B_M_keyAt_15 ?_
      rw [h6, h7, nI_add, nI_add, nIc (by omega), c1, nIl (by omega) (by omega), nIc (by omega)]
      refine ⟨⟨by decide, by decide⟩, by decide, vp, brF n32 ⟨fun q => ⟨⟨by decide, by decide⟩, by decide, vp, brF' n32 (go (fun z => by have := z.1; omega))⟩, fun q => ?_⟩⟩
      have tv := t.2.2 (a + i) (by omega)
      refine ⟨inI_of k10.2.2.1 (by rw [k10.2.2.2]; omega) (by rw [k10.2.2.2]; decide), ⟨by decide, by decide⟩, by decide, vp, ?_⟩
      rw [tv.1, nIe (by omega) (by omega), ← rSg_y (T := T) (n := n) (p := a + i) (by omega)]
      refine ⟨fun q2 => ⟨⟨by decide, by decide⟩, by decide, vp, brF' n32 (go (fun z => q2 (z.2 i (by omega))))⟩, fun q2 => ?_⟩
      rw [nI_1]
      refine ih k (i + 1) hk (by omega) (by omega) (fun j hj2 => ?_) H1 H2
      rcases Nat.lt_or_ge j i with z | z
      · exact hj j z
      · rw [show j = i by omega]; exact q2
  have l4 : ∀ d k, d + k = 8 → (∀ j, j < k → ¬ rSpl T n a e (kW j)) → at_M_keyAt_4 E L h (kyP T n a e h) (nI k) (nI (kP k)) := by
    intro d
    induction d with
    | zero =>
      intro k hk hj
      rw [show k = 8 by omega] at hj ⊢
      refine B_M_keyAt_4 ⟨⟨by decide, by decide⟩, by decide, brT (by rw [h43]; decide) ⟨8, rfl, by omega, fun k hk2 => ⟨fun z => by omega, fun z => absurd z (hj k hk2)⟩, rfl⟩⟩
    | succ d ih =>
      intro k hk hj
      obtain ⟨k1, k2, k3, k4, k5⟩ := kP_tab k (by omega)
      refine B_M_keyAt_4 ⟨⟨by decide, by decide⟩, by decide, brF (by rw [h43]; exact nG 43 (by omega)) ?_⟩
      refine l15 (kW k).length k 0 (by omega) (by omega) (by omega) (fun j hj2 => absurd hj2 (Nat.not_lt_zero j)) (fun z => ih (k + 1) (by omega) (fun j hj2 => ?_)) (fun z => ⟨k, rfl, by omega, fun j hj2 => ⟨fun e1 => e1 ▸ z, fun w => kW_inj k (by omega) j hj2 (rSpl_inj z w)⟩, rfl⟩)
      rcases Nat.lt_or_ge j k with w | w
      · exact hj j w
      · rw [show j = k by omega]; exact z
  exact l4 8 0 (by omega) (fun j hj => absurd hj (Nat.not_lt_zero j))
/-! next -/
def mF (h0 h : Hp) : Prop := EqO (fun q => q = 74) h0 h ∧ h.1 74 8 = h0.1 74 8 ∧ h.1 74 5 = h0.1 74 5
theorem mF.tp (f : mF h0 h) (t : mTp h0 T n) : mTp h T n := by
  refine ⟨t.1, f.2.1.trans t.2.1, fun p hp => ?_⟩
  rw [(f.1 77 (by omega)).2.1]; exact t.2.2 p hp
theorem mF.s (f : mF h0 h) {k : Nat} {v : Int32} (h3 : k ≠ 8) (h2 : k ≠ 5) : mF h0 (sI h 74 k v) := by
  refine ⟨f.1.trans (EqO.sI rfl), ?_, ?_⟩
  · rw [sI_1, if_pos rfl, if_neg (fun e => h3 e.symm)]; exact f.2.1
  · rw [sI_1, if_pos rfl, if_neg (fun e => h2 e.symm)]; exact f.2.2
theorem mF.rfl' : mF h h := ⟨EqO.rfl', rfl, rfl⟩
theorem mF.trans {h1 h2 : Hp} (a : mF h h1) (b : mF h1 h2) : mF h h2 := ⟨a.1.trans b.1, b.2.1.trans a.2.1, b.2.2.trans a.2.2⟩
def mTk (T : Nat → Nat) (n : Nat) (h : Hp) (a e κ v : Nat) : Prop := h.1 74 6 = nI a ∧ h.1 74 7 = nI e ∧ h.1 74 9 = nI κ ∧ (κ = 9 → h.1 74 10 = nI v) ∧ tok T n a e κ v
def nxP (h0 : Hp) (T : Nat → Nat) (n p : Nat) (h : Hp) : Prop := mF h0 h ∧ h.1 74 11 = h0.1 74 11 ∧ ∃ a e κ v, p ≤ a ∧ (∀ i, p ≤ i → i < a → rBeg T n i = false) ∧ mTk T n h a e κ v
theorem rCl_n : rCl T n n := by
  unfold rCl
  rw [rSg_n (Nat.le_refl _)]
  exact ⟨fun q => absurd q.1 (by decide), fun q => absurd q.1 (by decide)⟩
theorem m_next (hE : EOk E) (hL : 3 ≤ L) (t0 : mTp h0 T n) {p : Nat} (h7 : h0.1 74 7 = nI p) (hp : p ≤ n) (hc : rCl T n p) : ConV E L m_M_next 74 [] h0 (nxP h0 T n p) := by
  have hn := t0.1
  refine B_M_next hE (by omega) ?_
  have w89 : ∀ q, p ≤ q → (∀ i, p ≤ i → i < q → rBeg T n i = false) → rBeg T n q = true → rLt (rSg T n q) = true → ∀ d z, z + d = n → q ≤ z → (∀ i, q ≤ i → i < z → rLt (rSg T n i) = true) → ∀ g, mF h0 g → g.1 74 11 = h0.1 74 11 → g.1 74 6 = nI q → g.1 74 7 = nI z → at_M_next_89 E L g (nxP h0 T n p) := by
    intro q hpq hno hb hl d
    induction d with
    | zero =>
      intro z hz hqz hlt g f g11 g6 g7
      have tg := f.tp t0
      have hqn := rLt_in hl
      have nz : ¬ rLt (rSg T n z) = true := by rw [rSg_n (by omega)]; decide
      refine B_M_next_89 ?_
      rw [g7]
      refine (m_see hE (by omega) tg (by omega)).use ((m_small hE (by omega) tg z).use ?_)
      rw [if_neg nz]
      refine brT rfl ((m_keyAt hE (by omega) tg g6 g7 (by omega) (by omega)).mono (fun y h' k => ?_))
      obtain ⟨κ, rfl, k1, k2, rfl⟩ := k
      refine ⟨f.s (by decide) (by decide), g11, q, z, κ, 0, hpq, hno, g6, g7, rfl, fun c => by omega, by omega, by omega, ?_, Or.inr ⟨hb, by omega, Or.inl ⟨k1, hlt, nz, k2⟩⟩⟩
      rw [show z = n by omega]; exact rCl_n
    | succ d ih =>
      intro z hz hqz hlt g f g11 g6 g7
      have tg := f.tp t0
      refine B_M_next_89 ?_
      rw [g7]
      refine (m_see hE (by omega) tg (by omega)).use ((m_small hE (by omega) tg z).use ?_)
      by_cases c : rLt (rSg T n z) = true
      · rw [if_pos c, g7, nI_1]
        refine brF (by decide) (ih (z + 1) (by omega) (by omega) (fun i h1 h2 => ?_) _ (f.s (by decide) (by decide)) g11 g6 rfl)
        rcases Nat.lt_or_ge i z with w | w
        · exact hlt i h1 w
        · rw [show i = z by omega]; exact c
      · rw [if_neg c]
        have hqz2 : q < z := by
          rcases Nat.lt_or_ge q z with w | w
          · exact w
          · rw [show z = q by omega] at c; exact absurd hl c
        refine brT rfl ((m_keyAt hE (by omega) tg g6 g7 hqz2 (by omega)).mono (fun y h' k => ?_))
        obtain ⟨κ, rfl, k1, k2, rfl⟩ := k
        refine ⟨f.s (by decide) (by decide), g11, q, z, κ, 0, hpq, hno, g6, g7, rfl, fun c => by omega, by omega, by omega, ⟨fun w => c w.1, fun w => ?_⟩, Or.inr ⟨hb, hqz2, Or.inl ⟨k1, hlt, c, k2⟩⟩⟩
        obtain ⟨y, rfl⟩ : ∃ y, z = y + 1 := ⟨z - 1, by omega⟩
        rw [rAh_s] at w
        exact rDL w.2 (hlt y (by omega) (by omega))
  have w146 : ∀ q, p ≤ q → (∀ i, p ≤ i → i < q → rBeg T n i = false) → rBeg T n q = true → rDg (rSg T n q) = true → ∀ d z, z + d = n → q ≤ z → (∀ i, q ≤ i → i < z → rDg (rSg T n i) = true) → ∀ g, mF h0 g → g.1 74 11 = h0.1 74 11 → g.1 74 6 = nI q → g.1 74 7 = nI z → g.1 74 10 = nI (rVl T n q (min 4 (z - q))) → at_M_next_146 E L g (nxP h0 T n p) := by
    intro q hpq hno hb hl
    have fin : ∀ z, z ≤ n → q ≤ z → (∀ i, q ≤ i → i < z → rDg (rSg T n i) = true) → ¬ rDg (rSg T n z) = true → ∀ g, mF h0 g → g.1 74 11 = h0.1 74 11 → g.1 74 6 = nI q → g.1 74 7 = nI z → g.1 74 10 = nI (rVl T n q (min 4 (z - q))) → ((((g.1 74 7) - (g.1 74 6)) ≤ 4 → nxP h0 T n p (sI g 74 9 9)) ∧ (¬ ((g.1 74 7) - (g.1 74 6)) ≤ 4 → nxP h0 T n p (sI g 74 9 12))) := by
      intro z hz hqz hlt c g f g11 g6 g7 g10
      have hqz2 : q < z := by
        rcases Nat.lt_or_ge q z with w | w
        · exact w
        · rw [show z = q by omega] at c; exact absurd hl c
      have cl : rCl T n z := by
        refine ⟨fun w => ?_, fun w => c w.1⟩
        obtain ⟨y, rfl⟩ : ∃ y, z = y + 1 := ⟨z - 1, by omega⟩
        rw [rAh_s] at w
        exact rDL (hlt y (by omega) (by omega)) w.2
      rw [g6, g7, nI_sub hqz, show (4 : Int32) = nI 4 from rfl, nIl (by omega) (by decide)]
      refine ⟨fun w => ?_, fun w => ?_⟩
      · rw [show min 4 (z - q) = z - q by omega] at g10
        exact ⟨f.s (by decide) (by decide), g11, q, z, 9, rVl T n q (z - q), hpq, hno, g6, g7, rfl, fun _ => g10, by omega, by omega, cl, Or.inr ⟨hb, hqz2, Or.inr (Or.inl ⟨hlt, c, Or.inl ⟨rfl, w, rfl⟩⟩)⟩⟩
      · exact ⟨f.s (by decide) (by decide), g11, q, z, 12, 0, hpq, hno, g6, g7, rfl, fun k => absurd k (by decide), by omega, by omega, cl, Or.inr ⟨hb, hqz2, Or.inr (Or.inl ⟨hlt, c, Or.inr ⟨rfl, by omega⟩⟩)⟩⟩
    intro d
    induction d with
    | zero =>
      intro z hz hqz hlt g f g11 g6 g7 g10
      have tg := f.tp t0
      have nz : ¬ rDg (rSg T n z) = true := by rw [rSg_n (by omega)]; decide
      refine B_M_next_146 ?_
      have e7 : (.int (g.1 74 7) : Value) = .int (nI z) := by rw [g7]
      rw [e7]
      refine (m_see hE (by omega) tg (by omega)).use ((m_digit hE (by omega) tg z).use ?_)
      rw [if_neg nz]
      exact brT rfl (fin z (by omega) hqz hlt nz g f g11 g6 g7 g10)
    | succ d ih =>
      intro z hz hqz hlt g f g11 g6 g7 g10
      have tg := f.tp t0
      refine B_M_next_146 ?_
      have e7 : (.int (g.1 74 7) : Value) = .int (nI z) := by rw [g7]
      rw [e7]
      refine (m_see hE (by omega) tg (by omega)).use ((m_digit hE (by omega) tg z).use ?_)
      by_cases c : rDg (rSg T n z) = true
      · rw [if_pos c]
        refine brF (by decide) ?_
        have hlt2 : ∀ i, q ≤ i → i < z + 1 → rDg (rSg T n i) = true := fun i h1 h2 => by
          rcases Nat.lt_or_ge i z with w | w
          · exact hlt i h1 w
          · rw [show i = z by omega]; exact c
        rw [g6, g7, nI_sub hqz, show (4 : Int32) = nI 4 from rfl, nIl (by decide) (by omega), nI_1]
        refine ⟨fun w => ?_, fun w => ?_⟩
        · refine ih (z + 1) (by omega) (by omega) hlt2 _ (f.s (by decide) (by decide)) g11 g6 rfl ?_
          rw [show min 4 (z + 1 - q) = min 4 (z - q) by omega]
          exact g10
        · refine (m_see hE (by omega) tg (by omega)).use ?_
          have hV := rVl_lt (T := T) (n := n) q (z - q) (fun i hi => hlt (q + i) (by omega) (by omega))
          have hV2 : (10 : Nat) ^ (z - q) ≤ 10 ^ 4 := Nat.pow_le_pow_right (by decide) (by omega)
          have c' := rDg_iff.mp c
          have e : (10 : Int32) * g.1 74 10 + mSg T n z - 48 = nI (rVl T n q (min 4 (z + 1 - q))) := by
            rw [g10, mSg_y (rDg_in c), show (10 : Int32) = nI 10 from rfl, show (48 : Int32) = nI 48 from rfl, nI_mul, nI_add, nI_sub (by omega), show min 4 (z + 1 - q) = (z - q) + 1 by omega, show min 4 (z - q) = z - q by omega]
            show _ = nI (10 * rVl T n q (z - q) + (rSg T n (q + (z - q)) - 48))
            rw [show q + (z - q) = z by omega]
            congr 1; omega
          rw [e]
          refine ih (z + 1) (by omega) (by omega) hlt2 _ ((f.s (by decide) (by decide)).s (by decide) (by decide)) g11 g6 ?_ rfl
          rw [sI_1, if_pos rfl, if_pos rfl]
          show g.1 74 7 + 1 = nI (z + 1)
          rw [g7, nI_1]
      · rw [if_neg c]
        exact brT rfl (fin z (by omega) hqz hlt c g f g11 g6 g7 g10)
  have step : ∀ q, p ≤ q → q ≤ n → (∀ i, p ≤ i → i < q → rSg T n i = 10 ∨ rSg T n i = 32) → ∀ g, mF h0 g → g.1 74 11 = h0.1 74 11 → g.1 74 6 = nI q → (q < n → (rSg T n q = 10 ∨ rSg T n q = 32) → at_M_next_8 E L (sI g 74 6 (nI (q + 1))) (nxP h0 T n p)) → at_M_next_8 E L g (nxP h0 T n p) := by
    intro q hpq hqn hsp g f g11 g6 ih
    have tg := f.tp t0
    have hno : ∀ i, p ≤ i → i < q → rBeg T n i = false := fun i a b => rBeg_sp (hsp i a b)
    have hin : (rSg T n q = 10 ∨ rSg T n q = 32) → q < n := fun w => by
      rcases Nat.lt_or_ge q n with z | z
      · exact z
      · rw [rSg_n z] at w; omega
    refine B_M_next_8 ?_
    rw [g6]
    refine (m_see hE (by omega) tg (by omega)).use ?_
    rw [show (10 : Int32) = nI 10 from rfl, mSg_eq tg (by decide) (by decide), g6, nI_1]
    refine ⟨fun c => ih (hin (Or.inl c)) (Or.inl c), fun c => ?_⟩
    refine (m_see hE (by omega) tg (by omega)).use ?_
    rw [show (32 : Int32) = nI 32 from rfl, mSg_eq tg (by decide) (by decide), g6, nI_1]
    refine ⟨fun c2 => ?_, fun c2 => ih (hin (Or.inr c2)) (Or.inr c2)⟩
    have f1 : mF h0 (sI g 74 7 (nI q)) := f.s (by decide) (by decide)
    have t1 := f1.tp t0
    have e6 : (sI g 74 7 (nI q)).1 74 6 = nI q := g6
    have e8 : (sI g 74 7 (nI q)).1 74 8 = nI n := tg.2.1
    have clq : rCl T n q := by
      rcases Nat.lt_or_ge p q with w | w
      · obtain ⟨y, rfl⟩ : ∃ y, q = y + 1 := ⟨q - 1, by omega⟩
        have := hsp y (by omega) (by omega)
        unfold rCl
        rw [rAh_s]
        exact ⟨fun z => by have := rLt_iff.mp z.2; omega, fun z => by have := rDg_iff.mp z.2; omega⟩
      · rw [show q = p by omega]; exact hc
    rw [e6, e8, nIt (by omega) (by omega)]
    refine ⟨fun cq => ?_, fun cq => ?_⟩
    · have hb : rBeg T n q = true := rBeg_iff.mpr ⟨c, c2, clq.1, clq.2⟩
      refine (m_see hE (by omega) t1 (by omega)).use ((m_small hE (by omega) t1 q).use ?_)
      by_cases cl : rLt (rSg T n q) = true
      · rw [if_pos cl]
        exact brF (by decide) (w89 q hpq hno hb cl (n - q) q (by omega) (by omega) (fun i h1 h2 => by omega) _ f1 g11 g6 rfl)
      · rw [if_neg cl, e6]
        refine brT rfl ((m_see hE (by omega) t1 (by omega)).use ((m_digit hE (by omega) t1 q).use ?_))
        by_cases cd : rDg (rSg T n q) = true
        · rw [if_pos cd]
          refine brF (by decide) (w146 q hpq hno hb cd (n - q) q (by omega) (by omega) (fun i h1 h2 => by omega) _ (f1.s (by decide) (by decide)) g11 g6 rfl ?_)
          rw [Nat.sub_self]; rfl
        · rw [if_neg cd]
          refine brT rfl ?_
          have e7 : (sI g 74 7 (nI q)).1 74 7 + 1 = nI (q + 1) := by rw [sI_1, if_pos rfl, if_pos rfl, nI_1]
          rw [e7]
          have f2 : mF h0 (sI (sI g 74 7 (nI q)) 74 7 (nI (q + 1))) := f1.s (by decide) (by decide)
          have e62 : (sI (sI g 74 7 (nI q)) 74 7 (nI (q + 1))).1 74 6 = nI q := g6
          rw [e62]
          refine (m_see hE (by omega) (f2.tp t0) (by omega)).use ?_
          rw [show (59 : Int32) = nI 59 from rfl, mSg_eq tg (by decide) (by decide)]
          have cl2 : rCl T n (q + 1) := by
            unfold rCl
            rw [rAh_s]
            exact ⟨fun z => cl z.2, fun z => cd z.2⟩
          refine ⟨fun w => ?_, fun w => ?_⟩
          · exact ⟨f2.s (by decide) (by decide), g11, q, q + 1, 12, 0, hpq, hno, g6, rfl, rfl, fun k => absurd k (by decide), by omega, by omega, cl2, Or.inr ⟨hb, by omega, Or.inr (Or.inr ⟨cl, cd, rfl, Or.inr ⟨rfl, w⟩⟩)⟩⟩
          · exact ⟨f2.s (by decide) (by decide), g11, q, q + 1, 10, 0, hpq, hno, g6, rfl, rfl, fun k => absurd k (by decide), by omega, by omega, cl2, Or.inr ⟨hb, by omega, Or.inr (Or.inr ⟨cl, cd, rfl, Or.inl ⟨rfl, w⟩⟩)⟩⟩
    · have e : q = n := by omega
      refine ⟨f1.s (by decide) (by decide), g11, q, q, 11, 0, hpq, hno, g6, rfl, rfl, fun k => absurd k (by decide), by omega, by omega, clq, Or.inl ⟨rfl, e, e⟩⟩
  have main : ∀ d q, q + d = n → p ≤ q → (∀ i, p ≤ i → i < q → rSg T n i = 10 ∨ rSg T n i = 32) → ∀ g, mF h0 g → g.1 74 11 = h0.1 74 11 → g.1 74 6 = nI q → at_M_next_8 E L g (nxP h0 T n p) := by
    intro d
    induction d with
    | zero =>
      intro q hq hpq hsp g f g11 g6
      exact step q hpq (by omega) hsp g f g11 g6 (fun w => by omega)
    | succ d ih =>
      intro q hq hpq hsp g f g11 g6
      refine step q hpq (by omega) hsp g f g11 g6 (fun w w2 => ih (q + 1) (by omega) (by omega) (fun i h1 h2 => ?_) _ (f.s (by decide) (by decide)) g11 rfl)
      rcases Nat.lt_or_ge i q with z | z
      · exact hsp i h1 z
      · rw [show i = q by omega]; exact w2
  exact main (n - p) p (by omega) (by omega) (fun i h1 h2 => by omega) _ (mF.rfl'.s (by decide) (by decide)) rfl h7
end NextM
