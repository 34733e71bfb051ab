/-! ===== rows on both sides ===== -/
theorem sh13 {r : Nat} (hr : r < 4) : rfa 13 r = 14 + 2 * r ∧ cls (14 + 2 * r) = 7 :=
  (show ∀ r, r < 4 → rfa 13 r = 14 + 2 * r ∧ cls (14 + 2 * r) = 7 by decide +kernel) r hr
theorem inR_of {a k : Nat} (h1 : akd a = 4) (h2 : k < aln a) (h3 : aln a < 2147483648) : inR a (nI k) := ⟨h1, vp_in_nI h2 h3⟩
theorem k13 : akd 13 = 4 ∧ aln 13 = 4 := by decide +kernel
theorem k93 : akd 93 = 1 ∧ aln 93 = 4 := by decide +kernel
theorem k94 : akd 94 = 1 ∧ aln 94 = 4 := by decide +kernel
theorem k95 : akd 95 = 2 ∧ aln 95 = 160 := by decide +kernel
theorem in13 {r : Nat} (hr : r < 4) : inR 13 (nI r) := inR_of k13.1 (by rw [k13.2]; exact hr) (by rw [k13.2]; decide)
theorem in93 {r : Nat} (hr : r < 4) : inI 93 (nI r) := inI_of k93.1 (by rw [k93.2]; exact hr) (by rw [k93.2]; decide)
theorem in94 {r : Nat} (hr : r < 4) : inI 94 (nI r) := inI_of k94.1 (by rw [k94.2]; exact hr) (by rw [k94.2]; decide)
theorem in95 {k : Nat} (hr : k < 160) : inJ 95 (nI k) := inJ_of k95.1 (by rw [k95.2]; exact hr) (by rw [k95.2]; decide)
/-- of one row: the same on both sides -/
def RowC (h : Hp) (r : Nat) : Prop := (h.1 (14 + 2 * r) 2 = -1 ∧ h.2.1 93 r = -1) ∨ ∃ n s, n ≤ 40 ∧ s ≤ 3 ∧ h.1 (14 + 2 * r) 2 = nI n ∧ h.1 (14 + 2 * r) 1 = nI s ∧ h.2.1 93 r = nI s ∧ h.2.1 94 r = nI n ∧ ∀ k, k < n → h.2.2 (15 + 2 * r) k = h.2.2 95 (40 * r + k)
def FrX (r : Nat) (h h' : Hp) : Prop := EqO (fun q => q = 14 + 2 * r ∨ q = 15 + 2 * r) h h'
def FrQ (r : Nat) (h h' : Hp) : Prop := EqO (fun q => q = 74 ∨ q = 93 ∨ q = 94 ∨ q = 95) h h' ∧ (h'.1 74 5 = h.1 74 5 ∧ h'.1 74 13 = h.1 74 13 ∧ h'.1 74 14 = h.1 74 14) ∧ (∀ j, j ≠ r → h'.2.1 93 j = h.2.1 93 j ∧ h'.2.1 94 j = h.2.1 94 j) ∧ ∀ k, (k < 40 * r ∨ 40 * r + 40 ≤ k) → h'.2.2 95 k = h.2.2 95 k
theorem FrQ.rfl' {r : Nat} {h : Hp} : FrQ r h h := ⟨EqO.rfl', ⟨rfl, rfl, rfl⟩, fun _ _ => ⟨rfl, rfl⟩, fun _ _ => rfl⟩
theorem FrQ.trans {r : Nat} {h h1 h2 : Hp} (a : FrQ r h h1) (b : FrQ r h1 h2) : FrQ r h h2 := ⟨a.1.trans b.1, ⟨b.2.1.1.trans a.2.1.1, b.2.1.2.1.trans a.2.1.2.1, b.2.1.2.2.trans a.2.1.2.2⟩, fun j hj => ⟨(b.2.2.1 j hj).1.trans (a.2.2.1 j hj).1, (b.2.2.1 j hj).2.trans (a.2.2.1 j hj).2⟩, fun k hk => (b.2.2.2 k hk).trans (a.2.2.2 k hk)⟩
theorem FrQ.thr {r : Nat} {h : Hp} : FrQ r h (sI h 74 0 0) := ⟨EqO.sI (Or.inl rfl), ⟨rfl, rfl, rfl⟩, fun _ _ => ⟨rfl, rfl⟩, fun _ _ => rfl⟩
theorem FrQ.s93 {r : Nat} {h : Hp} {v : Int32} : FrQ r h (sA h 93 r v) := ⟨EqO.sA (Or.inr (Or.inl rfl)), ⟨rfl, rfl, rfl⟩, fun j hj => ⟨by rw [sA_A, if_pos rfl, if_neg hj], by rw [sA_A, if_neg (by omega)]⟩, fun _ _ => rfl⟩
theorem FrQ.s94 {r : Nat} {h : Hp} {v : Int32} : FrQ r h (sA h 94 r v) := ⟨EqO.sA (Or.inr (Or.inr (Or.inl rfl))), ⟨rfl, rfl, rfl⟩, fun j hj => ⟨by rw [sA_A, if_neg (by omega)], by rw [sA_A, if_pos rfl, if_neg hj]⟩, fun _ _ => rfl⟩
theorem FrQ.s95 {r k : Nat} {h : Hp} {v : Int64} (hk : k < 40) : FrQ r h (sL h 95 (40 * r + k) v) := ⟨EqO.sL (Or.inr (Or.inr (Or.inr rfl))), ⟨rfl, rfl, rfl⟩, fun _ _ => ⟨rfl, rfl⟩, fun j hj => by rw [sL_L, if_pos rfl, if_neg (by omega)]⟩
theorem inv_rows {h h1 h2 : Hp} {K K' r : Nat} (I : Inv h K) (hr : r < 4) (e1 : FrX r h h1) (e2 : FrQ r h1 h2) (R : RowC h2 r) (hk1 : K ≤ K') (hk2 : K' ≤ 100000) : Inv h2 K' := by
  obtain ⟨-, i1, i2, i3, i4, i5, i6⟩ := I
  have g : ∀ q, ¬ (q = 14 + 2 * r ∨ q = 15 + 2 * r ∨ q = 74 ∨ q = 93 ∨ q = 94 ∨ q = 95) → h2.1 q = h.1 q ∧ h2.2.1 q = h.2.1 q ∧ h2.2.2 q = h.2.2 q := fun q hq => by
    have a := e1 q (by omega)
    have b := e2.1 q (by omega)
    exact ⟨b.1.trans a.1, b.2.1.trans a.2.1, b.2.2.trans a.2.2⟩
  have gf : ∀ q k, ¬ (q = 14 + 2 * r ∨ q = 15 + 2 * r ∨ q = 74 ∨ q = 93 ∨ q = 94 ∨ q = 95) → h2.1 q k = h.1 q k := fun q k hq => by rw [(g q hq).1]
  have f74 : ∀ k, h1.1 74 k = h.1 74 k := fun k => by rw [(e1 74 (by omega)).1]
  refine ⟨hk2, ?_, ?_, ?_, ?_, ?_, ?_⟩
  · exact (CurR_eq i1 (gf 1 1 (by omega)) (gf 1 2 (by omega)) (g 2 (by omega)).2.1 (g 4 (by omega)).2.1 (g 5 (by omega)).2.1 (g 75 (by omega)).2.1).wk hk1
  · intro r' hr'
    by_cases e : r' = r
    · rw [e]; exact R
    · have a93 : h2.2.1 93 r' = h.2.1 93 r' ∧ h2.2.1 94 r' = h.2.1 94 r' := by
        have b := e2.2.2.1 r' e
        rw [(e1 93 (by omega)).2.1, (e1 94 (by omega)).2.1] at b
        exact b
      have a95 : ∀ k, k < 40 → h2.2.2 95 (40 * r' + k) = h.2.2 95 (40 * r' + k) := fun k hk => by
        have b := e2.2.2.2 (40 * r' + k) (by omega)
        rw [(e1 95 (by omega)).2.2] at b
        exact b
      have g1 := g (14 + 2 * r') (by omega)
      have g2 := g (15 + 2 * r') (by omega)
      rcases i2 r' hr' with ⟨q1, q2⟩ | ⟨n, s, q1, q2, q3, q4, q5, q6, q7⟩
      · exact Or.inl ⟨by rw [g1.1]; exact q1, by rw [a93.1]; exact q2⟩
      · refine Or.inr ⟨n, s, q1, q2, by rw [g1.1]; exact q3, by rw [g1.1]; exact q4, by rw [a93.1]; exact q5, by rw [a93.2]; exact q6, fun k hk => ?_⟩
        rw [g2.2.2, a95 k (by omega)]; exact q7 k hk
  · unfold TapeR
    rw [gf 9 2 (by omega), (g 10 (by omega)).2.1, (g 77 (by omega)).2.1, e2.2.1.1, f74]
    exact i3
  · unfold FaultR
    rw [gf 9 4 (by omega), gf 9 5 (by omega), e2.2.1.2.1, e2.2.1.2.2, f74, f74]
    exact i4
  · refine ImgR.wk (K := K) ?_ hk1
    intro i hi
    have h0 := i5 i hi
    rw [(g 24 (by omega)).2.1, (g 76 (by omega)).2.1]
    refine h0.elim Or.inl (fun q => Or.inr ⟨q.1, q.2.1, ?_⟩)
    exact CurR_eq q.2.2 (gf _ 1 (by omega)) (gf _ 2 (by omega)) (g _ (by omega)).2.1 (g _ (by omega)).2.1 (g _ (by omega)).2.1 (g 75 (by omega)).2.1
  · exact PickZ_eq i6 (fun a h1 h2 => (g a (by omega)).2.1)
section RowsS
variable {E : EnvX} {L : Nat} {h : Hp} {K : Nat} {nB nT : Nat} {tv : Nat → Nat → Nat} {pk lv sn : Nat → Nat} {ck : Nat}
theorem x_isRow (hE : EOk E) (hL : 1 ≤ L) {r : Nat} (hr : r < 4) : RdI E L m_X_isRow 0 [.int (nI r)] h 1 :=
  B_X_isRow hE hL (brF (nIneg (by omega)) (brF (nG 4 hr) ⟨rfl, rfl⟩))
theorem x_isRow_no (hE : EOk E) (hL : 1 ≤ L) {v : Int32} (hv : ¬ ∃ r, r < 4 ∧ v = nI r) : RdI E L m_X_isRow 0 [.int v] h 0 := by
  refine B_X_isRow hE hL ?_
  by_cases c : v < 0
  · exact brT c ⟨rfl, rfl⟩
  · exact brF c (brT ((not_small (n := 4) (by omega) hv).resolve_left c) ⟨rfl, rfl⟩)
theorem w3 {v : Int32} (hv : ¬ ∃ r, r < 4 ∧ v = nI r) : ¬ ∃ k, 0 ≤ k ∧ k ≤ 3 ∧ v = nI k := fun ⟨k, _, q, r⟩ => hv ⟨k, by omega, r⟩
theorem x_rowRefusal_no (hE : EOk E) (hL : 2 ≤ L) {v : Int32} (hv : ¬ ∃ r, r < 4 ∧ v = nI r) : RdI E L m_X_rowRefusal 0 [.int v] h (-2) :=
  B_X_rowRefusal hE (by omega) ((x_isRow_no hE (by omega) hv).use (brT' rfl ⟨rfl, rfl⟩))
theorem x_rowRefusal (hE : EOk E) (hL : 2 ≤ L) {r : Nat} (hr : r < 4) : RdI E L m_X_rowRefusal 0 [.int (nI r)] h (if h.1 (14 + 2 * r) 2 = -1 then -6 else 0) := by
  refine B_X_rowRefusal hE (by omega) ((x_isRow hE (by omega) hr).use (brF' (by decide) ⟨in13 hr, ?_⟩))
  rw [nIc (by omega), (sh13 hr).1]
  refine (row_isMissing hE (by omega) (sh13 hr).2).use ?_
  by_cases c : h.1 (14 + 2 * r) 2 = -1
  · rw [if_pos c, if_pos c]; exact brF (by decide) ⟨rfl, rfl⟩
  · rw [if_neg c, if_neg c]; exact brT rfl ⟨rfl, rfl⟩
theorem eq_numbers (hE : EOk E) (hL : 20 ≤ L) (I : Inv h K) (hK : K + 60 ≤ 100000) (u v w : Int32) : Same E L m_X_numbers m_M_numbers [.int u, .int v, .int w] h K := by
  by_cases hu : ∃ r, r < 4 ∧ u = nI r
  · obtain ⟨r, hr, rfl⟩ := hu
    obtain ⟨s13, c13⟩ := sh13 hr
    by_cases hv : ∃ s, s < 4 ∧ v = nI s
    · obtain ⟨s, hs, rfl⟩ := hv
      by_cases hw : ∃ n, n < 41 ∧ w = nI n
      · obtain ⟨n, hn, rfl⟩ := hw
        refine B_X_numbers hE (by omega) ((x_isRow hE (by omega) hr).use (brF (by decide) (brF (nIneg (by omega)) (brT (show nI s ≤ nI 3 from nI_le (by omega) (by omega)) (brF (nIneg (by omega)) (brT (show nI n ≤ nI 40 from nI_le (by omega) (by omega)) ⟨in13 hr, ?_⟩))))))
        rw [nIc (by omega), s13]
        refine (row_begin hE (by omega) c13 (nI s) (nI n)).mono (fun h1 q => ?_)
        obtain ⟨e1, q1, q2, q3⟩ := q
        refine B_M_numbers hE (by omega) ((m_w_yes (a := 0) (b := 3) hE (by omega) (by omega) (by omega) (by omega)).use (brF (by decide) ((m_w_yes (a := 0) (b := 3) hE (by omega) (by omega) (by omega) (by omega)).use (brF' (by decide) ((m_w_yes (a := 0) (b := 40) hE (by omega) (by omega) (by omega) (by omega)).use (brF' (by decide) ⟨in93 hr, in94 hr, ?_⟩))))))
        rw [nIc (by omega)]
        have key : ∀ m k, m + k = n → ∀ h2, FrQ r h1 h2 → h2.2.1 93 r = nI s → h2.2.1 94 r = nI n → (∀ j, j < k → h2.2.2 95 (40 * r + j) = 0) → at_M_numbers_64 E L h2 (fun y2 h2 => (0 : Int32) = y2 ∧ Inv h2 (K + 60)) (nI r) (nI n) (nI k) := by
          intro m
          induction m with
          | zero =>
            intro k hk h2 f2 a1 a2 a3
            have ek : k = n := by omega
            subst ek
            refine B_M_numbers_64 (brT (nI_le (by omega) (by omega)) ⟨rfl, ?_⟩)
            have g1 := f2.1 (14 + 2 * r) (by omega)
            have g2 := f2.1 (15 + 2 * r) (by omega)
            refine inv_rows I hr (e1.wk (fun q z => by omega)) f2 (Or.inr ⟨k, s, by omega, by omega, by rw [g1.1]; exact q2, by rw [g1.1]; exact q1, a1, a2, fun j hj => ?_⟩) (by omega) hK
            rw [g2.2.2, a3 j hj, show 15 + 2 * r = 14 + 2 * r + 1 by omega]
            exact q3 j (by omega)
          | succ m ih =>
            intro k hk h2 f2 a1 a2 a3
            refine B_M_numbers_64 (brF (nI_ge (by omega) (by omega)) ?_)
            rw [show (40 : Int32) = nI 40 from rfl, nI_mul, nI_add, nIc (by omega), nI_1]
            refine ⟨in95 (by omega), ih (k + 1) (by omega) _ (f2.trans (FrQ.s95 (by omega))) a1 a2 (fun j hj => ?_)⟩
            rw [sL_L, if_pos rfl]
            by_cases e : j = k
            · rw [if_pos (by omega)]
            · rw [if_neg (by omega)]; exact a3 j (by omega)
        refine key n 0 (by omega) _ ((FrQ.thr.trans FrQ.s93).trans FrQ.s94) ?_ ?_ (fun j hj => absurd hj (Nat.not_lt_zero j))
        · rw [sA_A, if_neg (by omega), sA_A, if_pos rfl, if_pos rfl]
        · rw [sA_A, if_pos rfl, if_pos rfl]
      · have hw2 := not_small (n := 41) (by omega) hw
        refine same_rd (x := -3) I hK (RdX.of I.2.2.2.2.2.2 ?_) (fun h1 e I1 => ?_)
        · refine B_X_numbers hE (by omega) ((x_isRow hE (by omega) hr).use (brF (by decide) (brF (nIneg (by omega)) (brT (show nI s ≤ nI 3 from nI_le (by omega) (by omega)) ?_))))
          by_cases c : w < 0
          · exact brT c ⟨rfl, rfl⟩
          · refine brF c (brF (fun z => ?_) ⟨rfl, rfl⟩)
            have c2 := hw2.resolve_left c
            rw [i32_le, nI_int (by omega)] at c2
            rw [i32_le] at z
            have e40 : (40 : Int32).toInt = 40 := rfl
            omega
        · exact B_M_numbers hE (by omega) ((m_w_yes (a := 0) (b := 3) hE (by omega) (by omega) (by omega) (by omega)).use (brF (by decide) ((m_w_yes (a := 0) (b := 3) hE (by omega) (by omega) (by omega) (by omega)).use (brF' (by decide) ((m_w_no (a := 0) (b := 40) hE (by omega) (by omega) (by omega) (fun z => hw (by obtain ⟨k, -, q, r⟩ := z; exact ⟨k, by omega, r⟩))).use (brT' rfl ⟨rfl, thr_eq _, I1.2.2.2.2.2.2⟩))))))
    · have hv2 := not_small (n := 4) (by omega) hv
      refine same_rd (x := -2) I hK (RdX.of I.2.2.2.2.2.2 ?_) (fun h1 e I1 => ?_)
      · refine B_X_numbers hE (by omega) ((x_isRow hE (by omega) hr).use (brF (by decide) ?_))
        by_cases c : v < 0
        · exact brT c ⟨rfl, rfl⟩
        · refine brF c (brF (fun z => ?_) ⟨rfl, rfl⟩)
          have c2 := hv2.resolve_left c
          rw [i32_le, nI_int (by omega)] at c2
          rw [i32_le] at z
          have e40 : (3 : Int32).toInt = 3 := rfl
          omega
      · exact B_M_numbers hE (by omega) ((m_w_yes (a := 0) (b := 3) hE (by omega) (by omega) (by omega) (by omega)).use (brF (by decide) ((m_w_no (a := 0) (b := 3) hE (by omega) (by omega) (by omega) (w3 hv)).use (brT' rfl ⟨rfl, thr_eq _, I1.2.2.2.2.2.2⟩))))
  · refine same_rd (x := -2) I hK (RdX.of I.2.2.2.2.2.2 ?_) (fun h1 e I1 => ?_)
    · exact B_X_numbers hE (by omega) ((x_isRow_no hE (by omega) hu).use (brT rfl ⟨rfl, rfl⟩))
    · exact B_M_numbers hE (by omega) ((m_w_no (a := 0) (b := 3) hE (by omega) (by omega) (by omega) (w3 hu)).use (brT rfl ⟨rfl, thr_eq _, I1.2.2.2.2.2.2⟩))
/-! a call that answers a long -/
def SameL (E : EnvX) (L mx mm : Nat) (as : List Value) (h : Hp) (K : Nat) : Prop := ConL E L mx 0 as h (fun y1 h1 => ConL E L mm 74 as h1 (fun y2 h2 => y1 = y2 ∧ Inv h2 (K + 60)))
theorem m_cut (hE : EOk E) (hL : 1 ≤ L) (v : Int64) {s : Nat} (hs : s ≤ 3) : RdL E L m_M_cut 0 [.long v, .int (nI s)] h (cutF (nI s) v) := by
  refine B_M_cut hE hL ?_
  unfold cutF
  rcases (show s = 0 ∨ s = 1 ∨ s = 2 ∨ s = 3 by omega) with rfl | rfl | rfl | rfl
  · exact brT' rfl ⟨rfl, rfl⟩
  · exact brF' (by decide) (brT' rfl ⟨rfl, rfl⟩)
  · exact brF' (by decide) (brF' (by decide) (brT' rfl ⟨rfl, rfl⟩))
  · exact brF' (by decide) (brF' (by decide) (brF' (by decide) ⟨rfl, rfl⟩))
theorem eq_write (hE : EOk E) (hL : 20 ≤ L) (I : Inv h K) (hK : K + 60 ≤ 100000) (u v : Int32) (w : Int64) : SameL E L m_X_write m_M_write [.int u, .int v, .long w] h K := by
  have fin : Inv (sI h 74 0 0) (K + 60) := I.keep (thr_eq h) I.2.2.2.2.2.2 (by omega) hK
  by_cases hu : ∃ r, r < 4 ∧ u = nI r
  · obtain ⟨r, hr, rfl⟩ := hu
    obtain ⟨s13, c13⟩ := sh13 hr
    have w1 : RdI E (L - 1) m_M_within 0 [.long (nI r).toInt64, .long 0, .long 3] (sI h 74 0 0) 1 := m_w_yes (a := 0) (b := 3) hE (by omega) (by omega) (by omega) (by omega)
    rcases I.2.2.1 r hr with ⟨q1, q2⟩ | ⟨n, s, q1, q2, q3, q4, q5, q6, q7⟩
    · have r1 := x_rowRefusal (h := h) hE (L := L - 1) (by omega) hr
      rw [if_pos q1] at r1
      refine B_X_write hE (by omega) (r1.use (brF (by decide) ?_))
      refine B_M_write hE (by omega) (w1.use (brF' (by decide) ⟨in93 hr, ?_⟩))
      rw [nIc (by omega)]
      exact brT' q2 ⟨rfl, fin⟩
    · have r1 := x_rowRefusal (h := h) hE (L := L - 1) (by omega) hr
      rw [if_neg (by rw [q3]; exact nIm1 (by omega))] at r1
      have p1 := row_hasPlace (h := h) hE (L := L - 1) (by omega) c13 q3 q1 v
      have ps : ¬ (h.2.1 93 r) = -1 := by rw [q5]; exact nIm1 (by omega)
      by_cases hv : ∃ k, k < n ∧ v = nI k
      · obtain ⟨k, hk, rfl⟩ := hv
        rw [if_pos ⟨nI_pos' (by omega), nI_lt hk (by omega)⟩] at p1
        refine B_X_write hE (by omega) (r1.use (brT rfl ⟨in13 hr, ?_⟩))
        rw [nIc (by omega), s13]
        refine p1.use (brF' (by decide) ⟨in13 hr, (row_set hE (by omega) c13 q3 q1 q4 q2 hk w).use ⟨in13 hr, (row_get hE (by omega) c13 (n := n) (k := k) ?_ q1 hk).use ?_⟩⟩)
        · exact q3
        have ev : (sL h (14 + 2 * r + 1) k (cutF (nI s) w)).2.2 (14 + 2 * r + 1) k = cutF (nI s) w := by rw [sL_L, if_pos rfl, if_pos rfl]
        rw [ev]
        refine B_M_write hE (by omega) ((show RdI E (L - 1) m_M_within 0 [.long (nI r).toInt64, .long 0, .long 3] (sI (sL h (14 + 2 * r + 1) k (cutF (nI s) w)) 74 0 0) 1 from m_w_yes (a := 0) (b := 3) hE (by omega) (by omega) (by omega) (by omega)).use (brF' (by decide) ⟨in93 hr, ?_⟩))
        rw [nIc (by omega)]
        refine brF' ps ⟨in94 hr, ?_⟩
        have e94 : (sI (sL h (14 + 2 * r + 1) k (cutF (nI s) w)) 74 0 0).2.1 94 r = nI n := q6
        have e93 : (sI (sL h (14 + 2 * r + 1) k (cutF (nI s) w)) 74 0 0).2.1 93 r = nI s := q5
        rw [e94]
        refine ((m_within hE (by omega) _ _ _).eq (if_pos (by rw [nI_l (by omega)]; exact (m_inRange (a := 0) (by omega) (by omega)).mpr ⟨k, by omega, hk, rfl⟩))).use (brF' (by decide) ⟨in93 hr, ?_⟩)
        rw [e93]
        refine (m_cut hE (by omega) w q2).use ?_
        rw [show (40 : Int32) = nI 40 from rfl, nI_mul, nI_add, nIc (by omega)]
        refine ⟨in95 (by omega), in95 (by omega), ?_, ?_⟩
        · rw [sL_L, if_pos rfl, if_pos rfl]
        · have ff : ∀ q z, q ≠ 74 → (sL (sI (sL h (14 + 2 * r + 1) k (cutF (nI s) w)) 74 0 0) 95 (40 * r + k) (cutF (nI s) w)).1 q z = h.1 q z := fun q z hq => by
            show (sI (sL h (14 + 2 * r + 1) k (cutF (nI s) w)) 74 0 0).1 q z = h.1 q z
            rw [sI_1, if_neg hq]; rfl
          refine inv_rows (h1 := sL h (14 + 2 * r + 1) k (cutF (nI s) w)) I hr (EqO.sL (by omega)) (FrQ.thr.trans (FrQ.s95 (by omega))) (Or.inr ⟨n, s, q1, q2, (ff _ _ (by omega)).trans q3, (ff _ _ (by omega)).trans q4, q5, q6, fun j hj => ?_⟩) (by omega) hK
          rw [sL_L, if_neg (by omega), sL_L, if_pos rfl]
          show (sL h (14 + 2 * r + 1) k (cutF (nI s) w)).2.2 (15 + 2 * r) j = if 40 * r + j = 40 * r + k then cutF (nI s) w else (sL h (14 + 2 * r + 1) k (cutF (nI s) w)).2.2 95 (40 * r + j)
          by_cases e : j = k
          · rw [sL_L, if_pos (show 15 + 2 * r = 14 + 2 * r + 1 by omega), if_pos e, if_pos (show 40 * r + j = 40 * r + k by omega)]
          · rw [sL_L, if_pos (show 15 + 2 * r = 14 + 2 * r + 1 by omega), if_neg e, if_neg (show ¬ 40 * r + j = 40 * r + k by omega), sL_L, if_neg (show ¬ 95 = 14 + 2 * r + 1 by omega)]; exact q7 j hj
      · have hv2 := not_small (n := n) (by omega) hv
        rw [if_neg (fun z => by
          rcases hv2 with q | q
          · have a := i32_le.mp z.1; have b := i32_lt.mp q; omega
          · have a := i32_lt.mp z.2; have b := i32_le.mp q; omega)] at p1
        refine B_X_write hE (by omega) (r1.use (brT rfl ⟨in13 hr, ?_⟩))
        rw [nIc (by omega), s13]
        refine p1.use (brT' rfl ?_)
        refine B_M_write hE (by omega) (w1.use (brF' (by decide) ⟨in93 hr, ?_⟩))
        rw [nIc (by omega)]
        refine brF' ps ⟨in94 hr, ?_⟩
        rw [show (sI h 74 0 0).2.1 94 r = nI n from q6]
        refine ((m_within hE (by omega) _ _ _).eq (if_neg (fun z => ?_))).use (brT' rfl ⟨rfl, fin⟩)
        obtain ⟨i, -, h2, h3⟩ := (m_inRange (a := 0) (by omega) (by omega)).mp z
        exact hv ⟨i, h2, i64_of (by omega) h3⟩
  · refine B_X_write hE (by omega) ((x_rowRefusal_no hE (by omega) hu).use (brF (by decide) ?_))
    exact B_M_write hE (by omega) ((m_w_no (a := 0) (b := 3) hE (by omega) (by omega) (by omega) (w3 hu)).use (brT' rfl ⟨rfl, fin⟩))
end RowsS
