def plc (nB i : Nat) : Nat := if i < nB then i else i - 8 + nB
/-- the box told by a number, as a code; 0 none -/
def cdB (nB : Nat) (w : Int64) : Nat := if w < 0 then 0 else if aN w < nB then aN w + 1 else 0
def badW (nB : Nat) (w : Int64) : Bool := decide (cdB nB w = 0) && decide (w ≠ -1)
def pkU (nB nT : Nat) (ws : Nat → Int64) (k i : Nat) : Nat := if itB nB nT i = true ∧ plc nB i < k then cdB nB (ws (plc nB i)) else 0
def stK (nB : Nat) (ws : Nat → Int64) : Nat → Nat
  | 0 => 0
  | k + 1 => if stK nB ws k ≠ 0 then stK nB ws k else if badW nB (ws k) = true then itA nB k + 1 else 0
theorem plc_itA {nB nT k : Nat} (h8 : nB ≤ 8) (hk : k < nB + nT) : plc nB (itA nB k) = k := by
  unfold plc itA
  by_cases c : k < nB
  · rw [if_pos c, if_pos c]
  · rw [if_neg c, if_neg (by omega)]; omega
theorem itA_plc {nB nT i : Nat} (h8 : nB ≤ 8) (hi : isIt nB nT i) : itA nB (plc nB i) = i ∧ plc nB i < nB + nT := by
  unfold plc itA
  by_cases c : i < nB
  · rw [if_pos c, if_pos c]; omega
  · have := hi.resolve_left c
    rw [if_neg c, if_neg (by omega)]; omega
theorem pkU_s {nB nT k : Nat} {ws : Nat → Int64} (h8 : nB ≤ 8) (h16 : nT ≤ 16) (hk : k < nB + nT) : pkU nB nT ws (k + 1) = upN (pkU nB nT ws k) (itA nB k) (cdB nB (ws k)) := funext (fun i => by
  by_cases e : i = itA nB k
  · subst e
    rw [upN_same]
    unfold pkU
    rw [plc_itA h8 hk, if_pos ⟨itB_iff.mpr (itA_it h8 h16 hk), by omega⟩]
  · rw [upN_ne e]
    unfold pkU
    by_cases c : itB nB nT i = true ∧ plc nB i < k
    · rw [if_pos c, if_pos ⟨c.1, by omega⟩]
    · rw [if_neg c, if_neg (fun z => c ⟨z.1, ?_⟩)]
      rcases Nat.lt_or_ge (plc nB i) k with q | q
      · exact q
      · have := (itA_plc h8 (itB_iff.mp z.1)).1
        rw [show plc nB i = k by omega] at this
        exact absurd this.symm e)
theorem pkU_at {nB nT k : Nat} {ws : Nat → Int64} (h8 : nB ≤ 8) (hk : k < nB + nT) : pkU nB nT ws k (itA nB k) = 0 := by
  unfold pkU
  rw [plc_itA h8 hk, if_neg (fun z => Nat.lt_irrefl _ z.2)]
theorem upN_id {f : Nat → Nat} {i v : Nat} (h : f i = v) : upN f i v = f := funext (fun k => by
  unfold upN
  by_cases c : k = i
  · rw [if_pos c, c, h]
  · rw [if_neg c])
theorem cdB_yes {nB : Nat} {w : Int64} (h8 : nB ≤ 8) (h : cdB nB w ≠ 0) : ∃ b, b < nB ∧ w = lN b ∧ cdB nB w = b + 1 := by
  unfold cdB at h ⊢
  by_cases c : w < 0
  · rw [if_pos c] at h; exact absurd rfl h
  · rw [if_neg c] at h ⊢
    obtain ⟨n, hn, rfl⟩ := pk_lOf c
    rw [aN_lN hn] at h ⊢
    by_cases d : n < nB
    · rw [if_pos d]; exact ⟨n, d, rfl, rfl⟩
    · rw [if_neg d] at h; exact absurd rfl h
theorem cdB_no {nB : Nat} {w : Int64} (h8 : nB ≤ 8) (h : cdB nB w = 0) : ∀ b, b < nB → w ≠ lN b := by
  rintro b hb rfl
  unfold cdB at h
  rw [if_neg (lN_neg (by omega)), aN_lN (by omega), if_pos hb] at h
  exact absurd h (Nat.succ_ne_zero b)
theorem cdB_le {nB : Nat} {w : Int64} (h8 : nB ≤ 8) : cdB nB w ≤ 8 := by
  by_cases c : cdB nB w = 0
  · omega
  · obtain ⟨b, hb, -, e⟩ := cdB_yes h8 c; omega
theorem stK_le {nB nT : Nat} {ws : Nat → Int64} (h8 : nB ≤ 8) (h16 : nT ≤ 16) : ∀ k, k ≤ nB + nT → stK nB ws k ≤ 24
  | 0, _ => Nat.zero_le _
  | k + 1, hk => by
    have ih := stK_le (ws := ws) h8 h16 k (by omega)
    have := itA_lt h8 h16 (show k < nB + nT by omega)
    unfold stK
    split
    · exact ih
    · split
      · omega
      · omega
theorem stK_stay {nB : Nat} {ws : Nat → Int64} {k : Nat} (h : stK nB ws k ≠ 0) : ∀ m, stK nB ws (k + m) = stK nB ws k
  | 0 => rfl
  | m + 1 => by
    have ih := stK_stay h m
    rw [show k + (m + 1) = (k + m) + 1 from rfl, stK, ih, if_pos h]
theorem lgc_eq (x y : Int64) : lg_cmp x y = 0 ↔ x = y := by
  unfold lg_cmp
  by_cases h1 : x > y
  · rw [if_pos h1]; exact ⟨fun c => absurd c (by decide), fun c => absurd h1 (by rw [c, gt_iff_lt, i64_lt]; omega)⟩
  · rw [if_neg h1]
    by_cases h2 : x = y
    · rw [if_pos h2]; exact ⟨fun _ => h2, fun _ => rfl⟩
    · rw [if_neg h2]; exact ⟨fun c => absurd c (by decide), fun c => absurd c h2⟩
section Pack2
variable {E : EnvX} {L : Nat} {h : Hp} {K : Nat} {nB nT : Nat} {tv : Nat → Nat → Nat} {pk lv sn : Nat → Nat} {ck : Nat}
theorem c36 : cls 36 = 2 := by decide +kernel
theorem pk_read (hE : EOk E) (hL : 5 ≤ L) (S : StV h 1 nB nT tv) {row : Nat} (hrow : cls row = 7) (hb : row < 30 ∧ 2 < row) (hm : h.1 row 2 = nI (nB + nT)) : ConI E L m_Packing_read 35 [.ref row] h (fun y h' => y = (if stK nB (h.2.2 (row + 1)) (nB + nT) = 0 then 1 else 0) ∧ EqO (fun q => 35 ≤ q ∧ q ≤ 38) h h' ∧ h'.1 35 2 = bx (stK nB (h.2.2 (row + 1)) (nB + nT)) ∧ LyV h' 36 (pkU nB nT (h.2.2 (row + 1)) (nB + nT)) (fun _ => 0)) := by
  have h8 := S.2.2.2.1
  have h16 := S.2.2.2.2.1
  refine B_Packing_read hE (by omega) ((ly_clear hE (by omega) c36).mono (fun h1 q => ?_))
  obtain ⟨e1, Y1⟩ := q
  have e2 : EqO (fun q => 35 ≤ q ∧ q ≤ 38) h (sI h1 35 2 (-1)) := (e1.wk (fun q z => by omega)).trans (EqO.sI (F := fun q => 35 ≤ q ∧ q ≤ 38) ⟨Nat.le_refl _, by omega⟩)
  have main : ∀ m k, m + k = nB + nT → ∀ h2, EqO (fun q => 35 ≤ q ∧ q ≤ 38) h h2 → h2.1 35 2 = bx (stK nB (h.2.2 (row + 1)) k) → LyV h2 36 (pkU nB nT (h.2.2 (row + 1)) k) (fun _ => 0) → at_Packing_read_14 E L h2 (fun y h' => y = (if stK nB (h.2.2 (row + 1)) (nB + nT) = 0 then 1 else 0) ∧ EqO (fun q => 35 ≤ q ∧ q ≤ 38) h h' ∧ h'.1 35 2 = bx (stK nB (h.2.2 (row + 1)) (nB + nT)) ∧ LyV h' 36 (pkU nB nT (h.2.2 (row + 1)) (nB + nT)) (fun _ => 0)) row (nI k) := by
    intro m
    induction m with
    | zero =>
      intro k hk h2 e a Y
      have ek : k = nB + nT := by omega
      subst ek
      have m1 := row_many (h := h2) hE (L := L - 1) (by omega) hrow
      rw [show h2.1 row 2 = nI (nB + nT) by rw [(e row (by omega)).1]; exact hm] at m1
      have sl := stK_le (ws := h.2.2 (row + 1)) h8 h16 (nB + nT) (Nat.le_refl _)
      refine B_Packing_read_14 (m1.use (brT (nI_le (Nat.le_refl _) (by omega)) ?_))
      have a2 : (h2.1 35 2 = -1) ↔ stK nB (h.2.2 (row + 1)) (nB + nT) = 0 := by rw [a, bx_m1 (by omega)]
      refine ⟨fun c => ?_, fun c => ?_⟩
      · rw [if_neg (fun z => c (a2.mpr z))]; exact ⟨rfl, e, a, Y⟩
      · rw [if_pos (a2.mp c)]; exact ⟨rfl, e, a, Y⟩
    | succ m ih =>
      intro k hk h2 e a Y
      have hk2 : k < nB + nT := by omega
      have hit := itA_lt h8 h16 hk2
      have hm2 : h2.1 row 2 = nI (nB + nT) := by rw [(e row (by omega)).1]; exact hm
      have m1 := row_many (h := h2) hE (L := L - 1) (by omega) hrow
      rw [hm2] at m1
      have g1 := row_get (h := h2) hE (L := L - 1) (by omega) hrow hm2 (by omega) hk2
      rw [(e (row + 1) (by omega)).2.2] at g1
      have S2 : StV h2 1 nB nT tv := S.keep e (by omega) (by omega)
      have at1 : RdI E (L - 1) m_Store_itemAt 1 [.int (nI k)] h2 (nI (itA nB k)) := store_itemAt hE (by omega) S2 hk2
      have sl := stK_le (ws := h.2.2 (row + 1)) h8 h16 k (by omega)
      have go := ih (k + 1) (by omega)
      rw [pkU_s h8 h16 hk2] at go
      refine B_Packing_read_14 (m1.use (brF (nI_ge hk2 (by omega)) (g1.use (at1.use ?_))))
      rw [nI_1]
      by_cases c : cdB nB (h.2.2 (row + 1) k) = 0
      · rw [c, upN_id (pkU_at h8 hk2)] at go
        refine (hasBox_no hE (by omega) S2 (cdB_no h8 c)).use (brT rfl ?_)
        rw [lgc_eq, a, bx_m1 (by omega)]
        refine ⟨fun d => ?_, fun d => ⟨fun d2 => ?_, fun d2 => ?_⟩⟩
        · refine go h2 e ?_ Y
          rw [a, stK]
          by_cases d3 : stK nB (h.2.2 (row + 1)) k = 0
          · rw [if_neg (fun z => z d3), if_neg (by unfold badW; rw [d]; simp), d3]
          · rw [if_pos d3]
        · refine go h2 e ?_ Y
          rw [a, stK, if_pos d2]
        · refine go _ (e.trans (EqO.sI (F := fun q => 35 ≤ q ∧ q ≤ 38) ⟨Nat.le_refl _, by omega⟩)) ?_ (LyV_eq Y rfl rfl)
          rw [sI_1, if_pos rfl, if_pos rfl, stK, if_neg (fun z => z d2), if_pos (by unfold badW; rw [decide_eq_true c, decide_eq_true d]; rfl), bx_S]
      · obtain ⟨b, hb2, ew, ec⟩ := cdB_yes h8 c
        rw [ec] at go
        rw [ew, lN_i]
        have sb := ly_setBox hE (L := L - 1) (by omega) Y (i := itA nB k) (c := b + 1) hit (by omega)
        rw [bx_S] at sb
        refine (hasBox_yes hE (by omega) S2 hb2).use (brF (by decide) (sb.mono (fun h3 q3 => ?_)))
        obtain ⟨e3, Y3⟩ := q3
        refine go h3 (e.trans (e3.wk (fun q z => by omega))) ?_ Y3
        rw [(e3 35 (by omega)).1, a, stK]
        by_cases d3 : stK nB (h.2.2 (row + 1)) k = 0
        · rw [if_neg (fun z => z d3), if_neg (by unfold badW; rw [decide_eq_false c]; simp), d3]
        · rw [if_pos d3]
  refine main (nB + nT) 0 (by omega) _ e2 (by rw [sI_1, if_pos rfl, if_pos rfl]; rfl) ?_
  have e0 : pkU nB nT (h.2.2 (row + 1)) 0 = fun _ => 0 := funext (fun i => by unfold pkU; rw [if_neg (fun z => Nat.not_lt_zero _ z.2)])
  rw [e0]
  exact LyV_eq Y1 rfl rfl
end Pack2
