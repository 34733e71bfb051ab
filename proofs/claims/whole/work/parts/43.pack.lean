/-! ===== packings told all at once ===== -/
theorem find_loop {A Z : Nat → Prop} {p : Nat → Bool} {N : Nat} (he : Z 0 → A N) (hy : ∀ k, k < N → p k = true → Z (k + 1) → A k) (hn : ∀ k, k < N → p k = false → A (k + 1) → A k) : ∀ n k, n + k = N → Z (findF p n k) → A k
  | 0, k, hk, hz => by rw [show k = N by omega]; exact he hz
  | n + 1, k, hk, hz => by
    by_cases c : p k = true
    · simp only [findF, if_pos c] at hz
      exact hy k (by omega) c hz
    · simp only [findF, if_neg c] at hz
      exact hn k (by omega) (by simpa using c) (find_loop he hy hn n (k + 1) (by omega) hz)
def fIn (pk : Nat → Nat) (nB : Nat) : Nat := findF (fun b => wi pk (b + 1) 8 (b + 1)) nB 0
def fWd (pk : Nat → Nat) (tv : Nat → Nat → Nat) : Nat := findF (fun i => decide (pk i ≠ 0 ∧ tv (pk i - 1) 4 < tv i 1)) 24 0
def fHv (pk : Nat → Nat) (tv : Nat → Nat → Nat) (nB : Nat) : Nat := findF (fun b => decide (tv b 6 < lod pk tv (b + 1))) nB 0
def fFl (pk : Nat → Nat) (tv : Nat → Nat → Nat) (nB : Nat) : Nat := findF (fun b => decide (rom pk tv b (hlv pk (b + 1)) < fil pk tv (b + 1))) nB 0
section Pack
variable {E : EnvX} {L : Nat} {h : Hp} {K : Nat} {nB nT : Nat} {tv : Nat → Nat → Nat} {pk lv sn : Nat → Nat} {ck : Nat}
theorem rf36 : rf 36 0 = 1 := by decide +kernel
theorem pk_firstInItself (hE : EOk E) (hL : 3 ≤ L) (S : StV h 1 nB nT tv) (Y : LyV h 36 pk lv) : RdI E L m_Packing_firstInItself 35 [] h (bx (fIn pk nB)) := by
  have h8 := S.2.2.2.1
  refine B_Packing_firstInItself hE (by omega) ?_
  refine find_loop (A := fun k => at_Packing_firstInItself_2 E L h _ (nI k)) (Z := fun c => (bx c = bx (fIn pk nB) ∧ h = h)) (p := fun b => wi pk (b + 1) 8 (b + 1)) (N := nB) (fun z => ?_) (fun k hk c z => ?_) (fun k hk c ih => ?_) nB 0 (by omega) ⟨rfl, rfl⟩
  · exact B_Packing_firstInItself_2 ((store_boxes hE (by omega) S).use (brT (nI_le (Nat.le_refl _) (by omega)) z))
  · have w := ly_isWithin hE (L := L - 1) (by omega) Y (c := k + 1) (d := k + 1) (by omega) (by omega) (by omega)
    rw [bx_S, if_pos c] at w
    rw [bx_S] at z
    exact B_Packing_firstInItself_2 ((store_boxes hE (by omega) S).use (brF (nI_ge hk (by omega)) (w.use (brF (by decide) z))))
  · have w := ly_isWithin hE (L := L - 1) (by omega) Y (c := k + 1) (d := k + 1) (by omega) (by omega) (by omega)
    rw [bx_S, if_neg (by rw [c]; decide)] at w
    refine B_Packing_firstInItself_2 ((store_boxes hE (by omega) S).use (brF (nI_ge hk (by omega)) (w.use (brT rfl ?_))))
    rw [nI_1]; exact ih
theorem pk_firstTooWide (hE : EOk E) (hL : 3 ≤ L) (S : StV h 1 nB nT tv) (Y : LyV h 36 pk lv) : RdI E L m_Packing_firstTooWide 35 [] h (bx (fWd pk tv)) := by
  have ht : ∀ i k, i < 24 → k < 7 → tv i k ≤ 9999 := fun i k hi hk => (S.2.2.2.2.2 i k hi hk).2
  refine B_Packing_firstTooWide hE (by omega) ?_
  refine find_loop (A := fun k => at_Packing_firstTooWide_2 E L h _ (nI k)) (Z := fun c => (bx c = bx (fWd pk tv) ∧ h = h)) (p := fun i => decide (pk i ≠ 0 ∧ tv (pk i - 1) 4 < tv i 1)) (N := 24) (fun z => ?_) (fun k hk c z => ?_) (fun k hk c ih => ?_) 24 0 (by omega) ⟨rfl, rfl⟩
  · exact B_Packing_firstTooWide_2 (brT (nEnd 24) z)
  · rw [decide_eq_true_eq] at c
    rw [bx_S] at z
    obtain ⟨m, hm⟩ : ∃ m, pk k = m + 1 := ⟨pk k - 1, by omega⟩
    have p8 := (Y.2.1 k hk).2
    have b1 := ly_boxOf hE (L := L - 1) (by omega) Y (c := k + 1) (by omega)
    rw [bx_S, nx_S, hm, bx_S] at b1
    rw [hm, Nat.add_sub_cancel] at c
    have a1 := ht k 1 hk (by omega)
    have a2 := ht m 4 (by omega) (by omega)
    refine B_Packing_firstTooWide_2 (brF (nG 24 hk) (b1.use (brF (nIm1 (by omega)) ((store_told hE (by omega) S (i := k) (k := 1) hk (by omega)).use ((store_told hE (by omega) S (i := m) (k := 4) (by omega) (by omega)).use ?_)))))
    rw [nIl (by omega) (by omega)]
    exact brF (by omega) z
  · rw [decide_eq_false_iff_not] at c
    have p8 := (Y.2.1 k hk).2
    have b1 := ly_boxOf hE (L := L - 1) (by omega) Y (c := k + 1) (by omega)
    rw [bx_S, nx_S] at b1
    refine B_Packing_firstTooWide_2 (brF (nG 24 hk) (b1.use ?_))
    rw [bx_m1 (by omega), nI_1]
    refine ⟨fun _ => ih, fun d => ?_⟩
    obtain ⟨m, hm⟩ : ∃ m, pk k = m + 1 := ⟨pk k - 1, by omega⟩
    rw [hm, Nat.add_sub_cancel] at c
    rw [hm, bx_S]
    have a1 := ht k 1 hk (by omega)
    have a2 := ht m 4 (by omega) (by omega)
    refine (store_told hE (by omega) S (i := k) (k := 1) hk (by omega)).use ((store_told hE (by omega) S (i := m) (k := 4) (by omega) (by omega)).use ?_)
    rw [nIl (by omega) (by omega)]
    exact brT (by omega) ih
theorem pk_firstTooHeavy (hE : EOk E) (hL : 4 ≤ L) (S : StV h 1 nB nT tv) (Y : LyV h 36 pk lv) : RdI E L m_Packing_firstTooHeavy 35 [] h (bx (fHv pk tv nB)) := by
  have h8 := S.2.2.2.1
  have ht : ∀ i k, i < 24 → k < 7 → tv i k ≤ 9999 := fun i k hi hk => (S.2.2.2.2.2 i k hi hk).2
  have hlod := fun c => lod_le (pk := pk) (tv := tv) (fun i hi => ht i 2 hi (by omega)) c
  have S1 : StV h (rf 36 0) nB nT tv := by rw [rf36]; exact S
  refine B_Packing_firstTooHeavy hE (by omega) ?_
  refine find_loop (A := fun k => at_Packing_firstTooHeavy_2 E L h _ (nI k)) (Z := fun c => (bx c = bx (fHv pk tv nB) ∧ h = h)) (p := fun b => decide (tv b 6 < lod pk tv (b + 1))) (N := nB) (fun z => ?_) (fun k hk c z => ?_) (fun k hk c ih => ?_) nB 0 (by omega) ⟨rfl, rfl⟩
  · exact B_Packing_firstTooHeavy_2 ((store_boxes hE (by omega) S).use (brT (nI_le (Nat.le_refl _) (by omega)) z))
  · rw [decide_eq_true_eq] at c
    rw [bx_S] at z
    have y2 := ly_loadOf hE (L := L - 1) (by omega) Y S1 (c := k + 1) (by omega) (by omega)
    rw [bx_S] at y2
    have a1 := ht k 6 (by omega) (by omega)
    have a2 := hlod (k + 1)
    refine B_Packing_firstTooHeavy_2 ((store_boxes hE (by omega) S).use (brF (nI_ge hk (by omega)) (y2.use ((store_told hE (by omega) S (i := k) (k := 6) (by omega) (by omega)).use ?_))))
    rw [nIl (by omega) (by omega)]
    exact brF (by omega) z
  · rw [decide_eq_false_iff_not] at c
    have y2 := ly_loadOf hE (L := L - 1) (by omega) Y S1 (c := k + 1) (by omega) (by omega)
    rw [bx_S] at y2
    have a1 := ht k 6 (by omega) (by omega)
    have a2 := hlod (k + 1)
    refine B_Packing_firstTooHeavy_2 ((store_boxes hE (by omega) S).use (brF (nI_ge hk (by omega)) (y2.use ((store_told hE (by omega) S (i := k) (k := 6) (by omega) (by omega)).use ?_))))
    rw [nIl (by omega) (by omega), nI_1]
    exact brT (by omega) ih
theorem pk_firstTooFull (hE : EOk E) (hL : 5 ≤ L) (S : StV h 1 nB nT tv) (Y : LyV h 36 pk lv) : RdI E L m_Packing_firstTooFull 35 [] h (bx (fFl pk tv nB)) := by
  have h8 := S.2.2.2.1
  have ht : ∀ i k, i < 24 → k < 7 → tv i k ≤ 9999 := fun i k hi hk => (S.2.2.2.2.2 i k hi hk).2
  have hfl := fun c => fil_le (pk := pk) (tv := tv) (fun i hi => ht i 0 hi (by omega)) c
  have S1 : StV h (rf 36 0) nB nT tv := by rw [rf36]; exact S
  refine B_Packing_firstTooFull hE (by omega) ?_
  refine find_loop (A := fun k => at_Packing_firstTooFull_2 E L h _ (nI k)) (Z := fun c => (bx c = bx (fFl pk tv nB) ∧ h = h)) (p := fun b => decide (rom pk tv b (hlv pk (b + 1)) < fil pk tv (b + 1))) (N := nB) (fun z => ?_) (fun k hk c z => ?_) (fun k hk c ih => ?_) nB 0 (by omega) ⟨rfl, rfl⟩
  · exact B_Packing_firstTooFull_2 ((store_boxes hE (by omega) S).use (brT (nI_le (Nat.le_refl _) (by omega)) z))
  · rw [decide_eq_true_eq] at c
    rw [bx_S] at z
    have y2 := ly_fillOf hE (L := L - 1) (by omega) Y S1 (c := k + 1) (by omega)
    rw [bx_S] at y2
    have a1 := hfl (k + 1)
    have a2 := rom_le (pk := pk) (b := k) (n := hlv pk (k + 1)) (ht k 0 (by omega) (by omega)) (ht k 5 (by omega) (by omega))
    refine B_Packing_firstTooFull_2 ((store_boxes hE (by omega) S).use (brF (nI_ge hk (by omega)) (y2.use ((ly_roomOf hE (by omega) Y S1 (by omega)).use ?_))))
    rw [nIl (by omega) (by omega)]
    exact brF (by omega) z
  · rw [decide_eq_false_iff_not] at c
    have y2 := ly_fillOf hE (L := L - 1) (by omega) Y S1 (c := k + 1) (by omega)
    rw [bx_S] at y2
    have a1 := hfl (k + 1)
    have a2 := rom_le (pk := pk) (b := k) (n := hlv pk (k + 1)) (ht k 0 (by omega) (by omega)) (ht k 5 (by omega) (by omega))
    refine B_Packing_firstTooFull_2 ((store_boxes hE (by omega) S).use (brF (nI_ge hk (by omega)) (y2.use ((ly_roomOf hE (by omega) Y S1 (by omega)).use ?_))))
    rw [nIl (by omega) (by omega), nI_1]
    exact brT (by omega) ih
/-- what is wrong, and who -/
def blm (z : Nat × Nat) (kd c : Nat) : Nat × Nat := if z.1 ≠ 0 then z else if c = 0 then z else (kd, c)
def wrg (pk : Nat → Nat) (tv : Nat → Nat → Nat) (nB st : Nat) : Nat × Nat := blm (blm (blm (blm (blm (0, 0) 1 st) 2 (fIn pk nB)) 3 (fWd pk tv)) 4 (fHv pk tv nB)) 5 (fFl pk tv nB)
theorem findF_le (p : Nat → Bool) : ∀ n k, findF p n k ≤ n + k
  | 0, k => Nat.zero_le _
  | n + 1, k => by
    unfold findF
    have := findF_le p n (k + 1)
    split <;> omega
theorem pk_blame (hE : EOk E) (hL : 1 ≤ L) {z : Nat × Nat} {kd c : Nat} (h1 : h.1 35 3 = nI z.1) (h2 : h.1 35 4 = bx z.2) (hz : z.1 < 100) (hc : c < 100) : ConV E L m_Packing_blame 35 [.int (nI kd), .int (bx c)] h (fun h' => EqO (fun q => q = 35) h h' ∧ h'.1 35 2 = h.1 35 2 ∧ h'.1 35 3 = nI (blm z kd c).1 ∧ h'.1 35 4 = bx (blm z kd c).2) := by
  refine B_Packing_blame hE hL ?_
  rw [h1, nI_z (by omega), bx_m1 (by omega)]
  unfold blm
  refine ⟨fun d => ?_, fun d => ⟨fun d2 => ?_, fun d2 => ?_⟩⟩
  · rw [if_pos d]; exact ⟨EqO.rfl', rfl, rfl, h2⟩
  · rw [if_neg (fun z => z d), if_pos d2]; exact ⟨EqO.rfl', rfl, rfl, h2⟩
  · rw [if_neg (fun z => z d), if_neg d2]
    refine ⟨(EqO.sI (F := fun q => q = 35) rfl).trans (EqO.sI (F := fun q => q = 35) rfl), ?_, ?_, ?_⟩
    · rw [sI_1, if_pos rfl, if_neg (by decide), sI_1, if_pos rfl, if_neg (by decide)]
    · rw [sI_1, if_pos rfl, if_neg (by decide), sI_1, if_pos rfl, if_pos rfl]
    · rw [sI_1, if_pos rfl, if_pos rfl]
theorem pk_findWrong (hE : EOk E) (hL : 8 ≤ L) (S : StV h 1 nB nT tv) (Y : LyV h 36 pk lv) {st : Nat} (hs : h.1 35 2 = bx st) (hst : st < 100) : ConV E L m_Packing_findWrong 35 [] h (fun h' => EqO (fun q => q = 35) h h' ∧ h'.1 35 3 = nI (wrg pk tv nB st).1 ∧ h'.1 35 4 = bx (wrg pk tv nB st).2) := by
  have h8 := S.2.2.2.1
  have f1 : fIn pk nB < 100 := by have := findF_le (fun b => wi pk (b + 1) 8 (b + 1)) nB 0; unfold fIn; omega
  have f2 : fWd pk tv < 100 := by have := findF_le (fun i => decide (pk i ≠ 0 ∧ tv (pk i - 1) 4 < tv i 1)) 24 0; unfold fWd; omega
  have f3 : fHv pk tv nB < 100 := by have := findF_le (fun b => decide (tv b 6 < lod pk tv (b + 1))) nB 0; unfold fHv; omega
  have f4 : fFl pk tv nB < 100 := by have := findF_le (fun b => decide (rom pk tv b (hlv pk (b + 1)) < fil pk tv (b + 1))) nB 0; unfold fFl; omega
  have bl : ∀ (z : Nat × Nat) (kd c : Nat), z.1 < 100 → kd < 100 → (blm z kd c).1 < 100 := fun z kd c h1 h2 => by
    unfold blm; split
    · exact h1
    · split
      · exact h1
      · exact h2
  have sub : ∀ {h1 : Hp}, EqO (fun q => q = 35) h h1 → StV h1 1 nB nT tv ∧ LyV h1 36 pk lv := fun e => ⟨S.keep e (by omega) (by omega), Y.keep e (by omega) (by omega)⟩
  refine B_Packing_findWrong hE (by omega) ?_
  have e0 : EqO (fun q => q = 35) h (sI (sI h 35 3 0) 35 4 (-1)) := (EqO.sI (F := fun q => q = 35) rfl).trans (EqO.sI (F := fun q => q = 35) rfl)
  have s0 : (sI (sI h 35 3 0) 35 4 (-1)).1 35 2 = bx st := by rw [sI_1, if_pos rfl, if_neg (by decide), sI_1, if_pos rfl, if_neg (by decide)]; exact hs
  rw [s0]
  refine (pk_blame hE (by omega) (z := (0, 0)) (kd := 1) (c := st) ?_ ?_ (by decide) hst).mono (fun h1 q1 => ?_)
  · rw [sI_1, if_pos rfl, if_neg (by decide), sI_1, if_pos rfl, if_pos rfl]; rfl
  · rw [sI_1, if_pos rfl, if_pos rfl]; rfl
  have e1 := e0.trans q1.1
  refine (pk_firstInItself hE (by omega) (sub e1).1 (sub e1).2).use ?_
  refine (pk_blame hE (by omega) (kd := 2) q1.2.2.1 q1.2.2.2 (bl _ _ _ (by decide) (by decide)) f1).mono (fun h2 q2 => ?_)
  have e2 := e1.trans q2.1
  refine (pk_firstTooWide hE (by omega) (sub e2).1 (sub e2).2).use ?_
  refine (pk_blame hE (by omega) (kd := 3) q2.2.2.1 q2.2.2.2 (bl _ _ _ (bl _ _ _ (by decide) (by decide)) (by decide)) f2).mono (fun h3 q3 => ?_)
  have e3 := e2.trans q3.1
  refine (pk_firstTooHeavy hE (by omega) (sub e3).1 (sub e3).2).use ?_
  refine (pk_blame hE (by omega) (kd := 4) q3.2.2.1 q3.2.2.2 (bl _ _ _ (bl _ _ _ (bl _ _ _ (by decide) (by decide)) (by decide)) (by decide)) f3).mono (fun h4 q4 => ?_)
  have e4 := e3.trans q4.1
  refine (pk_firstTooFull hE (by omega) (sub e4).1 (sub e4).2).use ?_
  refine (pk_blame hE (by omega) (kd := 5) q4.2.2.1 q4.2.2.2 (bl _ _ _ (bl _ _ _ (bl _ _ _ (bl _ _ _ (by decide) (by decide)) (by decide)) (by decide)) (by decide)) f4).mono (fun h5 q5 => ⟨e4.trans q5.1, q5.2.2.1, q5.2.2.2⟩)
end Pack
