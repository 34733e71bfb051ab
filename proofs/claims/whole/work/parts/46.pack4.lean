theorem findF_first (p : Nat → Bool) {j : Nat} : ∀ n k, k ≤ j → j < k + n → p j = true → (∀ i, k ≤ i → i < j → p i = false) → findF p n k = j + 1
  | 0, k, h1, h2, _, _ => by omega
  | n + 1, k, h1, h2, h3, h4 => by
    by_cases e : k = j
    · subst e; simp only [findF, if_pos h3]
    · have c : ¬ p k = true := by rw [h4 k (Nat.le_refl _) (by omega)]; decide
      simp only [findF, if_neg c]
      exact findF_first p n (k + 1) (by omega) (by omega) h3 (fun i a b => h4 i (by omega) b)
theorem findF_none (p : Nat → Bool) : ∀ n k, (∀ i, k ≤ i → i < k + n → p i = false) → findF p n k = 0
  | 0, _, _ => rfl
  | n + 1, k, h => by
    have c : ¬ p k = true := by rw [h k (Nat.le_refl _) (by omega)]; decide
    simp only [findF, if_neg c]
    exact findF_none p n (k + 1) (fun i a b => h i (by omega) (by omega))
theorem findF_min (p : Nat → Bool) : ∀ n k, (findF p n k = 0 ∧ ∀ i, k ≤ i → i < k + n → p i = false) ∨ ∃ j, k ≤ j ∧ j < k + n ∧ p j = true ∧ findF p n k = j + 1 ∧ ∀ i, k ≤ i → i < j → p i = false
  | 0, k => Or.inl ⟨rfl, fun j h1 h2 => by omega⟩
  | n + 1, k => by
    by_cases c : p k = true
    · exact Or.inr ⟨k, Nat.le_refl _, by omega, c, by simp only [findF, if_pos c], fun i a b => by omega⟩
    · have e : findF p (n + 1) k = findF p n (k + 1) := by simp only [findF, if_neg c]
      have c2 : p k = false := by simpa using c
      rw [e]
      rcases findF_min p n (k + 1) with ⟨q1, q2⟩ | ⟨j, q1, q2, q3, q4, q5⟩
      · refine Or.inl ⟨q1, fun i h1 h2 => ?_⟩
        by_cases d : i = k
        · rw [d]; exact c2
        · exact q2 i (by omega) (by omega)
      · refine Or.inr ⟨j, by omega, by omega, q3, q4, fun i h1 h2 => ?_⟩
        by_cases d : i = k
        · rw [d]; exact c2
        · exact q5 i (by omega) h2
/-- first among the items, by places -/
theorem find_places {nB nT : Nat} (h8 : nB ≤ 8) (h16 : nT ≤ 16) {p : Nat → Bool} (hp : ∀ i, i < 24 → ¬ isIt nB nT i → p i = false) : findF p 24 0 = if findF (fun k => p (itA nB k)) (nB + nT) 0 = 0 then 0 else itA nB (findF (fun k => p (itA nB k)) (nB + nT) 0 - 1) + 1 := by
  rcases findF_min (fun k => p (itA nB k)) (nB + nT) 0 with ⟨q1, q2⟩ | ⟨j, -, q2, q3, q4, q5⟩
  · rw [if_pos q1]
    refine findF_none p 24 0 (fun i _ hi => ?_)
    by_cases c : isIt nB nT i
    · obtain ⟨a, b⟩ := itA_plc h8 c
      have := q2 (plc nB i) (Nat.zero_le _) (by omega)
      rw [a] at this; exact this
    · exact hp i (by omega) c
  · rw [if_neg (by omega), q4, Nat.add_sub_cancel]
    have hj : j < nB + nT := by omega
    have hit := itA_lt h8 h16 hj
    refine findF_first p 24 0 (Nat.zero_le _) (by omega) q3 (fun i _ hi => ?_)
    by_cases c : isIt nB nT i
    · obtain ⟨a, b⟩ := itA_plc h8 c
      have lt : plc nB i < j := by
        have e1 := plc_itA (nT := nT) h8 hj
        rcases Nat.lt_or_ge (plc nB i) j with q | q
        · exact q
        · exfalso
          unfold plc at q
          unfold itA at hi
          unfold isIt at c
          split at q <;> split at hi <;> omega
      have := q5 (plc nB i) (Nat.zero_le _) lt
      rw [a] at this; exact this
    · exact hp i (by omega) c
section Pack4
variable {E : EnvX} {L : Nat} {h : Hp} {K : Nat} {nB nT : Nat} {tv : Nat → Nat → Nat} {pk lv sn : Nat → Nat} {ck : Nat} {post : Int32 → Hp → Prop}
theorem e750 (M : MdV h nB nT tv pk sn ck) : h.2.1 75 (0 : Int32).toNatClampNeg = nI nB := M.2.1.1
theorem m_fw137 (hE : EOk E) (hL : 6 ≤ L) (M : MdV h nB nT tv pk sn ck) (H : (fFl pk tv nB = 0 → post (-1) (sI h 74 17 0)) ∧ (fFl pk tv nB ≠ 0 → post (bx (fFl pk tv nB)) h)) : at_M_firstWrong_137 E L h post 0 := by
  have h8 := M.1.1
  have ht : ∀ i k, i < 24 → k < 7 → tv i k ≤ 9999 := fun i k hi hk => (M.2.2.1 i k hi hk).2
  have hfl := fun c => fil_le (pk := pk) (tv := tv) (fun i hi => ht i 0 hi (by omega)) c
  refine find_loop (A := fun k => at_M_firstWrong_137 E L h post (nI k)) (Z := fun c => (c = 0 → post (-1) (sI h 74 17 0)) ∧ (c ≠ 0 → post (bx c) h)) (p := fun b => decide (rom pk tv b (hlv pk (b + 1)) < fil pk tv (b + 1))) (N := nB) (fun z => ?_) (fun k hk c z => ?_) (fun k hk c ih => ?_) nB 0 (by omega) H
  · refine B_M_firstWrong_137 ⟨in75 (k := 0) (by omega), ?_⟩
    rw [e750 M]
    exact brT (nI_le (Nat.le_refl _) (by omega)) (z.1 rfl)
  · rw [decide_eq_true_eq] at c
    have y2 := m_fillOf hE (L := L - 1) (by omega) M (c := k + 1) (by omega) (by omega)
    rw [bx_S] at y2
    have a1 := hfl (k + 1)
    have a2 := rom_le (pk := pk) (b := k) (n := hlv pk (k + 1)) (ht k 0 (by omega) (by omega)) (ht k 5 (by omega) (by omega))
    have z2 := z.2 (Nat.succ_ne_zero k)
    rw [bx_S] at z2
    refine B_M_firstWrong_137 ⟨in75 (k := 0) (by omega), ?_⟩
    rw [e750 M]
    refine brF (nI_ge hk (by omega)) (y2.use ((m_roomOf hE (by omega) M (b := k) (m := 0) (by omega) (by omega)).use ?_))
    rw [show hlv pk (k + 1) + 0 = hlv pk (k + 1) from rfl, nIl (by omega) (by omega)]
    exact brF (by omega) z2
  · rw [decide_eq_false_iff_not] at c
    have y2 := m_fillOf hE (L := L - 1) (by omega) M (c := k + 1) (by omega) (by omega)
    rw [bx_S] at y2
    have a1 := hfl (k + 1)
    have a2 := rom_le (pk := pk) (b := k) (n := hlv pk (k + 1)) (ht k 0 (by omega) (by omega)) (ht k 5 (by omega) (by omega))
    refine B_M_firstWrong_137 ⟨in75 (k := 0) (by omega), ?_⟩
    rw [e750 M]
    refine brF (nI_ge hk (by omega)) (y2.use ((m_roomOf hE (by omega) M (b := k) (m := 0) (by omega) (by omega)).use ?_))
    rw [show hlv pk (k + 1) + 0 = hlv pk (k + 1) from rfl, nIl (by omega) (by omega), nI_1]
    exact brT (by omega) ih
theorem m_fw97 (hE : EOk E) (hL : 6 ≤ L) (M : MdV h nB nT tv pk sn ck) (hA : acy pk) (H : (fHv pk tv nB = 0 → at_M_firstWrong_137 E L (sI h 74 17 5) post 0) ∧ (fHv pk tv nB ≠ 0 → post (bx (fHv pk tv nB)) h)) : at_M_firstWrong_97 E L h post 0 := by
  have h8 := M.1.1
  have ht : ∀ i k, i < 24 → k < 7 → tv i k ≤ 9999 := fun i k hi hk => (M.2.2.1 i k hi hk).2
  have hlod := fun c => lod_le (pk := pk) (tv := tv) (fun i hi => ht i 2 hi (by omega)) c
  refine find_loop (A := fun k => at_M_firstWrong_97 E L h post (nI k)) (Z := fun c => (c = 0 → at_M_firstWrong_137 E L (sI h 74 17 5) post 0) ∧ (c ≠ 0 → post (bx c) h)) (p := fun b => decide (tv b 6 < lod pk tv (b + 1))) (N := nB) (fun z => ?_) (fun k hk c z => ?_) (fun k hk c ih => ?_) nB 0 (by omega) H
  · refine B_M_firstWrong_97 ⟨in75 (k := 0) (by omega), ?_⟩
    rw [e750 M]
    exact brT (nI_le (Nat.le_refl _) (by omega)) (z.1 rfl)
  · rw [decide_eq_true_eq] at c
    have y2 := m_loadOf hE (L := L - 1) (by omega) M hA (c := k + 1) (by omega) (by omega)
    rw [bx_S] at y2
    have a1 := ht k 6 (by omega) (by omega)
    have a2 := hlod (k + 1)
    have z2 := z.2 (Nat.succ_ne_zero k)
    rw [bx_S] at z2
    refine B_M_firstWrong_97 ⟨in75 (k := 0) (by omega), ?_⟩
    rw [e750 M]
    refine brF (nI_ge hk (by omega)) (y2.use ((m_of hE (by omega) M (i := k) (k := 6) (by omega) (by omega)).use ?_))
    rw [nIl (by omega) (by omega)]
    exact brF (by omega) z2
  · rw [decide_eq_false_iff_not] at c
    have y2 := m_loadOf hE (L := L - 1) (by omega) M hA (c := k + 1) (by omega) (by omega)
    rw [bx_S] at y2
    have a1 := ht k 6 (by omega) (by omega)
    have a2 := hlod (k + 1)
    refine B_M_firstWrong_97 ⟨in75 (k := 0) (by omega), ?_⟩
    rw [e750 M]
    refine brF (nI_ge hk (by omega)) (y2.use ((m_of hE (by omega) M (i := k) (k := 6) (by omega) (by omega)).use ?_))
    rw [nIl (by omega) (by omega), nI_1]
    exact brT (by omega) ih
theorem m_fw40 (hE : EOk E) (hL : 6 ≤ L) (M : MdV h nB nT tv pk sn ck) (H : (fWd pk tv = 0 → at_M_firstWrong_97 E L (sI h 74 17 4) post 0) ∧ (fWd pk tv ≠ 0 → post (bx (fWd pk tv)) h)) : at_M_firstWrong_40 E L h post 0 := by
  have h8 := M.1.1
  have h16 := M.1.2.1
  have ht : ∀ i k, i < 24 → k < 7 → tv i k ≤ 9999 := fun i k hi hk => (M.2.2.1 i k hi hk).2
  have fp : fWd pk tv = _ := find_places h8 h16 (p := fun i => decide (pk i ≠ 0 ∧ tv (pk i - 1) 4 < tv i 1)) (fun i hi z => decide_eq_false (fun w => w.1 (M.2.2.2.2.2 i hi z)))
  rw [fp] at H
  refine find_loop (A := fun k => at_M_firstWrong_40 E L h post (nI k)) (Z := fun c => ((if c = 0 then 0 else itA nB (c - 1) + 1) = 0 → at_M_firstWrong_97 E L (sI h 74 17 4) post 0) ∧ ((if c = 0 then 0 else itA nB (c - 1) + 1) ≠ 0 → post (bx (if c = 0 then 0 else itA nB (c - 1) + 1)) h)) (p := fun k => decide (pk (itA nB k) ≠ 0 ∧ tv (pk (itA nB k) - 1) 4 < tv (itA nB k) 1)) (N := nB + nT) (fun z => ?_) (fun k hk c z => ?_) (fun k hk c ih => ?_) (nB + nT) 0 (by omega) H
  · exact B_M_firstWrong_40 ((m_itemMany hE (by omega) M).use (brT (nI_le (Nat.le_refl _) (by omega)) (z.1 rfl)))
  · rw [decide_eq_true_eq] at c
    have hit := itA_lt h8 h16 hk
    have p8 := M.pk8 hit
    rw [if_neg (Nat.succ_ne_zero k), Nat.add_sub_cancel] at z
    have z2 := z.2 (Nat.succ_ne_zero _)
    rw [bx_S] at z2
    have at1 : RdI E (L - 1) m_M_itemAt 74 [.int (nI k)] h (nI (itA nB k)) := m_itemAt hE (by omega) M (by omega)
    obtain ⟨m, hm⟩ : ∃ m, pk (itA nB k) = m + 1 := ⟨pk (itA nB k) - 1, by omega⟩
    have b1 := m_around hE (L := L - 1) (by omega) M hit
    rw [hm, bx_S] at b1
    rw [hm, Nat.add_sub_cancel] at c
    have a1 := ht (itA nB k) 1 hit (by omega)
    have a2 := ht m 4 (by omega) (by omega)
    refine B_M_firstWrong_40 ((m_itemMany hE (by omega) M).use (brF (nI_ge hk (by omega)) (at1.use (b1.use (brF (nIm1 (by omega)) ((m_of hE (by omega) M (k := 1) hit (by omega)).use (b1.use ((m_of hE (by omega) M (i := m) (k := 4) (by omega) (by omega)).use ?_))))))))
    rw [nIl (by omega) (by omega)]
    exact brF (by omega) z2
  · rw [decide_eq_false_iff_not] at c
    have hit := itA_lt h8 h16 hk
    have p8 := M.pk8 hit
    have at1 : RdI E (L - 1) m_M_itemAt 74 [.int (nI k)] h (nI (itA nB k)) := m_itemAt hE (by omega) M (by omega)
    have b1 := m_around hE (L := L - 1) (by omega) M hit
    refine B_M_firstWrong_40 ((m_itemMany hE (by omega) M).use (brF (nI_ge hk (by omega)) (at1.use (b1.use ?_))))
    rw [bx_m1 (by omega), nI_1]
    refine ⟨fun _ => ih, fun d => ?_⟩
    obtain ⟨m, hm⟩ : ∃ m, pk (itA nB k) = m + 1 := ⟨pk (itA nB k) - 1, by omega⟩
    rw [hm, bx_S] at b1
    rw [hm, Nat.add_sub_cancel] at c
    have a1 := ht (itA nB k) 1 hit (by omega)
    have a2 := ht m 4 (by omega) (by omega)
    refine (m_of hE (by omega) M (k := 1) hit (by omega)).use (b1.use ((m_of hE (by omega) M (i := m) (k := 4) (by omega) (by omega)).use ?_))
    rw [nIl (by omega) (by omega)]
    exact brT (by omega) ih
theorem m_fw7 (hE : EOk E) (hL : 6 ≤ L) (M : MdV h nB nT tv pk sn ck) (H : (fIn pk nB = 0 → at_M_firstWrong_40 E L (sI h 74 17 3) post 0) ∧ (fIn pk nB ≠ 0 → post (bx (fIn pk nB)) h)) : at_M_firstWrong_7 E L h post 0 := by
  have h8 := M.1.1
  refine find_loop (A := fun k => at_M_firstWrong_7 E L h post (nI k)) (Z := fun c => (c = 0 → at_M_firstWrong_40 E L (sI h 74 17 3) post 0) ∧ (c ≠ 0 → post (bx c) h)) (p := fun b => wi pk (b + 1) 8 (b + 1)) (N := nB) (fun z => ?_) (fun k hk c z => ?_) (fun k hk c ih => ?_) nB 0 (by omega) H
  · refine B_M_firstWrong_7 ⟨in75 (k := 0) (by omega), ?_⟩
    rw [e750 M]
    exact brT (nI_le (Nat.le_refl _) (by omega)) (z.1 rfl)
  · have w := m_isRing hE (L := L - 1) (by omega) M (b := k) (by omega)
    rw [if_pos c] at w
    have z2 := z.2 (Nat.succ_ne_zero k)
    rw [bx_S] at z2
    refine B_M_firstWrong_7 ⟨in75 (k := 0) (by omega), ?_⟩
    rw [e750 M]
    exact brF (nI_ge hk (by omega)) (w.use (brF (by decide) z2))
  · have w := m_isRing hE (L := L - 1) (by omega) M (b := k) (by omega)
    rw [if_neg (by rw [c]; decide)] at w
    refine B_M_firstWrong_7 ⟨in75 (k := 0) (by omega), ?_⟩
    rw [e750 M, nI_1]
    exact brF (nI_ge hk (by omega)) (w.use (brT rfl ih))
end Pack4
