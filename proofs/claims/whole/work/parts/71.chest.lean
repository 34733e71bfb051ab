/-! ===== what may be in a chest ===== -/
def inA (q : Nat → Bool) (n : Nat) : Nat → Nat
  | 0 => 2 ^ n - 1
  | c + 1 => if q c = true then inA q n c &&& c else inA q n c
def inY (q : Nat → Bool) : Nat → Nat
  | 0 => 0
  | c + 1 => if q c = true then inY q c ||| c else inY q c
def tmI (q : Nat → Bool) (k : Nat) : Nat → Nat := sE (fun j => if q j = true ∧ j.testBit k = true then 1 else 0)
def ChV (h : Hp) (q : Nat → Bool) (n c : Nat) : Prop := h.1 59 5 = nI (cB q c) ∧ (∀ j, j < c → q j = true → cB q j < 12 → h.2.1 60 (cB q j) = nI j) ∧ h.1 59 6 = nI (inA q n c) ∧ h.1 59 7 = nI (inY q c) ∧ ∀ k, k < 12 → h.2.1 61 k = nI (tmI q k c)
theorem inA_le (q : Nat → Bool) (n : Nat) : ∀ c, inA q n c ≤ 2 ^ n - 1
  | 0 => Nat.le_refl _
  | c + 1 => by
    have := inA_le q n c
    show (if q c = true then inA q n c &&& c else inA q n c) ≤ _
    split
    · exact Nat.le_trans Nat.and_le_left this
    · exact this
theorem inY_lt (q : Nat → Bool) {n : Nat} : ∀ c, c ≤ 2 ^ n → inY q c < 2 ^ n
  | 0, _ => Nat.two_pow_pos n
  | c + 1, h => by
    have := inY_lt q (n := n) c (by omega)
    show (if q c = true then inY q c ||| c else inY q c) < _
    split
    · exact Nat.or_lt_two_pow this (by omega)
    · exact this
theorem cB_le (W : Nat → Bool) (v : Nat) : cB W v ≤ v := by
  have : cB W v ≤ v * 1 := sE_le (fun k _ => by split <;> omega)
  omega
theorem tmI_le (q : Nat → Bool) (k c : Nat) : tmI q k c ≤ cB q c := sE_mon (fun j _ => by
  by_cases z : q j = true ∧ j.testBit k = true
  · rw [if_pos z, if_pos z.1]; exact Nat.le_refl _
  · rw [if_neg z]; exact Nat.zero_le _)
section Chest
variable {E : EnvX} {L : Nat} {h : Hp} {nB nT : Nat} {tv : Nat → Nat → Nat} {pk lv sn : Nat → Nat} {ck : Nat}
theorem k60 : (akd 60 = 1 ∧ 12 ≤ aln 60 ∧ aln 60 < 2147483648) ∧ (akd 61 = 1 ∧ aln 61 = 12) := by decide +kernel
theorem in60 {k : Nat} (hk : k < 12) : inI 60 (nI k) := inI_of k60.1.1 (by have := k60.1.2.1; omega) k60.1.2.2
theorem in61 {k : Nat} (hk : k < 12) : inI 61 (nI k) := inI_of k60.2.1 (by rw [k60.2.2]; exact hk) (by rw [k60.2.2]; decide)
theorem ch_note (hE : EOk E) (hL : 2 ≤ L) {q : Nat → Bool} {n c : Nat} (hn : n ≤ 12) (hc : c < 2 ^ n) (V : ChV h q n c) (hq : q c = true) : ConV E L m_Chest_note 59 [.int (nI c)] h (fun h' => EqO (fun x => x = 59 ∨ x = 60 ∨ x = 61) h h' ∧ ChV h' q n (c + 1)) := by
  obtain ⟨v1, v2, v3, v4, v5⟩ := V
  have p4 := pow13 (n := n) (by omega)
  have cl := cB_le q c
  have al := inA_le q n c
  have yl := inY_lt q (n := n) c (by omega)
  have cs : cB q (c + 1) = cB q c + 1 := by rw [cB_s, if_pos hq]
  have as' : inA q n (c + 1) = inA q n c &&& c := if_pos hq
  have ys : inY q (c + 1) = inY q c ||| c := if_pos hq
  have l51 : ∀ h1, EqO (fun x => x = 59 ∨ x = 60) h h1 → h1.1 59 5 = nI (cB q (c + 1)) → h1.1 59 6 = nI (inA q n (c + 1)) → h1.1 59 7 = nI (inY q (c + 1)) → (∀ j, j < c + 1 → q j = true → cB q j < 12 → h1.2.1 60 (cB q j) = nI j) → at_Chest_note_51 E L h1 (fun h' => EqO (fun x => x = 59 ∨ x = 60 ∨ x = 61) h h' ∧ ChV h' q n (c + 1)) (nI c) 0 := by
    intro h1 e a5 a6 a7 a0
    have go : ∀ m k, m + k = 12 → ∀ h2, EqO (fun x => x = 61) h1 h2 → (∀ j, j < 12 → h2.2.1 61 j = if j < k then nI (tmI q j (c + 1)) else nI (tmI q j c)) → at_Chest_note_51 E L h2 (fun h' => EqO (fun x => x = 59 ∨ x = 60 ∨ x = 61) h h' ∧ ChV h' q n (c + 1)) (nI c) (nI k) := by
      intro m
      induction m with
      | zero =>
        intro k hk h2 e2 t2
        rw [show k = 12 by omega]
        refine B_Chest_note_51 (brT (nEnd 12) ⟨(e.wk (fun x z => by omega)).trans (e2.wk (fun x z => by omega)), ?_⟩)
        refine ⟨by rw [(e2 59 (by omega)).1]; exact a5, fun j hj qj c12 => by rw [(e2 60 (by omega)).2.1]; exact a0 j hj qj c12, by rw [(e2 59 (by omega)).1]; exact a6, by rw [(e2 59 (by omega)).1]; exact a7, fun j hj => ?_⟩
        rw [t2 j hj, if_pos (by omega)]
      | succ m ih =>
        intro k hk h2 e2 t2
        have ts : tmI q k (c + 1) = tmI q k c + (if c.testBit k = true then 1 else 0) := by
          show sE _ (c + 1) = _
          rw [sE_s]
          congr 1
          by_cases b : c.testBit k = true
          · rw [if_pos b, if_pos ⟨hq, b⟩]
          · rw [if_neg b, if_neg (fun z => b z.2)]
        refine B_Chest_note_51 (brF (nG 12 (by omega)) ⟨in61 (by omega), in61 (by omega), ?_⟩)
        rw [nIc (by omega), t2 k (by omega), if_neg (by omega), bitN (by omega) (by omega), show (if c.testBit k = true then (1 : Int32) else 0) = nI (if c.testBit k = true then 1 else 0) by split <;> rfl, nI_add, ← ts, nI_1]
        refine ih (k + 1) (by omega) _ (e2.trans (EqO.sA (F := fun x => x = 61) rfl)) (fun j hj => ?_)
        rw [sA_A, if_pos rfl]
        by_cases d : j = k
        · rw [if_pos d, d, if_pos (by omega)]
        · rw [if_neg d, t2 j hj]
          by_cases d2 : j < k
          · rw [if_pos d2, if_pos (by omega)]
          · rw [if_neg d2, if_neg (by omega)]
    exact go 12 0 (by omega) h1 EqO.rfl' (fun j hj => by rw [if_neg (Nat.not_lt_zero j), (e 61 (by omega)).2.1]; exact v5 j hj)
  refine B_Chest_note hE (by omega) ?_
  have andE : nI (inA q n c) &&& nI c = nI (inA q n (c + 1)) := by rw [as', andN (by omega) (by omega)]
  have orE : nI (inY q c) ||| nI c = nI (inY q (c + 1)) := by rw [ys, orN (by omega) (by omega)]
  have fin : ∀ h0, EqO (fun x => x = 60) h h0 → (∀ j, j < c + 1 → q j = true → cB q j < 12 → h0.2.1 60 (cB q j) = nI j) → at_Chest_note_51 E L (sI (sI (sI h0 59 5 ((h0.1 59 5) + 1)) 59 6 (((sI h0 59 5 ((h0.1 59 5) + 1)).1 59 6) &&& nI c)) 59 7 (((sI (sI h0 59 5 ((h0.1 59 5) + 1)) 59 6 (((sI h0 59 5 ((h0.1 59 5) + 1)).1 59 6) &&& nI c)).1 59 7) ||| nI c)) (fun h' => EqO (fun x => x = 59 ∨ x = 60 ∨ x = 61) h h' ∧ ChV h' q n (c + 1)) (nI c) 0 := by
    intro h0 e0 a0
    have f0 : h0.1 59 = h.1 59 := (e0 59 (by omega)).1
    rw [sI_1, if_pos rfl, if_neg (by omega), sI_1, if_pos rfl, if_neg (by omega), sI_1, if_pos rfl, if_neg (by omega), f0, v1, v3, v4, nI_1, andE, orE]
    refine l51 _ ((((e0.wk (fun x z => Or.inr z)).trans (EqO.sI (F := fun x => x = 59 ∨ x = 60) (Or.inl rfl))).trans (EqO.sI (F := fun x => x = 59 ∨ x = 60) (Or.inl rfl))).trans (EqO.sI (F := fun x => x = 59 ∨ x = 60) (Or.inl rfl))) ?_ ?_ ?_ a0
    · rw [sI_1, if_pos rfl, if_neg (by omega), sI_1, if_pos rfl, if_neg (by omega), sI_1, if_pos rfl, if_pos rfl, cs]
    · rw [sI_1, if_pos rfl, if_neg (by omega), sI_1, if_pos rfl, if_pos rfl]
    · rw [sI_1, if_pos rfl, if_pos rfl]
  rw [v1]
  refine ⟨fun g => ?_, fun g => ⟨in60 ?_, ?_⟩⟩
  · have := fin h EqO.rfl' (fun j hj qj c12 => ?_)
    · rw [v1] at this; exact this
    · by_cases d : j = c
      · rw [d] at c12
        rw [show (12 : Int32) = nI 12 from rfl, nIl (by omega) (by omega)] at g
        omega
      · exact v2 j (by omega) qj c12
  · rw [show (12 : Int32) = nI 12 from rfl, nIl (by omega) (by omega)] at g; omega
  · rw [nIc (by omega)]
    have := fin (sA h 60 (cB q c) (nI c)) (EqO.sA (F := fun x => x = 60) rfl) (fun j hj qj c12 => ?_)
    · exact this
    · rw [sA_A, if_pos rfl]
      by_cases d : j = c
      · rw [d, if_pos rfl]
      · rw [if_neg (fun z => d (cB_inj qj hq z))]; exact v2 j (by omega) qj c12
end Chest
