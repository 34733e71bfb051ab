/-! ===== shut in: pure part ===== -/
section ShutP
variable {pk : Nat → Nat} {tv : Nat → Nat → Nat}
theorem wi_t {d : Nat} : ∀ {n c : Nat}, wi pk d n c = true → ∃ m, itn pk (m + 1) c = d
  | 0, c, h => by cases h
  | n + 1, c, h => by
    simp only [wi] at h
    split at h
    · cases h
    · split at h
      · rename_i q; exact ⟨0, q⟩
      · obtain ⟨m, hm⟩ := wi_t h
        exact ⟨m + 1, hm⟩
theorem wi_iff (hA : acy pk) {d c : Nat} (hd : d ≠ 0) (hc : c ≤ 24) : wi pk d 8 c = true ↔ ∃ m, itn pk (m + 1) c = d := by
  refine ⟨fun h => wi_t h, fun ⟨m, hm⟩ => ?_⟩
  cases h : wi pk d 8 c
  · have m8 : m < 8 := Classical.byContradiction fun z => by
      have := itn_z (hA c hc) (show 9 ≤ m + 1 by omega)
      omega
    exact absurd hm (wi_f hd h m m8)
  · rfl
theorem itn_pl (n : Nat) : ∀ m c, itn pk (m + n) c = itn pk n (itn pk m c)
  | 0, c => by rw [Nat.zero_add]; rfl
  | m + 1, c => by
    rw [show m + 1 + n = (m + n) + 1 by omega, itn_s, itn_pl n m, ← itn_s]
/-- in a box one of eight boxes: at most eight around -/
theorem chain8 (hA : acy pk) (hp : ∀ i, i < 24 → pk i ≤ 8) {b : Nat} (hb : b < 8) : itn pk 8 (b + 1) = 0 := by
  refine Classical.byContradiction fun z => ?_
  have nz : ∀ s, s ≤ 8 → itn pk s (b + 1) ≠ 0 := fun s hs w => z (itn_z w hs)
  have le8 : ∀ s, s ≤ 8 → itn pk s (b + 1) ≤ 8 := fun s hs => by
    cases s with
    | zero => show b + 1 ≤ 8; omega
    | succ s => rw [itn_end]; exact nx_le8 hp (itn_l24 hp (by omega) s)
  obtain ⟨i, j, hij, hj, e⟩ := pig 8 (fun s => itn pk s (b + 1) - 1) (fun s hs => by
    have := le8 s hs
    have := nz s hs
    show itn pk s (b + 1) - 1 < 8
    omega)
  have e' : itn pk i (b + 1) = itn pk j (b + 1) := by
    have e2 : itn pk i (b + 1) - 1 = itn pk j (b + 1) - 1 := e
    have := nz i (by omega)
    have := nz j hj
    omega
  have cyc : itn pk ((j - i - 1) + 1) (itn pk i (b + 1)) = itn pk i (b + 1) := by
    rw [← itn_pl, show i + (j - i - 1 + 1) = j by omega, e']
  have := no_cyc (nz i (by omega)) cyc 9
  exact this (hA _ (itn_l24 hp (by omega) i))
/-- within, one step out -/
theorem wi_step (hA : acy pk) (hp : ∀ i, i < 24 → pk i ≤ 8) {d j : Nat} (hd : d ≠ 0) (hj : j < 24) : wi pk d 8 (j + 1) = true ↔ (pk j = d ∨ wi pk d 8 (pk j) = true) := by
  have p8 := hp j hj
  rw [wi_iff hA hd (show j + 1 ≤ 24 by omega)]
  constructor
  · rintro ⟨m, hm⟩
    cases m with
    | zero => exact Or.inl (by rw [itn_s, nx_S] at hm; exact hm)
    | succ m => exact Or.inr ((wi_iff hA hd (by omega)).mpr ⟨m, by rw [itn_s, nx_S] at hm; exact hm⟩)
  · rintro (q | q)
    · exact ⟨0, by rw [itn_s, nx_S]; exact q⟩
    · obtain ⟨m, hm⟩ := (wi_iff hA hd (show pk j ≤ 24 by omega)).mp q
      exact ⟨m + 1, by rw [itn_s, nx_S]; exact hm⟩
theorem wi_self (hA : acy pk) {j : Nat} (hj : j < 24) : wi pk (j + 1) 8 (j + 1) = false := by
  cases h : wi pk (j + 1) 8 (j + 1)
  · rfl
  · obtain ⟨m, hm⟩ := (wi_iff hA (Nat.succ_ne_zero j) (by omega)).mp h
    exact absurd (hA (j + 1) (by omega)) (no_cyc (Nat.succ_ne_zero j) hm 9)
/-- c or what it is in: the boxes whose loads change -/
def inCh (pk : Nat → Nat) (b d : Nat) : Bool := decide (d = b + 1) || wi pk d 8 (b + 1)
theorem wi_up (hA : acy pk) (hp : ∀ i, i < 24 → pk i ≤ 8) {i b : Nat} (hi : i < 24) (hb : b < 8) (h0 : pk i = 0) (hib : i ≠ b) (hw : wi pk (i + 1) 8 (b + 1) = false) {d : Nat} (hd : d ≠ 0) : ∀ n c, c ≤ 24 → itn (upN pk i (b + 1)) n c = 0 → (wi (upN pk i (b + 1)) d 8 c = true ↔ (wi pk d 8 c = true ∨ ((c = i + 1 ∨ wi pk (i + 1) 8 c = true) ∧ inCh pk b d = true))) := by
  have hA' := acy_put hA hp hb hib hw
  have hp' : ∀ k, k < 24 → upN pk i (b + 1) k ≤ 8 := upN_le hp (by omega)
  have z0 : ∀ {e : Nat}, e ≠ 0 → wi pk e 8 0 = false := fun he => wi_0 he 8
  intro n
  induction n with
  | zero =>
    intro c hc hz
    have c0 : c = 0 := hz
    rw [c0, wi_0 hd, z0 hd, z0 (Nat.succ_ne_zero i)]
    simp
  | succ n ih =>
    intro c hc hz
    cases c with
    | zero =>
      rw [wi_0 hd, z0 hd, z0 (Nat.succ_ne_zero i)]
      simp
    | succ j =>
      have hj : j < 24 := by omega
      have pj := hp j hj
      rw [itn_s, nx_S] at hz
      rw [wi_step hA' hp' hd hj]
      by_cases e : j = i
      · rw [e] at hz ⊢
        rw [upN_y] at hz ⊢
        rw [ih (b + 1) (by omega) hz, wi_fl hd h0 8, hw]
        have nb : ¬ (b + 1 = i + 1) := by omega
        unfold inCh
        rw [Bool.or_eq_true, decide_eq_true_eq]
        constructor
        · rintro (q | q | ⟨q | q, -⟩)
          · exact Or.inr ⟨Or.inl rfl, Or.inl q.symm⟩
          · exact Or.inr ⟨Or.inl rfl, Or.inr q⟩
          · exact absurd q nb
          · cases q
        · rintro (q | ⟨-, q | q⟩)
          · cases q
          · exact Or.inl q.symm
          · exact Or.inr (Or.inl q)
      · rw [upN_n e] at hz ⊢
        rw [ih (pk j) (by omega) hz, wi_step hA hp hd hj, wi_step hA hp (Nat.succ_ne_zero i) hj]
        have ne : ¬ (j + 1 = i + 1) := by omega
        constructor
        · rintro (q | q | ⟨q, r⟩)
          · exact Or.inl (Or.inl q)
          · exact Or.inl (Or.inr q)
          · exact Or.inr ⟨Or.inr q, r⟩
        · rintro ((q | q) | ⟨q | q, r⟩)
          · exact Or.inl q
          · exact Or.inr (Or.inl q)
          · exact absurd q ne
          · exact Or.inr (Or.inr ⟨q, r⟩)
/-- what is within i is within nothing of the chain of b -/
theorem sub_out (hA : acy pk) (hp : ∀ i, i < 24 → pk i ≤ 8) {i b j d : Nat} (hi : i < 24) (hb : b < 8) (h0 : pk i = 0) (hib : i ≠ b) (hw : wi pk (i + 1) 8 (b + 1) = false) (hj : j < 24) (hd : d ≠ 0) (hd24 : d ≤ 24) (hs : j = i ∨ wi pk (i + 1) 8 (j + 1) = true) (hx : inCh pk b d = true) : wi pk d 8 (j + 1) = false := by
  cases h : wi pk d 8 (j + 1)
  · rfl
  · exfalso
    obtain ⟨m1, e1⟩ := (wi_iff hA hd (show j + 1 ≤ 24 by omega)).mp h
    rcases hs with e | hs
    · rw [e, itn_s, nx_S, h0, itn_0] at e1; exact hd e1.symm
    · obtain ⟨m2, e2⟩ := (wi_iff hA (show i + 1 ≠ 0 from Nat.succ_ne_zero i) (show j + 1 ≤ 24 by omega)).mp hs
      have di : d = i + 1 ∨ wi pk (i + 1) 8 d = true := by
        rcases Nat.lt_trichotomy m1 m2 with q | q | q
        · right
          refine (wi_iff hA (Nat.succ_ne_zero i) hd24).mpr ⟨m2 - m1 - 1, ?_⟩
          rw [← e1, ← itn_pl, show m1 + 1 + (m2 - m1 - 1 + 1) = m2 + 1 by omega]; exact e2
        · left; rw [← e1, q, e2]
        · have this : d = itn pk (m1 - m2 - 1 + 1) (i + 1) := by rw [← e1, ← e2, ← itn_pl, show m2 + 1 + (m1 - m2 - 1 + 1) = m1 + 1 by omega]
          rw [itn_s, nx_S, h0, itn_0] at this
          exact absurd this hd
      unfold inCh at hx
      rw [Bool.or_eq_true, decide_eq_true_eq] at hx
      rcases hx with q | q
      · rcases di with r | r
        · omega
        · rw [q, hw] at r; cases r
      · obtain ⟨m3, e3⟩ := (wi_iff hA hd (show b + 1 ≤ 24 by omega)).mp q
        have : wi pk (i + 1) 8 (b + 1) = true := by
          rcases di with r | r
          · rw [r] at q; exact q
          · obtain ⟨m4, e4⟩ := (wi_iff hA (Nat.succ_ne_zero i) hd24).mp r
            refine (wi_iff hA (Nat.succ_ne_zero i) (by omega)).mpr ⟨m3 + 1 + m4, ?_⟩
            rw [show m3 + 1 + m4 + 1 = (m3 + 1) + (m4 + 1) by omega, itn_pl, e3, e4]
        rw [hw] at this; cases this
theorem lod_up (hA : acy pk) (hp : ∀ i, i < 24 → pk i ≤ 8) {i b d : Nat} (hi : i < 24) (hb : b < 8) (h0 : pk i = 0) (hib : i ≠ b) (hw : wi pk (i + 1) 8 (b + 1) = false) (hd : d ≠ 0) (hd24 : d ≤ 24) : lod (upN pk i (b + 1)) tv d = lod pk tv d + if inCh pk b d = true then tv i 2 + lod pk tv (i + 1) else 0 := by
  have hA' := acy_put hA hp hb hib hw
  have key : ∀ j, j < 24 → (wi (upN pk i (b + 1)) d 8 (j + 1) = true ↔ (wi pk d 8 (j + 1) = true ∨ ((j = i ∨ wi pk (i + 1) 8 (j + 1) = true) ∧ inCh pk b d = true))) := fun j hj => by
    have := wi_up hA hp hi hb h0 hib hw hd 9 (j + 1) (by omega) (hA' _ (by omega))
    rw [this]
    constructor
    · rintro (q | ⟨q | q, r⟩)
      · exact Or.inl q
      · exact Or.inr ⟨Or.inl (by omega), r⟩
      · exact Or.inr ⟨Or.inr q, r⟩
    · rintro (q | ⟨q | q, r⟩)
      · exact Or.inl q
      · exact Or.inr ⟨Or.inl (by omega), r⟩
      · exact Or.inr ⟨Or.inr q, r⟩
  by_cases x : inCh pk b d = true
  · rw [if_pos x]
    have e1 : sE (fun j => if i = j then tv i 2 else 0) 24 = tv i 2 := by
      have : ∀ n, i < n → sE (fun j => if i = j then tv i 2 else 0) n = tv i 2 := by
        intro n
        induction n with
        | zero => intro q; omega
        | succ n ih =>
          intro q
          rw [sE_s]
          by_cases e : i = n
          · rw [if_pos e, sE_zero (fun j hj => if_neg (by omega)), Nat.zero_add]
          · rw [if_neg e, ih (by omega), Nat.add_zero]
      exact this 24 hi
    have e2 : lod (upN pk i (b + 1)) tv d = lod pk tv d + (sE (fun j => if i = j then tv i 2 else 0) 24 + lod pk tv (i + 1)) := by
      unfold lod
      rw [← sE_add, ← sE_add]
      refine sE_cong (n := 24) (fun j hj => ?_)
      have k := key j hj
      by_cases e : i = j
      · subst e
        have so := sub_out hA hp hi hb h0 hib hw hi hd hd24 (Or.inl rfl) x
        have sf : ¬ wi pk d 8 (i + 1) = true := fun z => by rw [so] at z; cases z
        have ss : ¬ wi pk (i + 1) 8 (i + 1) = true := fun z => by rw [wi_self hA hi] at z; cases z
        rw [if_pos (k.mpr (Or.inr ⟨Or.inl rfl, x⟩)), if_pos rfl, if_neg sf, if_neg ss]
        omega
      · rw [if_neg e]
        by_cases q : wi pk (i + 1) 8 (j + 1) = true
        · have so := sub_out hA hp hi hb h0 hib hw hj hd hd24 (Or.inr q) x
          have sf : ¬ wi pk d 8 (j + 1) = true := fun z => by rw [so] at z; cases z
          rw [if_pos (k.mpr (Or.inr ⟨Or.inr q, x⟩)), if_neg sf, if_pos q]
          omega
        · by_cases r : wi pk d 8 (j + 1) = true
          · rw [if_pos (k.mpr (Or.inl r)), if_pos r, if_neg q]; omega
          · have nn : ¬ wi (upN pk i (b + 1)) d 8 (j + 1) = true := fun z => by
              rcases k.mp z with w | ⟨w | w, -⟩
              · exact r w
              · exact e w.symm
              · exact q w
            rw [if_neg nn, if_neg r, if_neg q]
    rw [e2, e1]
  · have ef : ∀ j, j < 24 → (fun j => if wi (upN pk i (b + 1)) d 8 (j + 1) = true then tv j 2 else 0) j = (fun j => if wi pk d 8 (j + 1) = true then tv j 2 else 0) j := fun j hj => by
      have k := key j hj
      show (if wi (upN pk i (b + 1)) d 8 (j + 1) = true then tv j 2 else 0) = (if wi pk d 8 (j + 1) = true then tv j 2 else 0)
      by_cases q : wi pk d 8 (j + 1) = true
      · rw [if_pos q, if_pos (k.mpr (Or.inl q))]
      · have nn : ¬ wi (upN pk i (b + 1)) d 8 (j + 1) = true := fun z => (k.mp z).elim q (fun w => x w.2)
        rw [if_neg q, if_neg nn]
    have es := sE_cong ef
    rw [if_neg x, Nat.add_zero]
    exact es
theorem fil_up {i b d : Nat} (hi : i < 24) (h0 : pk i = 0) (hd : d ≠ 0) : fil (upN pk i (b + 1)) tv d = fil pk tv d + if d = b + 1 then tv i 0 else 0 := by
  have := sE_upd (fun k => if pk k = d then tv k 0 else 0) (if d = b + 1 then tv i 0 else 0) (i := i) (n := 24) hi
  rw [if_neg (show ¬ pk i = d by rw [h0]; exact fun z => hd z.symm), Nat.add_zero] at this
  unfold fil
  rw [← this]
  refine sE_cong (n := 24) (fun k hk => ?_)
  by_cases e : k = i
  · rw [if_pos e, e, upN_y]
    by_cases q : d = b + 1
    · rw [if_pos q.symm, if_pos q]
    · rw [if_neg (fun z => q z.symm), if_neg q]
  · rw [if_neg e, upN_n e]
theorem hlv_up {i b c : Nat} (hi : i < 24) (h0 : pk i = 0) (hib : i ≠ b) : hlv (upN pk i (b + 1)) (c + 1) = hlv pk (c + 1) + (if c = i then 1 else 0) + (if c = b ∧ i < 8 then 1 else 0) := by
  unfold hlv
  rw [nx_S, nx_S]
  have s : sE (fun k => if upN pk i (b + 1) k = c + 1 then 1 else 0) 8 = sE (fun k => if pk k = c + 1 then 1 else 0) 8 + (if c = b ∧ i < 8 then 1 else 0) := by
    by_cases i8 : i < 8
    · have := sE_upd (fun k => if pk k = c + 1 then 1 else 0) (if c = b then 1 else 0) (i := i) (n := 8) i8
      rw [if_neg (show ¬ pk i = c + 1 by rw [h0]; exact fun z => Nat.succ_ne_zero c z.symm), Nat.add_zero] at this
      have e2 : (if c = b ∧ i < 8 then 1 else 0) = (if c = b then 1 else 0) := by
        by_cases q : c = b
        · rw [if_pos ⟨q, i8⟩, if_pos q]
        · rw [if_neg (fun z => q z.1), if_neg q]
      rw [e2, ← this]
      refine sE_cong (n := 8) (fun k hk => ?_)
      by_cases e : k = i
      · rw [if_pos e, e, upN_y]
        by_cases q : c = b
        · rw [if_pos (by omega), if_pos q]
        · rw [if_neg (by omega), if_neg q]
      · rw [if_neg e, upN_n e]
    · rw [if_neg (fun z => i8 z.2), Nat.add_zero]
      refine sE_cong (n := 8) (fun k hk => by rw [upN_n (show k ≠ i by omega)])
  rw [s]
  by_cases e : c = i
  · rw [e, upN_y, h0, if_neg (Nat.succ_ne_zero b), if_pos rfl, if_pos rfl]; omega
  · rw [upN_n e, if_neg e]; omega
end ShutP
