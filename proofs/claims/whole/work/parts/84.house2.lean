section House2
variable {E : EnvX} {L : Nat} {h : Hp} {nB nT : Nat} {tv : Nat → Nat → Nat} {g : Nat → Nat → Bool}
def tkM (G : Nat → Bool) : Nat → Nat
  | 0 => 0
  | b + 1 => tkM G b ||| (if G b = true then 2 ^ b else 0)
theorem tk_bit (G : Nat → Bool) (i : Nat) : ∀ k, (tkM G k).testBit i = (decide (i < k) && G i)
  | 0 => by show Nat.testBit 0 i = _; rw [Nat.zero_testBit, decide_eq_false (Nat.not_lt_zero i)]; rfl
  | j + 1 => by
    show (tkM G j ||| (if G j = true then 2 ^ j else 0)).testBit i = _
    rw [Nat.testBit_or, tk_bit G i j]
    by_cases b : G j = true
    · rw [if_pos b, Nat.testBit_two_pow]
      by_cases e : j = i
      · subst e; rw [decide_eq_true rfl, b, decide_eq_true (Nat.lt_succ_self j)]; simp
      · rw [decide_eq_false e, Bool.or_false, show decide (i < j) = decide (i < j + 1) from decide_eq_decide.mpr (by omega)]
    · rw [if_neg b, Nat.zero_testBit, Bool.or_false]
      by_cases e : j = i
      · subst e; rw [show G j = false by simpa using b, Bool.and_false, Bool.and_false]
      · rw [show decide (i < j) = decide (i < j + 1) from decide_eq_decide.mpr (by omega)]
theorem tk_lt (G : Nat → Bool) : ∀ k, tkM G k < 2 ^ k
  | 0 => Nat.two_pow_pos 0
  | j + 1 => by
    have := tk_lt G j
    have e : 2 ^ (j + 1) = 2 ^ j * 2 := Nat.pow_succ 2 j
    show (tkM G j ||| (if G j = true then 2 ^ j else 0)) < _
    refine Nat.or_lt_two_pow (by omega) ?_
    split
    · have := Nat.two_pow_pos j; omega
    · exact Nat.two_pow_pos _
theorem k46 : (akd 46 = 1 ∧ 1024 ≤ aln 46 ∧ aln 46 < 2147483648) ∧ (akd 47 = 1 ∧ aln 47 = 1024) ∧ (akd 48 = 1 ∧ aln 48 = 1024) ∧ ((akd 49 = 1 ∧ aln 49 = 8) ∧ (akd 50 = 1 ∧ aln 50 = 8) ∧ (akd 51 = 1 ∧ aln 51 = 8) ∧ (akd 52 = 1 ∧ aln 52 = 8)) := by decide +kernel
theorem in46 {k : Nat} (hk : k < 1024) : inI 46 (nI k) := inI_of k46.1.1 (by have := k46.1.2.1; omega) k46.1.2.2
theorem in47 {k : Nat} (hk : k < 1024) : inI 47 (nI k) := inI_of k46.2.1.1 (by rw [k46.2.1.2]; exact hk) (by rw [k46.2.1.2]; decide)
theorem in48 {k : Nat} (hk : k < 1024) : inI 48 (nI k) := inI_of k46.2.2.1.1 (by rw [k46.2.2.1.2]; exact hk) (by rw [k46.2.2.1.2]; decide)
theorem in49 {k : Nat} (hk : k < 8) : inI 49 (nI k) ∧ inI 50 (nI k) ∧ inI 51 (nI k) ∧ inI 52 (nI k) := ⟨inI_of k46.2.2.2.1.1 (by rw [k46.2.2.2.1.2]; exact hk) (by rw [k46.2.2.2.1.2]; decide), inI_of k46.2.2.2.2.1.1 (by rw [k46.2.2.2.2.1.2]; exact hk) (by rw [k46.2.2.2.2.1.2]; decide), inI_of k46.2.2.2.2.2.1.1 (by rw [k46.2.2.2.2.2.1.2]; exact hk) (by rw [k46.2.2.2.2.2.1.2]; decide), inI_of k46.2.2.2.2.2.2.1 (by rw [k46.2.2.2.2.2.2.2]; exact hk) (by rw [k46.2.2.2.2.2.2.2]; decide)⟩
def TkV (h : Hp) (g : Nat → Nat → Bool) (n nB : Nat) : Prop := n ≤ 10 ∧ nB ≤ 8 ∧ ∀ c, c < 2 ^ n → h.2.1 46 c = nI (tkM (fun b => g b c) nB)
theorem h_takes (hE : EOk E) (hL : 1 ≤ L) {n b c : Nat} (T : TkV h g n nB) (hb : b < nB) (hc : c < 2 ^ n) : RdI E L m_Household_takes 45 [.int (nI b), .int (nI c)] h (if g b c = true then 1 else 0) := by
  obtain ⟨n10, b8, t⟩ := T
  have p := pow11 n10
  have tl := tk_lt (fun b => g b c) nB
  have p9 := pow9 b8
  refine B_Household_takes hE hL ⟨in46 (by omega), ?_⟩
  rw [nIc (by omega), t c hc, bitN (by omega) (by omega), tk_bit, decide_eq_true hb, Bool.true_and]
  by_cases q : g b c = true
  · rw [if_pos q]; exact brF (by decide) ⟨rfl, rfl⟩
  · rw [if_neg q]; exact brT rfl ⟨rfl, rfl⟩
theorem h_takersOf (hE : EOk E) (hL : 2 ≤ L) (S : StV h 1 nB nT tv) {o w s : Nat} (ho : o < 1000000) (hw : w < 1000000) (hs : s < 1000000) {G : Nat → Bool} (hG : ∀ b, b < nB → (G b = true ↔ o ≤ tv b 4 ∧ w ≤ tv b 6 ∧ s ≤ tv b 0 * tv b 5)) (a49 : ∀ b, b < nB → h.2.1 49 b = nI (tv b 4) ∧ h.2.1 50 b = nI (tv b 6) ∧ h.2.1 51 b = nI (tv b 0 * tv b 5)) : RdI E L m_Household_takersOf 45 [.int (nI o), .int (nI w), .int (nI s)] h (nI (tkM G nB)) := by
  have h8 := S.2.2.2.1
  refine B_Household_takersOf hE (by omega) ?_
  refine upto (P := fun k => at_Household_takersOf_6 E L h _ (nI o) (nI w) (nI s) (nI (tkM G k)) (nI k)) (n := nB) ?_ (fun k hk ih => ?_) 0 (by omega)
  · exact B_Household_takersOf_6 ((store_boxes hE (by omega) S).use (brT (nI_le (Nat.le_refl _) (by omega)) ⟨rfl, rfl⟩))
  · have t4 := (S.2.2.2.2.2 k 4 (by omega) (by omega)).2
    have t6 := (S.2.2.2.2.2 k 6 (by omega) (by omega)).2
    have t0 := (S.2.2.2.2.2 k 0 (by omega) (by omega)).2
    have t5 := (S.2.2.2.2.2 k 5 (by omega) (by omega)).2
    have mul : tv k 0 * tv k 5 ≤ 9999 * 9999 := Nat.mul_le_mul t0 t5
    have tl := tk_lt G k
    have p9 := pow9 (n := k) (by omega)
    obtain ⟨a1, a2, a3⟩ := a49 k hk
    have no : ¬ G k = true → at_Household_takersOf_6 E L h (fun y h' => y = nI (tkM G nB) ∧ h' = h) (nI o) (nI w) (nI s) (nI (tkM G k)) (nI (k + 1)) := fun q => by
      have e : tkM G (k + 1) = tkM G k := by show tkM G k ||| (if G k = true then 2 ^ k else 0) = _; rw [if_neg q, Nat.or_zero]
      rw [e] at ih; exact ih
    refine B_Household_takersOf_6 ((store_boxes hE (by omega) S).use (brF (nI_ge hk (by omega)) (brF (nI_ge (b := 8) (by omega) (by omega)) ⟨(in49 (by omega)).1, ?_⟩)))
    rw [nIc (by omega), a1, a2, a3, nIt (by omega) (by omega), nIt (by omega) (by omega), nIt (by omega) (by omega), nI_1]
    refine ⟨fun q => no (fun z => by have := (hG k hk).mp z; omega), fun q1 => ⟨(in49 (by omega)).2.1, fun q => no (fun z => by have := (hG k hk).mp z; omega), fun q2 => ⟨(in49 (by omega)).2.2.1, fun q => no (fun z => by have := (hG k hk).mp z; omega), fun q3 => ?_⟩⟩⟩
    have e : tkM G (k + 1) = tkM G k ||| 2 ^ k := by show tkM G k ||| (if G k = true then 2 ^ k else 0) = _; rw [if_pos ((hG k hk).mpr ⟨by omega, by omega, by omega⟩)]
    rw [e] at ih
    rw [shlN (by omega), orN (by omega) (by omega)]
    exact ih
theorem PcV_eqO {n : Nat} {mem : Nat → Nat} {h1 h2 : Hp} {F : Nat → Prop} (P : PcV h1 n mem tv) (e : EqO F h1 h2) (hF : ∀ x, 39 ≤ x → x ≤ 44 → ¬ F x) : PcV h2 n mem tv := by
  obtain ⟨⟨p1, p2, p3⟩, pl, ph⟩ := P
  refine ⟨⟨by rw [(e 39 (hF 39 (by omega) (by omega))).1]; exact p1, p2, fun k hk => by rw [(e 40 (hF 40 (by omega) (by omega))).2.1]; exact p3 k hk⟩, fun c c1 c2 => ?_, fun c c1 c2 => ?_⟩
  · unfold TbV
    rw [(e 41 (hF 41 (by omega) (by omega))).2.1, (e 42 (hF 42 (by omega) (by omega))).2.1, (e 43 (hF 43 (by omega) (by omega))).2.1, (e 44 (hF 44 (by omega) (by omega))).2.1]
    exact pl c c1 c2
  · unfold TbV
    rw [(e 41 (hF 41 (by omega) (by omega))).2.1, (e 42 (hF 42 (by omega) (by omega))).2.1, (e 43 (hF 43 (by omega) (by omega))).2.1, (e 44 (hF 44 (by omega) (by omega))).2.1]
    exact ph c c1 c2
theorem h_note (hE : EOk E) (hL : 6 ≤ L) (S : StV h 1 nB nT tv) {n : Nat} {mem : Nat → Nat} (P : PcV h n mem tv) (hn : n ≤ 10) : ConV E L m_Household_noteTakers 45 [] h (fun h' => EqO (fun x => x = 46 ∨ (49 ≤ x ∧ x ≤ 51)) h h' ∧ TkV h' (goB tv mem n) n nB) := by
  have h8 := S.2.2.2.1
  have p := pow11 hn
  refine B_Household_noteTakers hE (by omega) ?_
  have l73 : ∀ h1, EqO (fun x => 49 ≤ x ∧ x ≤ 51) h h1 → (∀ b, b < nB → h1.2.1 49 b = nI (tv b 4) ∧ h1.2.1 50 b = nI (tv b 6) ∧ h1.2.1 51 b = nI (tv b 0 * tv b 5)) → ∀ f c, f + c = 2 ^ n → ∀ h2, EqO (fun x => x = 46) h1 h2 → (∀ x, x < c → h2.2.1 46 x = nI (tkM (fun b => goB tv mem n b x) nB)) → at_Household_noteTakers_73 E L h2 (fun h' => EqO (fun x => x = 46 ∨ (49 ≤ x ∧ x ≤ 51)) h h' ∧ TkV h' (goB tv mem n) n nB) (nI c) := by
    intro h1 e1 a1 f
    induction f with
    | zero =>
      intro c hc h2 e2 b2
      rw [show c = 2 ^ n by omega] at b2 ⊢
      have P2 : PcV h2 n mem tv := PcV_eqO (PcV_eqO P e1 (fun x h1 h2 => by omega)) e2 (fun x h1 h2 => by omega)
      exact B_Household_noteTakers_73 ((pc_choices hE (by omega) P2.1).use (brT (nI_le (Nat.le_refl _) (by omega)) ⟨(e1.wk (fun x z => Or.inr z)).trans (e2.wk (fun x z => Or.inl z)), hn, h8, b2⟩))
    | succ f ih =>
      intro c hc h2 e2 b2
      have P2 : PcV h2 n mem tv := PcV_eqO (PcV_eqO P e1 (fun x h1 h2 => by omega)) e2 (fun x h1 h2 => by omega)
      have S2 : StV h2 1 nB nT tv := (S.keep e1 (by omega) (by omega)).keep e2 (by omega) (by omega)
      have hcn : c < 2 ^ n := by omega
      obtain ⟨o, o1, o2, o3⟩ := pc_outline hE (L := L - 1) (by omega) S2 P2 hcn
      have s2 := sF_lt (w := 2) S2 P2 hcn (by omega)
      have s0 := sF_lt (w := 0) S2 P2 hcn (by omega)
      refine B_Household_noteTakers_73 ((pc_choices hE (by omega) P2.1).use (brF (nI_ge hcn (by omega)) (brF (nI_ge (b := 1024) (by omega) (by omega)) (o3.use ((pc_size hE (by omega) P2 hcn).2.1.use ((pc_size hE (by omega) P2 hcn).1.use ?_))))))
      refine (h_takersOf hE (by omega) S2 (by omega) (by omega) (by omega) (G := fun b => goB tv mem n b c) (fun b hb => ?_) (fun b hb => by rw [(e2 49 (by omega)).2.1, (e2 50 (by omega)).2.1, (e2 51 (by omega)).2.1]; exact a1 b hb)).use ⟨in46 (by omega), ?_⟩
      · unfold goB
        rw [Bool.and_eq_true, Bool.and_eq_true, decide_eq_true_eq, decide_eq_true_eq, ← o2]
      · rw [nIc (by omega), nI_1]
        refine ih (c + 1) (by omega) _ (e2.trans (EqO.sA (F := fun x => x = 46) rfl)) (fun x hx => ?_)
        rw [sA_A, if_pos rfl]
        by_cases d : x = c
        · rw [if_pos d, d]
        · rw [if_neg d]; exact b2 x (by omega)
  have l2 : ∀ f b, f + b = nB → ∀ h1, EqO (fun x => 49 ≤ x ∧ x ≤ 51) h h1 → (∀ i, i < b → h1.2.1 49 i = nI (tv i 4) ∧ h1.2.1 50 i = nI (tv i 6) ∧ h1.2.1 51 i = nI (tv i 0 * tv i 5)) → at_Household_noteTakers_2 E L h1 (fun h' => EqO (fun x => x = 46 ∨ (49 ≤ x ∧ x ≤ 51)) h h' ∧ TkV h' (goB tv mem n) n nB) (nI b) := by
    intro f
    induction f with
    | zero =>
      intro b hb h1 e1 a1
      rw [show b = nB by omega] at a1 ⊢
      have S1 : StV h1 1 nB nT tv := S.keep e1 (by omega) (by omega)
      exact B_Household_noteTakers_2 ((store_boxes hE (by omega) S1).use (brT (nI_le (Nat.le_refl _) (by omega)) (l73 h1 e1 a1 (2 ^ n) 0 (by omega) h1 EqO.rfl' (fun x hx => absurd hx (Nat.not_lt_zero x)))))
    | succ f ih =>
      intro b hb h1 e1 a1
      have S1 : StV h1 1 nB nT tv := S.keep e1 (by omega) (by omega)
      have b24 : b < 24 := by omega
      refine B_Household_noteTakers_2 ((store_boxes hE (by omega) S1).use (brF (nI_ge (by omega) (by omega)) (brF (nI_ge (b := 8) (by omega) (by omega)) ((store_told hE (by omega) S1 (k := 4) b24 (by omega)).use ⟨(in49 (by omega)).1, ?_⟩))))
      rw [nIc (by omega)]
      have S2 : StV (sA h1 49 b (nI (tv b 4))) 1 nB nT tv := StV_eq S1 rfl rfl rfl
      refine (store_told hE (by omega) S2 (k := 6) b24 (by omega)).use ⟨(in49 (by omega)).2.1, ?_⟩
      have S3 : StV (sA (sA h1 49 b (nI (tv b 4))) 50 b (nI (tv b 6))) 1 nB nT tv := StV_eq S2 rfl rfl rfl
      have r1 := store_roomOf hE (L := L - 1) (by omega) S3 (b := b) (n := 0) b24 (by omega)
      rw [Nat.pow_zero, Nat.div_one] at r1
      refine r1.use ⟨(in49 (by omega)).2.2.1, ?_⟩
      rw [nI_1]
      refine ih (b + 1) (by omega) _ (((e1.trans (EqO.sA (F := fun x => 49 ≤ x ∧ x ≤ 51) (show 49 ≤ 49 ∧ 49 ≤ 51 by decide))).trans (EqO.sA (F := fun x => 49 ≤ x ∧ x ≤ 51) (show 49 ≤ 50 ∧ 50 ≤ 51 by decide))).trans (EqO.sA (F := fun x => 49 ≤ x ∧ x ≤ 51) (show 49 ≤ 51 ∧ 51 ≤ 51 by decide))) (fun i hi => ?_)
      by_cases d : i = b
      · rw [d]
        refine ⟨?_, ?_, ?_⟩
        · rw [sA_A, if_neg (by omega), sA_A, if_neg (by omega), sA_A, if_pos rfl, if_pos rfl]
        · rw [sA_A, if_neg (by omega), sA_A, if_pos rfl, if_pos rfl]
        · rw [sA_A, if_pos rfl, if_pos rfl]
      · obtain ⟨x1, x2, x3⟩ := a1 i (by omega)
        refine ⟨?_, ?_, ?_⟩
        · rw [sA_A, if_neg (by omega), sA_A, if_neg (by omega), sA_A, if_pos rfl, if_neg d]; exact x1
        · rw [sA_A, if_neg (by omega), sA_A, if_pos rfl, if_neg d, sA_A, if_neg (by omega)]; exact x2
        · rw [sA_A, if_pos rfl, if_neg d, sA_A, if_neg (by omega), sA_A, if_neg (by omega)]; exact x3
  exact l2 nB 0 (by omega) h EqO.rfl' (fun i hi => absurd hi (Nat.not_lt_zero i))
end House2
