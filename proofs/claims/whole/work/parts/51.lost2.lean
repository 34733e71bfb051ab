section Lost2
variable {E : EnvX} {L : Nat} {h : Hp} {K : Nat} {nB nT : Nat} {tv : Nat → Nat → Nat} {pk lv sn : Nat → Nat} {ck : Nat} {post : Int32 → Hp → Prop}
theorem orz (v : Int32) : v ||| 0 = v := Int32.or_zero
theorem m_lost70 (hE : EOk E) (hL : 4 ≤ L) (M : MdV h nB nT tv pk sn ck) (H : ∀ v, Mk v (fun i => decide (i < nB) && wi pk (i + 1) 8 (i + 1)) → at_M_lost_106 E L h post v 0) : ∀ m k, m + k = nB → ∀ v, Mk v (fun i => decide (i < k) && wi pk (i + 1) 8 (i + 1)) → at_M_lost_70 E L h post v (nI k) := by
  have h8 := M.1.1
  intro m
  induction m with
  | zero =>
    intro k hk v hv
    have ek : k = nB := by omega
    subst ek
    refine B_M_lost_70 ⟨in75 (k := 0) (by omega), ?_⟩
    rw [e750 M]
    exact brT (nI_le (Nat.le_refl _) (by omega)) (H v hv)
  | succ m ih =>
    intro k hk v hv
    have w := m_isRing hE (L := L - 1) (by omega) M (b := k) (by omega)
    refine B_M_lost_70 ⟨in75 (k := 0) (by omega), ?_⟩
    rw [e750 M, orz, nI_1]
    refine brF (nI_ge (by omega) (by omega)) (w.use ?_)
    by_cases c : wi pk (k + 1) 8 (k + 1) = true
    · rw [if_pos c]
      refine brF (by decide) (ih (k + 1) (by omega) _ (mk_cong (mk_or hv (show k < 24 by omega)) (fun i hi => ?_)))
      by_cases d : i = k
      · subst d
        rw [c, decide_eq_true (show i < i + 1 by omega), decide_eq_true rfl, Bool.or_true]; rfl
      · rw [decide_eq_false d, Bool.or_false]
        by_cases d2 : i < k
        · rw [decide_eq_true d2, decide_eq_true (show i < k + 1 by omega)]
        · rw [decide_eq_false d2, decide_eq_false (show ¬ i < k + 1 by omega)]
    · rw [if_neg c]
      refine brT rfl (ih (k + 1) (by omega) _ (mk_cong hv (fun i hi => ?_)))
      by_cases d : i = k
      · subst d
        have c2 : wi pk (i + 1) 8 (i + 1) = false := by simpa using c
        rw [c2, Bool.and_false, Bool.and_false]
      · by_cases d2 : i < k
        · rw [decide_eq_true d2, decide_eq_true (show i < k + 1 by omega)]
        · rw [decide_eq_false d2, decide_eq_false (show ¬ i < k + 1 by omega)]
theorem lost_up {i : Nat} (h0 : pk i ≠ 0) (h : itn pk 9 (pk i) ≠ 0) : itn pk 9 (i + 1) ≠ 0 := by
  intro z
  rw [itn_s, nx_S] at z
  exact h (itn_z z (by omega))
theorem m_lost116 (hE : EOk E) (hL : 4 ≤ L) (M : MdV h nB nT tv pk sn ck) {P : Nat → Bool} {w : Int32} (H : ∀ v P', Mk v P' → (∀ i, P i = true → P' i = true) → (∀ i, isIt nB nT i → pk i ≠ 0 → P (pk i - 1) = true → P' i = true) → (∀ i, i < 24 → P' i = true → itn pk 9 (i + 1) ≠ 0) → at_M_lost_106 E L h post v w) : ∀ m k, m + k = nB + nT → ∀ v P', Mk v P' → (∀ i, P i = true → P' i = true) → (∀ j, j < k → pk (itA nB j) ≠ 0 → P (pk (itA nB j) - 1) = true → P' (itA nB j) = true) → (∀ i, i < 24 → P' i = true → itn pk 9 (i + 1) ≠ 0) → at_M_lost_116 E L h post v w (nI k) := by
  have h8 := M.1.1
  have h16 := M.1.2.1
  intro m
  induction m with
  | zero =>
    intro k hk v P' a b c d
    refine B_M_lost_116 ((m_itemMany hE (by omega) M).use (brT (nI_le (by omega) (by omega)) (H v P' a b (fun i hi z1 z2 => ?_) d)))
    obtain ⟨e1, e2⟩ := itA_plc h8 hi
    have := c (plc nB i) (by omega)
    rw [e1] at this
    exact this z1 z2
  | succ m ih =>
    intro k hk v P' a b c d
    have hk2 : k < nB + nT := by omega
    have hit := itA_lt h8 h16 hk2
    have p8 := M.pk8 hit
    have at1 : RdI E (L - 1) m_M_itemAt 74 [.int (nI k)] h (nI (itA nB k)) := m_itemAt hE (by omega) M (by omega)
    have b1 := m_around hE (L := L - 1) (by omega) M hit
    refine B_M_lost_116 ((m_itemMany hE (by omega) M).use (brF (nI_ge hk2 (by omega)) (at1.use (b1.use ?_))))
    rw [bx_m1 (by omega), orz, nI_1]
    have same : ¬ (pk (itA nB k) ≠ 0 ∧ P' (pk (itA nB k) - 1) = true) → at_M_lost_116 E L h post v w (nI (k + 1)) := fun z => ih (k + 1) (by omega) v P' a b (fun j hj z1 z2 => by
      by_cases e : j = k
      · subst e; exact absurd ⟨z1, b _ z2⟩ z
      · exact c j (by omega) z1 z2) d
    refine ⟨fun q => same (fun z => z.1 q), fun q => b1.use ?_⟩
    obtain ⟨x, hx⟩ : ∃ x, pk (itA nB k) = x + 1 := ⟨pk (itA nB k) - 1, by omega⟩
    rw [hx, bx_S, mk_test a (show x < 24 by omega)]
    by_cases t : P' x = true
    · rw [if_pos t]
      refine brT' rfl (ih (k + 1) (by omega) _ _ (mk_or a hit) (fun i z => by rw [b i z]; rfl) (fun j hj z1 z2 => ?_) (fun i hi z => ?_))
      · by_cases e : j = k
        · subst e; rw [decide_eq_true rfl, Bool.or_true]
        · rw [c j (by omega) z1 z2]; rfl
      · rw [Bool.or_eq_true, decide_eq_true_eq] at z
        rcases z with z | z
        · exact d i hi z
        · rw [z]
          refine lost_up q ?_
          rw [hx]; exact d x (by omega) t
    · rw [if_neg t]
      exact brF' (by decide) (same (fun z => by rw [hx, Nat.add_sub_cancel] at z; exact t z.2))
theorem m_lost106 (hE : EOk E) (hL : 4 ≤ L) (M : MdV h nB nT tv pk sn ck) (hp : ∀ i, i < 24 → pk i ≤ nB) (H : ∀ v, Mk v (lstP pk) → ConV E (L - 1) m_M_isAgain 74 [] h (fun h10 => post v h10)) : ∀ n (Q P : Nat → Bool) (w v : Int32), 24 ≤ n + sE (fun i => if Q i = true then 1 else 0) 24 → Mk w Q → Mk v P → (∀ i, Q i = true → P i = true) → (∀ b, b < nB → wi pk (b + 1) 8 (b + 1) = true → P b = true) → (∀ i, isIt nB nT i → pk i ≠ 0 → Q (pk i - 1) = true → P i = true) → (∀ i, i < 24 → P i = true → itn pk 9 (i + 1) ≠ 0) → at_M_lost_106 E L h post v w := by
  have h8 := M.1.1
  have h16 := M.1.2.1
  intro n
  induction n with
  | zero =>
    intro Q P w v hn mw mv s1 s2 s3 s4
    have hall : ∀ i, i < 24 → Q i = true := fun i hi => Classical.byContradiction fun z => by
      have : sE (fun i => if Q i = true then 1 else 0) 24 < sE (fun _ => 1) 24 := sE_str (i := i) (fun k _ => by split <;> omega) hi (by rw [if_neg z]; exact Nat.one_pos)
      have e : sE (fun _ => 1) 24 = 24 := by decide
      omega
    have e : w = v := mk_eq (mk_cong mw (fun i hi => by rw [hall i hi, s1 i (hall i hi)])) mv
    refine B_M_lost_106 (brT e (H v (mk_cong mv (fun i hi => ?_))))
    rw [s1 i (hall i hi)]
    exact ((lstP_iff pk i).mpr (s4 i hi (s1 i (hall i hi)))).symm
  | succ n ih =>
    intro Q P w v hn mw mv s1 s2 s3 s4
    refine B_M_lost_106 ⟨fun e => ?_, fun e => ?_⟩
    · rw [e] at mw
      have qp := mk_inj mw mv
      refine H v (mk_cong mv (fun i hi => ?_))
      by_cases c : P i = true
      · rw [c]; exact ((lstP_iff pk i).mpr (s4 i hi c)).symm
      · have c2 : P i = false := by simpa using c
        rw [c2]
        refine (Bool.eq_false_iff.mpr (fun z => c ?_)).symm
        refine lost_all hp h8 (F := P) s2 (fun j hj z1 z2 => ?_) hi ((lstP_iff pk i).mp z)
        by_cases ij : isIt nB nT j
        · exact s3 j ij z1 (by rw [qp _ (by have := M.pk8 hj; omega)]; exact z2)
        · exact absurd (M.2.2.2.2.2 j hj ij) z1
    · have hx : ∃ i, i < 24 ∧ Q i = false ∧ P i = true := Classical.byContradiction fun z => e (mk_eq mw (mk_cong mv (fun i hi => by
        by_cases c : Q i = true
        · rw [c, s1 i c]
        · have c2 : Q i = false := by simpa using c
          rw [c2]
          exact Bool.eq_false_iff.mpr (fun w => z ⟨i, hi, c2, w⟩))))
      obtain ⟨i, hi, q1, q2⟩ := hx
      have lt : sE (fun i => if Q i = true then 1 else 0) 24 < sE (fun i => if P i = true then 1 else 0) 24 := sE_str (i := i) (fun k _ => by
        by_cases c : Q k = true
        · rw [if_pos c, if_pos (s1 k c)]; exact Nat.le_refl _
        · rw [if_neg c]; exact Nat.zero_le _) hi (by rw [if_neg (by rw [q1]; decide), if_pos q2]; exact Nat.one_pos)
      exact m_lost116 hE hL M (P := P) (w := v) (fun v' P' a b c d => ih P P' v v' (by omega) mv a b (fun x hx z => b x (s2 x hx z)) c d) (nB + nT) 0 (by omega) v P mv (fun _ z => z) (fun j hj => absurd hj (Nat.not_lt_zero j)) s4
end Lost2
