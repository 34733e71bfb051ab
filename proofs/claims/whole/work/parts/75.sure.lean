section SureP
theorem am_no {p : Nat → Bool} {f : Nat → Nat} {k : Nat} (h : p k = false) : am p f (k + 1) = am p f k := by rw [am_s, if_neg (show ¬ p k = true by rw [h]; decide)]
theorem am_up {p : Nat → Bool} {f : Nat → Nat} {k : Nat} (h : p k = true) (h2 : (am p f k).1 = 0 ∨ f k < (am p f k).2) : am p f (k + 1) = (k + 1, f k) := by rw [am_s, if_pos h, if_pos h2]
theorem am_kp {p : Nat → Bool} {f : Nat → Nat} {k : Nat} (h : p k = true) (h1 : (am p f k).1 ≠ 0) (h2 : ¬ f k < (am p f k).2) : am p f (k + 1) = am p f k := by rw [am_s, if_pos h, if_neg (fun z => z.elim h1 h2)]
theorem pred1 {x : Nat} (h : 0 < x) : nI x - 1 = nI (x - 1) := by
  obtain ⟨k, rfl⟩ : ∃ k, x = k + 1 := ⟨x - 1, by omega⟩
  exact nI_pred k
def oA (q : Nat → Bool) (n : Nat) : Nat → Nat
  | 0 => 2 ^ n - 1
  | c + 1 => if q c = true then oA q n c &&& ((2 ^ n - 1) ^^^ c) else oA q n c
theorem bitAll {n k : Nat} : (2 ^ n - 1).testBit k = decide (k < n) := Nat.testBit_two_pow_sub_one n k
theorem oA_lt (q : Nat → Bool) (n : Nat) : ∀ c, oA q n c < 2 ^ n
  | 0 => by have := Nat.two_pow_pos n; show 2 ^ n - 1 < 2 ^ n; omega
  | c + 1 => by
    have := oA_lt q n c
    show (if q c = true then oA q n c &&& ((2 ^ n - 1) ^^^ c) else oA q n c) < _
    split
    · exact Nat.lt_of_le_of_lt Nat.and_le_left this
    · exact this
theorem oA_bit (q : Nat → Bool) (n : Nat) (k : Nat) : ∀ c, (oA q n c).testBit k = (decide (k < n) && !(inY q c).testBit k)
  | 0 => by show (2 ^ n - 1).testBit k = (decide (k < n) && !(Nat.testBit 0 k)); rw [bitAll, Nat.zero_testBit]; simp
  | c + 1 => by
    have ih := oA_bit q n k c
    by_cases z : q c = true
    · have e1 : oA q n (c + 1) = oA q n c &&& ((2 ^ n - 1) ^^^ c) := if_pos z
      have e2 : inY q (c + 1) = inY q c ||| c := if_pos z
      rw [e1, e2, Nat.testBit_and, Nat.testBit_xor, Nat.testBit_or, ih, bitAll]
      cases decide (k < n) <;> cases (inY q c).testBit k <;> cases c.testBit k <;> rfl
    · have e1 : oA q n (c + 1) = oA q n c := if_neg z
      have e2 : inY q (c + 1) = inY q c := if_neg z
      rw [e1, e2, ih]
theorem oA_step {q : Nat → Bool} {n c : Nat} (hn : n ≤ 12) (hc : c < 2 ^ n) (hq : q c = true) : nI (oA q n c) &&& (nI c ^^^ (-1)) = nI (oA q n (c + 1)) := by
  have p4 := pow13 (n := n) (by omega)
  have l1 := oA_lt q n c
  have l2 := oA_lt q n (c + 1)
  refine mk_eq (mk_ndel (mk_nat (by omega)) (mk_nat (by omega))) (mk_cong (mk_nat (by omega)) (fun k _ => ?_))
  have e2 : inY q (c + 1) = inY q c ||| c := if_pos hq
  rw [oA_bit, oA_bit, e2, Nat.testBit_or]
  cases decide (k < n) <;> cases (inY q c).testBit k <;> cases c.testBit k <;> rfl
theorem oA_x {q : Nat → Bool} {n : Nat} (hn : n ≤ 12) : nI (2 ^ n - 1) &&& (nI (inY q (2 ^ n)) ^^^ (-1)) = nI (oA q n (2 ^ n)) := by
  have p4 := pow13 (n := n) (by omega)
  have l1 := oA_lt q n (2 ^ n)
  have l2 := inY_lt q (n := n) (2 ^ n) (Nat.le_refl _)
  refine mk_eq (mk_ndel (mk_nat (by omega)) (mk_nat (by omega))) (mk_cong (mk_nat (by omega)) (fun k _ => ?_))
  rw [oA_bit, bitAll]
/-- the worst that is left after a look -/
def fL (q : Nat → Bool) (n k : Nat) : Nat := if tmI q k (2 ^ n) < cB q (2 ^ n) - tmI q k (2 ^ n) then cB q (2 ^ n) - tmI q k (2 ^ n) else tmI q k (2 ^ n)
theorem am_thr {f : Nat → Nat} {F : Nat} : ∀ n, ((∃ k, k < n ∧ f k < F) → am (fun k => decide (f k < F)) f n = am (fun _ => true) f n ∧ (am (fun _ => true) f n).2 < F ∧ (am (fun _ => true) f n).1 ≠ 0) ∧ ((¬ ∃ k, k < n ∧ f k < F) → am (fun k => decide (f k < F)) f n = (0, 0) ∧ ((am (fun _ => true) f n).1 = 0 ∨ F ≤ (am (fun _ => true) f n).2))
  | 0 => ⟨fun ⟨k, hk, _⟩ => absurd hk (Nat.not_lt_zero k), fun _ => ⟨rfl, Or.inl rfl⟩⟩
  | n + 1 => by
    obtain ⟨i1, i2⟩ := am_thr (f := f) (F := F) n
    have s1 : am (fun _ => true) f (n + 1) = if (am (fun _ => true) f n).1 = 0 ∨ f n < (am (fun _ => true) f n).2 then (n + 1, f n) else am (fun _ => true) f n := by rw [am_s, if_pos rfl]
    by_cases ex : ∃ k, k < n ∧ f k < F
    · obtain ⟨j1, j2, j3⟩ := i1 ex
      refine ⟨fun _ => ?_, fun z => absurd (by obtain ⟨k, a, b⟩ := ex; exact ⟨k, by omega, b⟩) z⟩
      rw [s1, am_s, j1]
      by_cases d : f n < F
      · rw [if_pos (decide_eq_true d)]
        by_cases g : (am (fun _ => true) f n).1 = 0 ∨ f n < (am (fun _ => true) f n).2
        · rw [if_pos g]; exact ⟨rfl, d, Nat.succ_ne_zero _⟩
        · rw [if_neg g]; exact ⟨rfl, j2, j3⟩
      · rw [if_neg (by rw [decide_eq_false d]; decide), if_neg (fun z => z.elim j3 (fun w => by omega))]
        exact ⟨rfl, j2, j3⟩
    · obtain ⟨j1, j2⟩ := i2 ex
      by_cases d : f n < F
      · refine ⟨fun _ => ?_, fun z => absurd ⟨n, by omega, d⟩ z⟩
        rw [s1, am_s, j1, if_pos (decide_eq_true d), if_pos (Or.inl rfl), if_pos (j2.imp_right (fun w => by omega))]
        exact ⟨rfl, d, Nat.succ_ne_zero _⟩
      · refine ⟨fun ⟨k, a, b⟩ => ?_, fun _ => ?_⟩
        · by_cases e : k = n
          · rw [e] at b; exact absurd b d
          · exact absurd ⟨k, by omega, b⟩ ex
        · rw [s1, am_s, j1, if_neg (by rw [decide_eq_false d]; decide)]
          refine ⟨rfl, Or.inr ?_⟩
          split
          · show F ≤ f n; omega
          · rename_i g
            rcases j2 with w | w
            · exact absurd (Or.inl w) g
            · exact w
theorem two_bits {j1 j2 n : Nat} (h1 : j1 < 2 ^ n) (h2 : j2 < 2 ^ n) (ne : j1 ≠ j2) : ∃ k, k < n ∧ j1.testBit k ≠ j2.testBit k := by
  refine Classical.byContradiction fun z => ne (Nat.eq_of_testBit_eq (fun k => ?_))
  by_cases hk : k < n
  · exact Classical.byContradiction fun w => z ⟨k, hk, w⟩
  · rw [bit_hi h1 (by omega), bit_hi h2 (by omega)]
theorem fL_some {q : Nat → Bool} {n : Nat} (h : 2 ≤ cB q (2 ^ n)) : ∃ k, k < n ∧ fL q n k < cB q (2 ^ n) := by
  obtain ⟨j1, a1, b1, c1⟩ := cB_surj (W := q) (v := 2 ^ n) (k := 0) (by omega)
  obtain ⟨j2, a2, b2, c2⟩ := cB_surj (W := q) (v := 2 ^ n) (k := 1) (by omega)
  obtain ⟨k, hk, hb⟩ := two_bits a1 a2 (fun z => by rw [z, c2] at c1; cases c1)
  refine ⟨k, hk, ?_⟩
  have key : ∀ i j, i < 2 ^ n → j < 2 ^ n → q i = true → q j = true → i.testBit k = true → j.testBit k = false → fL q n k < cB q (2 ^ n) := by
    intro i j hi hj qi qj bi bj
    have p1 := sE_part (fun j => if q j = true ∧ j.testBit k = true then 1 else 0) hi
    rw [if_pos ⟨qi, bi⟩] at p1
    have p2 : tmI q k (2 ^ n) < cB q (2 ^ n) := sE_str (i := j) (fun m _ => by
      by_cases z : q m = true ∧ m.testBit k = true
      · rw [if_pos z, if_pos z.1]; exact Nat.le_refl _
      · rw [if_neg z]; exact Nat.zero_le _) hj (by rw [if_neg (fun z => by rw [bj] at z; cases z.2), if_pos qj]; exact Nat.one_pos)
    have p3 : 1 ≤ tmI q k (2 ^ n) := p1
    unfold fL
    split <;> omega
  cases h1 : j1.testBit k
  · cases h2 : j2.testBit k
    · rw [h1, h2] at hb; exact absurd rfl hb
    · exact key j2 j1 a2 a1 b2 b1 h2 h1
  · cases h2 : j2.testBit k
    · exact key j1 j2 a1 a2 b1 b2 h1 h2
    · rw [h1, h2] at hb; exact absurd rfl hb
end SureP
section Sure
variable {E : EnvX} {L : Nat} {h : Hp} {K : Nat}
theorem eq_sure (hE : EOk E) (hL : 20 ≤ L) (I : Inv h K) (hK : K + 60 ≤ 100000) (u v n w s : Int32) : Same E L m_X_sure m_M_sure [.int u, .int v, .int n, .int w, .int s] h K := by
  obtain ⟨nB, nT, tv, pk, lv, sn, ck, hck, C⟩ := I.2.1
  rcases chest_ways (L := L - 1) hE (by omega) I C u v n w with ⟨a, b⟩ | ⟨a, b⟩ | ⟨b, x, y, hb, hx, hy, rfl, rfl, rfl, a, c⟩
  · exact same_rd (x := -2) I hK (RdX.of I.2.2.2.2.2.2 (B_X_sure hE (by omega) (a.use (brF (by decide) ⟨rfl, rfl⟩)))) (fun h1 e I1 => B_M_sure hE (by omega) ((b (sI h1 74 0 0) (C.keep e).2.2.1).use (brT' rfl ⟨rfl, thr_eq _, I1.2.2.2.2.2.2⟩)))
  · exact same_rd (x := -3) I hK (RdX.of I.2.2.2.2.2.2 (B_X_sure hE (by omega) (a.use (brF (by decide) ⟨rfl, rfl⟩)))) (fun h1 e I1 => B_M_sure hE (by omega) ((b (sI h1 74 0 0) (C.keep e).2.2.1).1.use (brF' (by decide) ((b (sI h1 74 0 0) (C.keep e).2.2.1).2.use (brT' rfl ⟨rfl, thr_eq _, I1.2.2.2.2.2.2⟩)))))
  · refine B_X_sure hE (by omega) (a.mono (fun z h1 zz => ?_))
    obtain ⟨z0, e1, Z1, P1, V1⟩ := zz
    have M1 : MdV (sI h1 74 0 0) nB nT tv pk sn ck := MsV_eq C.2.2.1 (show h1.2.1 75 = _ from (e1 75 (by unfold chF; omega)).2.1)
    have lc := m_laysChest hE (L := L - 1) (by omega) M1 v (show b < 24 by have := C.1.2.2.2.1; omega) hx hy
    generalize nF (wS v (fun _ => true)) 12 = m at *
    generalize itK (wS v (fun _ => true)) = mem at *
    generalize qW tv mem m b x y = q at *
    have n12 := P1.1.2.1
    have p4 := pow13 (n := m) (by omega)
    have cl := cB_le q (2 ^ m)
    have al := inA_le q m (2 ^ m)
    have ol := oA_lt q m (2 ^ m)
    obtain ⟨vi, mi, ri⟩ := pc_bits hE (L := L - 2) (by omega) P1.1 (c := inA q m (2 ^ m)) (by omega)
    obtain ⟨vo, mo, ro⟩ := pc_bits hE (L := L - 2) (by omega) P1.1 (c := oA q m (2 ^ m)) (by omega)
    have mm : ∀ ans : Int32, (cB q (2 ^ m) = 0 → ans = 0) → (cB q (2 ^ m) ≠ 0 → s = 0 → ans = vo) → (cB q (2 ^ m) ≠ 0 → ¬ s = 0 → ans = vi) → ConI E L m_M_sure 74 [.int (nI b), .int v, .int (nI x), .int (nI y), .int s] h1 (fun y2 h3 => ans = y2 ∧ Inv h3 (K + 60)) := by
      intro ans a0 a1 a2
      refine B_M_sure hE (by omega) ((c _ M1).1.use (brF' (by decide) ((c _ M1).2.use (brF' (by decide) (lc.mono (fun y5 h5 z5 => ?_))))))
      obtain ⟨ey, e5, k5, F5, q5⟩ := z5
      have I5 : Inv h5 (K + 60) := inv_ch I hK (e1.wk (fun x z => by unfold chF at z; unfold chG; omega)) Z1 (e5.wk (fun x z => by omega)) k5
      rw [ey, nI_z (by omega), F5.1, shlN (by omega), pred1 (by omega)]
      refine ⟨fun c0 => ?_, fun c0 => ⟨a0 c0, I5⟩⟩
      have main : ∀ f c, f + c = 2 ^ m → at_M_sure_66 E L h5 (fun y2 h3 => ans = y2 ∧ Inv h3 (K + 60)) s (nI (2 ^ m - 1)) (nI (inA q m c)) (nI (oA q m c)) (nI c) := by
        intro f
        induction f with
        | zero =>
          intro c hc
          rw [show c = 2 ^ m by omega]
          refine B_M_sure_66 (brT (nI_lt (by omega) (by omega)) ⟨fun s0 => ?_, fun s0 => ?_⟩)
          · exact (m_asItems hE (by omega) F5 (by omega) mo).use ⟨a1 c0 s0, I5⟩
          · exact (m_asItems hE (by omega) F5 (by omega) mi).use ⟨a2 c0 s0, I5⟩
        | succ f ih =>
          intro c hc
          have ih1 := ih (c + 1) (by omega)
          have al2 := inA_le q m c
          refine B_M_sure_66 (brF (nI_nlt (by omega) (by omega)) ⟨in90 (by omega), ?_⟩)
          rw [nIc (by omega), q5 c (by omega), nI_1]
          by_cases qc : q c = true
          · rw [if_pos qc, andN (by omega) (by omega), oA_step n12 (by omega) qc]
            have e1 : inA q m (c + 1) = inA q m c &&& c := if_pos qc
            rw [e1] at ih1
            exact brF' (by decide) ih1
          · rw [if_neg qc]
            have e1 : inA q m (c + 1) = inA q m c := if_neg qc
            have e2 : oA q m (c + 1) = oA q m c := if_neg qc
            rw [e1, e2] at ih1
            exact brT' rfl ih1
      exact main (2 ^ m) 0 (by omega)
    refine brT z0 ⟨fun s0 => ?_, fun s0 => ?_⟩
    · refine ConI.mono (show RdI E (L - 1) m_Chest_surelyOut 59 [] h1 (if cB q (2 ^ m) = 0 then 0 else vo) from B_Chest_surelyOut hE (by omega) ?_) (fun y4 h4 z4 => ?_)
      · rw [V1.1, nI_z (by omega)]
        refine ⟨fun d => (pc_choices hE (by omega) P1.1).use ?_, fun d => ?_⟩
        · rw [if_neg d, V1.2.2.2.1, pred1 (by omega), oA_x n12]
          exact ro.use ⟨rfl, rfl⟩
        · rw [if_pos d]; exact ⟨rfl, rfl⟩
      · obtain ⟨rfl, rfl⟩ := z4
        refine mm _ (fun d => if_pos d) (fun d _ => if_neg d) (fun _ z => absurd s0 z)
    · refine ConI.mono (show RdI E (L - 1) m_Chest_surelyIn 59 [] h1 (if cB q (2 ^ m) = 0 then 0 else vi) from B_Chest_surelyIn hE (by omega) ?_) (fun y4 h4 z4 => ?_)
      · rw [V1.1, nI_z (by omega)]
        refine ⟨fun d => ?_, fun d => ?_⟩
        · rw [if_neg d, V1.2.2.1]
          exact ri.use ⟨rfl, rfl⟩
        · rw [if_pos d]; exact ⟨rfl, rfl⟩
      · obtain ⟨rfl, rfl⟩ := z4
        refine mm _ (fun d => if_pos d) (fun _ z => absurd z s0) (fun d _ => if_neg d)
theorem eq_look (hE : EOk E) (hL : 20 ≤ L) (I : Inv h K) (hK : K + 60 ≤ 100000) (u v n w : Int32) : Same E L m_X_look m_M_look [.int u, .int v, .int n, .int w] h K := by
  obtain ⟨nB, nT, tv, pk, lv, sn, ck, hck, C⟩ := I.2.1
  rcases chest_ways (L := L - 1) hE (by omega) I C u v n w with ⟨a, b⟩ | ⟨a, b⟩ | ⟨b, x, y, hb, hx, hy, rfl, rfl, rfl, a, c⟩
  · exact same_rd (x := -2) I hK (RdX.of I.2.2.2.2.2.2 (B_X_look hE (by omega) (a.use (brF (by decide) ⟨rfl, rfl⟩)))) (fun h1 e I1 => B_M_look hE (by omega) ((b (sI h1 74 0 0) (C.keep e).2.2.1).use (brT' rfl ⟨rfl, thr_eq _, I1.2.2.2.2.2.2⟩)))
  · exact same_rd (x := -3) I hK (RdX.of I.2.2.2.2.2.2 (B_X_look hE (by omega) (a.use (brF (by decide) ⟨rfl, rfl⟩)))) (fun h1 e I1 => B_M_look hE (by omega) ((b (sI h1 74 0 0) (C.keep e).2.2.1).1.use (brF' (by decide) ((b (sI h1 74 0 0) (C.keep e).2.2.1).2.use (brT' rfl ⟨rfl, thr_eq _, I1.2.2.2.2.2.2⟩)))))
  · refine B_X_look hE (by omega) (a.mono (fun z h1 zz => ?_))
    obtain ⟨z0, e1, Z1, P1, V1⟩ := zz
    have M1 : MdV (sI h1 74 0 0) nB nT tv pk sn ck := MsV_eq C.2.2.1 (show h1.2.1 75 = _ from (e1 75 (by unfold chF; omega)).2.1)
    have lc := m_laysChest hE (L := L - 1) (by omega) M1 v (show b < 24 by have := C.1.2.2.2.1; omega) hx hy
    generalize nF (wS v (fun _ => true)) 12 = m at *
    generalize itK (wS v (fun _ => true)) = mem at *
    generalize qW tv mem m b x y = q at *
    have n12 := P1.1.2.1
    have p4 := pow13 (n := m) (by omega)
    have cl := cB_le q (2 ^ m)
    have tl := fun k => tmI_le q k (2 ^ m)
    have fle : ∀ k, fL q m k ≤ cB q (2 ^ m) := fun k => by have := tl k; unfold fL; split <;> omega
    have xs : RdI E (L - 1) m_Chest_bestLook 59 [] h1 (if 1 < cB q (2 ^ m) then nI (mem ((am (fun _ => true) (fL q m) m).1 - 1)) else -1) := by
      refine B_Chest_bestLook hE (by omega) ?_
      rw [V1.1, show (1 : Int32) = nI 1 from rfl, nIt (by omega) (by omega)]
      refine ⟨fun g => ?_, fun g => ?_⟩
      · rw [if_pos g]
        obtain ⟨t1, t2, t3⟩ := (am_thr (f := fL q m) (F := cB q (2 ^ m)) m).1 (fL_some g)
        have main : ∀ f k, f + k = m → at_Chest_bestLook_19 E (L - 1) h1 (fun y h' => y = nI (mem ((am (fun _ => true) (fL q m) m).1 - 1)) ∧ h' = h1) (if (am (fun k => decide (fL q m k < cB q (2 ^ m))) (fL q m) k).1 = 0 then -1 else nI (mem ((am (fun k => decide (fL q m k < cB q (2 ^ m))) (fL q m) k).1 - 1))) (nI (if (am (fun k => decide (fL q m k < cB q (2 ^ m))) (fL q m) k).1 = 0 then cB q (2 ^ m) else (am (fun k => decide (fL q m k < cB q (2 ^ m))) (fL q m) k).2)) (nI k) := by
          intro f
          induction f with
          | zero =>
            intro k hk
            rw [show k = m by omega]
            refine B_Chest_bestLook_19 ((show RdI E (L - 1 - 1) m_Picked_many 39 [] h1 (nI m) from B_Picked_many hE (by omega) ⟨P1.1.1, rfl⟩).use (brT (nI_le (Nat.le_refl _) (by omega)) ⟨?_, rfl⟩))
            rw [t1, if_neg t3]
          | succ f ih =>
            intro k hk
            have ih1 := ih (k + 1) (by omega)
            have k12 : k < 12 := by omega
            have tk := tl k
            refine B_Chest_bestLook_19 ((show RdI E (L - 1 - 1) m_Picked_many 39 [] h1 (nI m) from B_Picked_many hE (by omega) ⟨P1.1.1, rfl⟩).use (brF (nI_ge (by omega) (by omega)) (brF (nI_ge (b := 12) k12 (by omega)) ⟨in61 k12, in61 k12, rfl, ?_⟩)))
            rw [nIc (by omega), V1.2.2.2.2 k k12, V1.1, nI_sub tk, mx_n (by omega) (by omega), show (if tmI q k (2 ^ m) < cB q (2 ^ m) - tmI q k (2 ^ m) then cB q (2 ^ m) - tmI q k (2 ^ m) else tmI q k (2 ^ m)) = fL q m k from rfl, nI_1]
            have fk := fle k
            have ay := fun z => am_yes (p := fun k => decide (fL q m k < cB q (2 ^ m))) (f := fL q m) (n := k) z
            have aN := am_no (p := fun k => decide (fL q m k < cB q (2 ^ m))) (f := fL q m) (k := k)
            have aU := am_up (p := fun k => decide (fL q m k < cB q (2 ^ m))) (f := fL q m) (k := k)
            have aK := am_kp (p := fun k => decide (fL q m k < cB q (2 ^ m))) (f := fL q m) (k := k)
            generalize am (fun k => decide (fL q m k < cB q (2 ^ m))) (fL q m) (k + 1) = A' at *
            generalize am (fun k => decide (fL q m k < cB q (2 ^ m))) (fL q m) k = A at *
            by_cases A0 : A.1 = 0
            · rw [if_pos A0, if_pos A0, nIl (by omega) (by omega)]
              refine ⟨fun d => ?_, fun d => (pc_member hE (by omega) P1.1 (by omega)).use ?_⟩
              · rw [aN (decide_eq_false (by omega)), if_pos A0, if_pos A0] at ih1; exact ih1
              · rw [aU (decide_eq_true (by omega)) (Or.inl A0), if_neg (Nat.succ_ne_zero k), if_neg (Nat.succ_ne_zero k)] at ih1; exact ih1
            · obtain ⟨y1, y2, y3⟩ := ay A0
              rw [decide_eq_true_eq, ← y3] at y2
              rw [if_neg A0, if_neg A0, nIl (by omega) (by omega)]
              refine ⟨fun d => ?_, fun d => (pc_member hE (by omega) P1.1 (by omega)).use ?_⟩
              · by_cases g2 : fL q m k < cB q (2 ^ m)
                · rw [aK (decide_eq_true g2) A0 (by omega), if_neg A0, if_neg A0] at ih1; exact ih1
                · rw [aN (decide_eq_false g2), if_neg A0, if_neg A0] at ih1; exact ih1
              · rw [aU (decide_eq_true (by omega)) (Or.inr (by omega)), if_neg (Nat.succ_ne_zero k), if_neg (Nat.succ_ne_zero k)] at ih1; exact ih1
        exact main m 0 (by omega)
      · rw [if_neg g]; exact ⟨rfl, rfl⟩
    refine brT z0 (xs.use ?_)
    refine B_M_look hE (by omega) ((c _ M1).1.use (brF' (by decide) ((c _ M1).2.use (brF' (by decide) (lc.mono (fun y5 h5 z5 => ?_))))))
    obtain ⟨ey, e5, k5, F5, q5⟩ := z5
    have I5 : Inv h5 (K + 60) := inv_ch I hK (e1.wk (fun x z => by unfold chF at z; unfold chG; omega)) Z1 (e5.wk (fun x z => by omega)) k5
    rw [ey, show (2 : Int32) = nI 2 from rfl, nIl (by omega) (by omega)]
    refine ⟨fun g => ?_, fun g => ⟨if_neg (by omega), I5⟩⟩
    rw [if_pos (by omega)]
    obtain ⟨t1, t2, t3⟩ := (am_thr (f := fL q m) (F := cB q (2 ^ m)) m).1 (fL_some g)
    have main : ∀ f k, f + k = m → at_M_look_59 E L h5 (fun y2 h3 => nI (mem ((am (fun _ => true) (fL q m) m).1 - 1)) = y2 ∧ Inv h3 (K + 60)) (nI (cB q (2 ^ m))) (if (am (fun _ => true) (fL q m) k).1 = 0 then -1 else nI (mem ((am (fun _ => true) (fL q m) k).1 - 1))) (nI (am (fun _ => true) (fL q m) k).2) (nI k) := by
      intro f
      induction f with
      | zero =>
        intro k hk
        rw [show k = m by omega]
        refine B_M_look_59 ?_
        rw [F5.1]
        exact brT (nI_le (Nat.le_refl _) (by omega)) ⟨(if_neg t3).symm, I5⟩
      | succ f ih =>
        intro k hk
        have ih1 := ih (k + 1) (by omega)
        have k12 : k < 12 := by omega
        have tk := tl k
        refine B_M_look_59 ?_
        rw [F5.1]
        refine brF (nI_ge (by omega) (by omega)) ?_
        have go : ∀ g c, g + c = 2 ^ m → at_M_look_74 E L h5 (fun y2 h3 => nI (mem ((am (fun _ => true) (fL q m) m).1 - 1)) = y2 ∧ Inv h3 (K + 60)) (nI (cB q (2 ^ m))) (if (am (fun _ => true) (fL q m) k).1 = 0 then -1 else nI (mem ((am (fun _ => true) (fL q m) k).1 - 1))) (nI (am (fun _ => true) (fL q m) k).2) (nI k) (nI (tmI q k c)) (nI c) := by
          intro g
          induction g with
          | zero =>
            intro c hc
            rw [show c = 2 ^ m by omega]
            refine B_M_look_74 ?_
            rw [F5.1, shlN (by omega), nI_sub tk, nIc (by omega), (F5.2.2 k (by omega)).1, nI_1]
            refine brT (nI_le (Nat.le_refl _) (by omega)) ?_
            have up : ∀ W, W = fL q m k → (((if (am (fun _ => true) (fL q m) k).1 = 0 then (-1 : Int32) else nI (mem ((am (fun _ => true) (fL q m) k).1 - 1))) = -1 → (inI 80 (nI k) ∧ at_M_look_59 E L h5 (fun y2 h3 => nI (mem ((am (fun _ => true) (fL q m) m).1 - 1)) = y2 ∧ Inv h3 (K + 60)) (nI (cB q (2 ^ m))) (nI (mem k)) (nI W) (nI (k + 1)))) ∧ (¬ (if (am (fun _ => true) (fL q m) k).1 = 0 then (-1 : Int32) else nI (mem ((am (fun _ => true) (fL q m) k).1 - 1))) = -1 → ((nI W < nI (am (fun _ => true) (fL q m) k).2 → (inI 80 (nI k) ∧ at_M_look_59 E L h5 (fun y2 h3 => nI (mem ((am (fun _ => true) (fL q m) m).1 - 1)) = y2 ∧ Inv h3 (K + 60)) (nI (cB q (2 ^ m))) (nI (mem k)) (nI W) (nI (k + 1)))) ∧ (¬ nI W < nI (am (fun _ => true) (fL q m) k).2 → at_M_look_59 E L h5 (fun y2 h3 => nI (mem ((am (fun _ => true) (fL q m) m).1 - 1)) = y2 ∧ Inv h3 (K + 60)) (nI (cB q (2 ^ m))) (if (am (fun _ => true) (fL q m) k).1 = 0 then -1 else nI (mem ((am (fun _ => true) (fL q m) k).1 - 1))) (nI (am (fun _ => true) (fL q m) k).2) (nI (k + 1)))))) := by
              intro W eW
              rw [eW]
              have fk := fle k
              have aU := am_up (p := fun _ => true) (f := fL q m) (k := k) rfl
              have aK := am_kp (p := fun _ => true) (f := fL q m) (k := k) rfl
              have A2 : (am (fun _ => true) (fL q m) k).1 ≠ 0 → (am (fun _ => true) (fL q m) k).2 ≤ 4096 ∧ (am (fun _ => true) (fL q m) k).1 ≤ k := fun z => by
                obtain ⟨y1, y2, y3⟩ := am_yes (p := fun _ => true) (f := fL q m) z
                have := fle ((am (fun _ => true) (fL q m) k).1 - 1)
                omega
              generalize am (fun _ => true) (fL q m) (k + 1) = A' at *
              generalize am (fun _ => true) (fL q m) k = A at *
              by_cases A0 : A.1 = 0
              · rw [if_pos A0]
                rw [aU (Or.inl A0), if_neg (Nat.succ_ne_zero k)] at ih1
                exact brT rfl ⟨in80 k12, ih1⟩
              · obtain ⟨q1, q2⟩ := A2 A0
                rw [if_neg A0]
                have m24 := (F5.2.2 (A.1 - 1) (by omega)).2
                refine brF (nIm1 (by omega)) ?_
                rw [nIt (by omega) (by omega)]
                refine ⟨fun d => ?_, fun d => ?_⟩
                · rw [aU (Or.inr d), if_neg (Nat.succ_ne_zero k)] at ih1
                  exact ⟨in80 k12, ih1⟩
                · rw [aK A0 d, if_neg A0] at ih1; exact ih1
            rw [nIl (by omega) (by omega)]
            refine ⟨fun d => up _ ?_, fun d => up _ ?_⟩
            · unfold fL; split <;> omega
            · unfold fL; rw [if_neg (by omega)]
          | succ g ihg =>
            intro c hc
            have ihc := ihg (c + 1) (by omega)
            rw [show tmI q k (c + 1) = tmI q k c + (if q c = true ∧ c.testBit k = true then 1 else 0) from rfl] at ihc
            refine B_M_look_74 ?_
            rw [F5.1, shlN (by omega)]
            refine brF (nI_ge (by omega) (by omega)) ⟨in90 (by omega), ?_⟩
            rw [nIc (by omega), q5 c (by omega), addz, nI_1, nI_1, bitN (by omega) (by omega)]
            by_cases qc : q c = true
            · rw [if_pos qc]
              refine brF (by decide) ?_
              by_cases bc : c.testBit k = true
              · rw [if_pos bc]
                rw [if_pos (show q c = true ∧ c.testBit k = true from ⟨qc, bc⟩)] at ihc
                exact brT' rfl ihc
              · rw [if_neg bc]
                rw [if_neg (show ¬ (q c = true ∧ c.testBit k = true) from fun z => bc z.2)] at ihc
                exact brF' (by decide) ihc
            · rw [if_neg qc]
              rw [if_neg (show ¬ (q c = true ∧ c.testBit k = true) from fun z => qc z.1)] at ihc
              exact brT rfl ihc
        exact go (2 ^ m) 0 (by omega)
    exact main m 0 (by omega)
end Sure
