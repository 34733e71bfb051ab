/-! ===== order in a box: levels and clock; what lies over, the same on both sides ===== -/
def rk (pk sn : Nat → Nat) (i : Nat) : Nat := sE (fun j => if pk j = pk i ∧ sn j < sn i then 1 else 0) 24
def OrdV (pk lv sn : Nat → Nat) (ck : Nat) : Prop := (∀ i, i < 24 → pk i ≠ 0 → lv i = rk pk sn i) ∧ (∀ i, i < 24 → sn i ≤ ck) ∧ ∀ i j, i < 24 → j < 24 → pk i ≠ 0 → pk i = pk j → sn i = sn j → i = j
theorem sE_mon {f g : Nat → Nat} : ∀ {n : Nat}, (∀ k, k < n → f k ≤ g k) → sE f n ≤ sE g n
  | 0, _ => Nat.le_refl _
  | n + 1, h => by
    have h1 := sE_mon (f := f) (g := g) (n := n) (fun k hk => h k (by omega))
    have h2 := h n (by omega)
    rw [sE_s, sE_s]; omega
theorem sE_str {f g : Nat → Nat} {i : Nat} : ∀ {n : Nat}, (∀ k, k < n → f k ≤ g k) → i < n → f i < g i → sE f n < sE g n
  | 0, _, h, _ => absurd h (Nat.not_lt_zero i)
  | n + 1, h, hi, hs => by
    have h2 := h n (by omega)
    rw [sE_s, sE_s]
    rcases Nat.eq_or_lt_of_le (Nat.le_of_lt_succ hi) with q | q
    · subst q
      have h1 := sE_mon (f := f) (g := g) (n := i) (fun k hk => h k (by omega))
      omega
    · have h1 := sE_str (f := f) (g := g) (i := i) (n := n) (fun k hk => h k (by omega)) q hs
      omega
theorem rk_lt {pk sn : Nat → Nat} {i j : Nat} (hi : i < 24) (e : pk i = pk j) : rk pk sn i < rk pk sn j ↔ sn i < sn j := by
  unfold rk
  constructor
  · intro h
    rcases Nat.lt_or_ge (sn i) (sn j) with q | q
    · exact q
    · have : sE (fun k => if pk k = pk j ∧ sn k < sn j then 1 else 0) 24 ≤ sE (fun k => if pk k = pk i ∧ sn k < sn i then 1 else 0) 24 := sE_mon (fun k _ => by
        by_cases c : pk k = pk j ∧ sn k < sn j
        · rw [if_pos c, if_pos ⟨by rw [c.1, e], by omega⟩]; exact Nat.le_refl _
        · rw [if_neg c]; exact Nat.zero_le _)
      omega
  · intro h
    refine sE_str (i := i) (fun k _ => ?_) hi ?_
    · by_cases c : pk k = pk i ∧ sn k < sn i
      · rw [if_pos c, if_pos ⟨by rw [c.1, e], by omega⟩]; exact Nat.le_refl _
      · rw [if_neg c]; exact Nat.zero_le _
    · rw [if_neg (fun z => Nat.lt_irrefl _ z.2), if_pos ⟨e, h⟩]; exact Nat.one_pos
theorem itn_0 (pk : Nat → Nat) : ∀ n, itn pk n 0 = 0
  | 0 => rfl
  | n + 1 => by rw [itn_s, show nx pk 0 = 0 from rfl]; exact itn_0 pk n
theorem itn_add (pk : Nat → Nat) : ∀ (a b c : Nat), itn pk (a + b) c = itn pk b (itn pk a c)
  | 0, b, c => by rw [Nat.zero_add]; rfl
  | a + 1, b, c => by rw [show a + 1 + b = (a + b) + 1 by omega, itn_s, itn_s]; exact itn_add pk a b (nx pk c)
theorem itn_end (pk : Nat → Nat) (n : Nat) : ∀ c, itn pk (n + 1) c = nx pk (itn pk n c) := by
  intro c
  rw [itn_add pk n 1 c]; rfl
theorem no_cyc {pk : Nat → Nat} {d m : Nat} (hd : d ≠ 0) (hc : itn pk (m + 1) d = d) : ∀ n, itn pk n d ≠ 0 := by
  intro n
  induction n using Nat.strongRecOn with
  | ind n ih =>
    intro h
    rcases Nat.lt_or_ge n (m + 1) with q | q
    · have : itn pk (m + 1) d = 0 := by
        rw [show m + 1 = n + (m + 1 - n) by omega, itn_add, h, itn_0]
      rw [hc] at this; exact hd this
    · rw [show n = (m + 1) + (n - (m + 1)) by omega, itn_add, hc] at h
      exact ih (n - (m + 1)) (by omega) h
theorem ow_yes {pk sn : Nat → Nat} {k : Nat} : ∀ {n c : Nat}, ow pk sn k n c = true → ∃ m, nx pk (itn pk m c) = pk k
  | 0, c, h => by simp [ow] at h
  | n + 1, c, h => by
    simp only [ow] at h
    split at h
    · cases h
    · split at h
      · rename_i z; exact ⟨0, z.2.1.symm⟩
      · obtain ⟨m, hm⟩ := ow_yes h
        exact ⟨m + 1, hm⟩
theorem over_eq {pk lv sn : Nat → Nat} {ck : Nat} (hO : OrdV pk lv sn ck) (hp : ∀ i, i < 24 → pk i ≤ 8) {g : Nat → Bool} (hg : ∀ j, j < 24 → g j = false) : ∀ (n c : Nat), c ≤ 24 → itn pk n c = 0 → sE (fun k => if ow pk sn k n c = true then 1 else 0) 24 = lft pk lv g n c := by
  intro n
  induction n with
  | zero => intro c _ _; exact sE_zero (fun k _ => by simp [ow])
  | succ n ih =>
    intro c hc hz
    cases c with
    | zero => rw [show lft pk lv g (n + 1) 0 = 0 by simp [lft]]; exact sE_zero (fun k _ => by simp [ow])
    | succ j =>
      rw [itn_s, nx_S] at hz
      have hj : j < 24 := by omega
      have hpj := hp j hj
      have ih1 := ih (pk j) (by omega) hz
      have e1 : lft pk lv g (n + 1) (j + 1) = mAb pk lv g (j + 1) + lft pk lv g n (pk j) := by
        simp only [lft, if_neg (Nat.succ_ne_zero j), Nat.add_sub_cancel, hg j hj, nx_S]
        rfl
      rw [e1, ← ih1]
      have e2 : mAb pk lv g (j + 1) = sE (fun k => if pk j ≠ 0 ∧ pk k = pk j ∧ sn j < sn k then 1 else 0) 24 := by
        unfold mAb
        rw [nx_S]
        by_cases q : pk j = 0
        · rw [if_pos q]
          exact (sE_zero (fun k _ => if_neg (fun z => z.1 q))).symm
        · rw [if_neg q]
          refine sE_cong (fun k hk => ?_)
          rw [Nat.add_sub_cancel]
          by_cases a : pk k = pk j
          · have h1 := hO.1 j hj q
            have h2 := hO.1 k hk (by rw [a]; exact q)
            have h3 := rk_lt (pk := pk) (sn := sn) (i := j) (j := k) hj a.symm
            rw [← h1, ← h2] at h3
            by_cases b : sn j < sn k
            · rw [if_pos ⟨a, h3.mpr b, hg k hk⟩, if_pos ⟨q, a, b⟩]
            · rw [if_neg (fun z => b (h3.mp z.2.1)), if_neg (fun z => b z.2.2)]
          · rw [if_neg (fun z => a z.1), if_neg (fun z => a z.2.1)]
      rw [e2, ← sE_add]
      refine sE_cong (fun k hk => ?_)
      by_cases a : pk j ≠ 0 ∧ pk k = pk j ∧ sn j < sn k
      · rw [if_pos a]
        have f1 : ow pk sn k (n + 1) (j + 1) = true := by
          simp only [ow, if_neg (Nat.succ_ne_zero j), nx_S, Nat.add_sub_cancel, if_pos a]
        have f2 : ¬ ow pk sn k n (pk j) = true := by
          intro z
          obtain ⟨m, hm⟩ := ow_yes z
          rw [← itn_end, a.2.1] at hm
          exact no_cyc a.1 hm n hz
        rw [if_pos f1, if_neg f2]
      · rw [if_neg a]
        have f1 : ow pk sn k (n + 1) (j + 1) = ow pk sn k n (pk j) := by
          simp only [ow, if_neg (Nat.succ_ne_zero j), nx_S, Nat.add_sub_cancel, if_neg a]
        rw [f1, Nat.zero_add]
theorem wi_big {pk : Nat → Nat} (hp : ∀ i, i < 24 → pk i ≤ 8) {d : Nat} (hd : 9 ≤ d) : ∀ (n c : Nat), c ≤ 24 → wi pk d n c = false
  | 0, _, _ => rfl
  | n + 1, c, hc => by
    simp only [wi]
    split
    · rfl
    · have : nx pk c ≤ 8 := by
        unfold nx
        split
        · omega
        · exact hp _ (by omega)
      rw [if_neg (by omega)]
      exact wi_big hp hd n _ (by omega)
section ModelC
variable {E : EnvX} {L : Nat} {h : Hp} {nB nT : Nat} {tv : Nat → Nat → Nat} {pk lv sn : Nat → Nat} {ck : Nat}
theorem m_over (hE : EOk E) (hL : 4 ≤ L) (M : MdV h nB nT tv pk sn ck) (hA : acy pk) (hO : OrdV pk lv sn ck) {i : Nat} (hi : i < 24) : RdI E L m_M_overMany 74 [.int (nI i)] h (nI (lft pk lv (bO 0) 9 (i + 1))) := by
  rw [← over_eq hO (fun i hi => M.pk8 hi) (fun j hj => bO_0 (by omega)) 9 (i + 1) (by omega) (hA _ (by omega))]
  exact m_overMany hE hL M hA hi
theorem m_canBeTaken (hE : EOk E) (hL : 5 ≤ L) (M : MdV h nB nT tv pk sn ck) (hA : acy pk) (hO : OrdV pk lv sn ck) {i : Nat} (hi : i < 24) : RdI E L m_M_canBeTaken 74 [.int (nI i)] h (if pk i = 0 ∨ 0 < lft pk lv (bO 0) 9 (i + 1) then 0 else 1) := by
  have hp := M.pk8 hi
  have hll := lft_le pk lv (bO 0) 9 (i + 1)
  refine B_M_canBeTaken hE (by omega) ((m_around hE (by omega) M hi).use ?_)
  rw [bx_m1 (by omega)]
  refine ⟨fun c => ?_, fun c => (m_over hE (by omega) M hA hO hi).use ?_⟩
  · rw [if_pos (Or.inl c)]; exact ⟨rfl, rfl⟩
  · rw [nI_z (by omega)]
    refine ⟨fun c2 => ?_, fun c2 => ?_⟩
    · rw [if_pos (Or.inr (by omega))]; exact ⟨rfl, rfl⟩
    · rw [if_neg (by omega)]; exact ⟨rfl, rfl⟩
theorem m_refuses (hE : EOk E) (hL : 6 ≤ L) (M : MdV h nB nT tv pk sn ck) (hA : acy pk) (hO : OrdV pk lv sn ck) {i b : Nat} (hi : isIt nB nT i) (hb : b < nB) : RdI E L m_M_refuses 74 [.int (nI i), .int (nI b)] h (rfs pk lv tv nB i b) := by
  obtain ⟨⟨h8, h16, -⟩, -⟩ := id M
  have hi24 : i < 24 := by rcases hi with q | q <;> omega
  have hi8 : i < nB ↔ i < 8 := by rcases hi with q | q <;> omega
  have hb24 : b < 24 := by omega
  have ht : ∀ i k, i < 24 → k < 7 → tv i k ≤ 9999 := fun i k hi hk => (M.2.2.1 i k hi hk).2
  have hlod := fun c => lod_le (pk := pk) (tv := tv) (fun i hi => ht i 2 hi (by omega)) c
  have hfl := fun c => fil_le (pk := pk) (tv := tv) (fun i hi => ht i 0 hi (by omega)) c
  have hp := M.pk8 hi24
  have hll := lft_le pk lv (bO 0) 9 (b + 1)
  have q1 := ht i 1 hi24 (by omega)
  have q2 := ht b 4 hb24 (by omega)
  have q3 : hft pk tv nB i < 1000000 := by
    have a1 := ht i 2 hi24 (by omega)
    have a2 := hlod (i + 1)
    unfold hft; split <;> omega
  have y1 := hfl (b + 1)
  have y2 := hfl (i + 1)
  have y3 := ht i 0 hi24 (by omega)
  have r1 := fun n => rom_le (pk := pk) (b := b) (n := n) (ht b 0 hb24 (by omega)) (ht b 5 hb24 (by omega))
  have r2 := fun n => rom_le (pk := pk) (b := i) (n := n) (ht i 0 hi24 (by omega)) (ht i 5 hi24 (by omega))
  have f1 := m_fillOf hE (L := L - 1) (by omega) M (c := b + 1) (by omega) (by omega)
  have f2 := m_fillOf hE (L := L - 1) (by omega) M (c := i + 1) (by omega) (by omega)
  have w1 := m_isDeepIn hE (L := L - 1) (by omega) M hA (i := b) (d := i + 1) (by omega) (by omega) (by omega)
  rw [bx_S] at f1 f2 w1
  refine B_M_refuses hE (by omega) ((m_around hE (by omega) M hi24).use ?_)
  rw [bx_m1 (by omega)]
  refine ⟨fun c => B_M_refuses_17 ⟨by unfold rfs; rw [if_pos c], rfl⟩, fun c => (m_over hE (by omega) M hA hO hb24).use ?_⟩
  have d1 : ¬ pk i ≠ 0 := fun z => z c
  rw [nI_le0 (by omega)]
  refine ⟨fun c2 => ?_, fun c2 => B_M_refuses_17 ⟨by unfold rfs; rw [if_neg d1, if_pos (show 0 < lft pk lv (bO 0) 9 (b + 1) by omega)], rfl⟩⟩
  have d2 : ¬ 0 < lft pk lv (bO 0) 9 (b + 1) := by omega
  rw [nIe (by omega) (by omega)]
  refine ⟨fun c3 => B_M_refuses_40 ⟨by unfold rfs; rw [if_neg d1, if_neg d2, if_pos c3], rfl⟩, fun c3 => ?_⟩
  have rest : ¬ wi pk (i + 1) 8 (b + 1) = true → at_M_refuses_43 E L h (fun y h' => y = rfs pk lv tv nB i b ∧ h' = h) (nI i) (nI b) := by
    intro c4
    refine B_M_refuses_43 ((m_of hE (by omega) M hi24 (k := 1) (by omega)).use ((m_of hE (by omega) M hb24 (k := 4) (by omega)).use ?_))
    rw [nIl (by omega) (by omega)]
    refine ⟨fun c5 => (m_heftOf hE (by omega) M hA hi).use ((m_bears hE (by omega) M hA hb24 q3).use ?_), fun c5 => ⟨by unfold rfs; rw [if_neg d1, if_neg d2, if_neg c3, if_neg c4, if_pos (show tv b 4 < tv i 1 by omega)], rfl⟩⟩
    have d5 : ¬ tv b 4 < tv i 1 := by omega
    by_cases c6 : brs pk tv (hft pk tv nB i) 9 (b + 1) = true
    · have d6 : ¬ brs pk tv (hft pk tv nB i) 9 (b + 1) = false := by rw [c6]; decide
      rw [if_pos c6]
      have ans0 : hrf pk tv nB i b = true → rfs pk lv tv nB i b = 0 := fun z => by unfold rfs; rw [if_neg d1, if_neg d2, if_neg c3, if_neg c4, if_neg d5, if_neg d6, if_neg (by rw [z]; decide)]
      have ans1 : hrf pk tv nB i b = false → rfs pk lv tv nB i b = -11 := fun z => by unfold rfs; rw [if_neg d1, if_neg d2, if_neg c3, if_neg c4, if_neg d5, if_neg d6, if_pos z]
      refine brF' (by decide) ?_
      by_cases c7 : i < 8
      · have hr : hrf pk tv nB i b = (decide (fil pk tv (b + 1) + tv i 0 ≤ rom pk tv b (hlv pk (b + 1) + 1)) && decide (fil pk tv (i + 1) ≤ rom pk tv i (hlv pk (i + 1) + 1))) := by
          unfold hrf; rw [if_pos (hi8.mpr c7)]
        refine brF (nG 8 c7) (f1.use ((m_of hE (by omega) M hi24 (k := 0) (by omega)).use ((m_roomOf hE (by omega) M hb24 (m := 1) (by omega)).use ?_)))
        have z1 := r1 (hlv pk (b + 1) + 1)
        have z2 := r2 (hlv pk (i + 1) + 1)
        rw [nI_add, nIl (by omega) (by omega)]
        refine ⟨fun c8 => brF (nG 8 c7) (f2.use ((m_roomOf hE (by omega) M hi24 (m := 1) (by omega)).use ?_)), fun c8 => ⟨(ans1 (by rw [hr, decide_eq_false c8, Bool.false_and])).symm, rfl⟩⟩
        rw [nIl (by omega) (by omega)]
        refine ⟨fun c9 => ⟨(ans0 (by rw [hr, decide_eq_true c8, decide_eq_true c9]; rfl)).symm, rfl⟩, fun c9 => ⟨(ans1 (by rw [hr, decide_eq_false c9, Bool.and_false])).symm, rfl⟩⟩
      · have hr : hrf pk tv nB i b = decide (fil pk tv (b + 1) + tv i 0 ≤ rom pk tv b (hlv pk (b + 1))) := by
          unfold hrf; rw [if_neg (fun z => c7 (hi8.mp z))]
        refine brT (nLe 8 (by omega) (by omega)) (f1.use ((m_of hE (by omega) M hi24 (k := 0) (by omega)).use ((m_roomOf hE (by omega) M hb24 (m := 0) (by omega)).use ?_)))
        have z1 := r1 (hlv pk (b + 1))
        rw [show hlv pk (b + 1) + 0 = hlv pk (b + 1) from rfl, nI_add, nIl (by omega) (by omega)]
        refine ⟨fun c8 => brT (nLe 8 (by omega) (by omega)) ⟨(ans0 (by rw [hr, decide_eq_true c8])).symm, rfl⟩, fun c8 => ⟨(ans1 (by rw [hr, decide_eq_false c8])).symm, rfl⟩⟩
    · rw [if_neg c6]
      have d6 : brs pk tv (hft pk tv nB i) 9 (b + 1) = false := by simpa using c6
      exact brT' rfl ⟨by unfold rfs; rw [if_neg d1, if_neg d2, if_neg c3, if_neg c4, if_neg d5, if_pos d6], rfl⟩
  by_cases c7 : i < 8
  · refine brF (nG 8 c7) (w1.use ?_)
    by_cases c4 : wi pk (i + 1) 8 (b + 1) = true
    · rw [if_pos c4]
      exact brF (by decide) (B_M_refuses_40 ⟨by unfold rfs; rw [if_neg d1, if_neg d2, if_neg c3, if_pos c4], rfl⟩)
    · rw [if_neg c4]
      exact brT rfl (rest c4)
  · exact brT (nLe 8 (by omega) (by omega)) (rest (by rw [wi_big (fun i hi => M.pk8 hi) (by omega) 8 (b + 1) (by omega)]; decide))
theorem m_inBox (hE : EOk E) (hL : 4 ≤ L) (M : MdV h nB nT tv pk sn ck) (hO : OrdV pk lv sn ck) {c l : Nat} (hc : c ≤ 24) (h0 : c ≠ 0) (hl : l < 2147483648) : RdI E L m_M_inBox 74 [.int (bx c), .int (nI l)] h (bx (atL pk lv c l)) := by
  refine B_M_inBox hE (by omega) ?_
  have main : ∀ n k, n + k = 24 → at_M_inBox_2 E L h (fun y h' => y = bx (findF (fun i => decide (pk i = c ∧ lv i = l)) n k) ∧ h' = h) (bx c) (nI l) (nI k) := by
    intro n
    induction n with
    | zero =>
      intro k hk
      rw [show k = 24 by omega]
      exact B_M_inBox_2 (brT (nEnd 24) ⟨rfl, rfl⟩)
    | succ n ih =>
      intro k hk
      have hk24 : k < 24 := by omega
      have hp := M.pk8 hk24
      obtain ⟨x, hx, hxx⟩ := m_isItem hE (L := L - 1) (by omega) M hk24
      have go : ¬ (pk k = c ∧ lv k = l) → at_M_inBox_2 E L h (fun y h' => y = bx (findF (fun i => decide (pk i = c ∧ lv i = l)) (n + 1) k) ∧ h' = h) (bx c) (nI l) (nI k + 1) := by
        intro hn
        rw [nI_1]
        have e : findF (fun i => decide (pk i = c ∧ lv i = l)) (n + 1) k = findF (fun i => decide (pk i = c ∧ lv i = l)) n (k + 1) := by
          simp only [findF, decide_eq_false hn, Bool.false_eq_true, if_false]
        rw [e]
        exact ih (k + 1) (by omega)
      refine B_M_inBox_2 (brF (nG 24 hk24) (hx.use ?_))
      rcases hxx with ⟨rfl, q⟩ | ⟨rfl, q⟩
      · refine brF (by decide) ((m_around hE (by omega) M hk24).use ?_)
        rw [bx_inj (by omega) (by omega)]
        refine ⟨fun c1 => ?_, fun c1 => go (fun z => c1 z.1)⟩
        have hlv : lv k = sE (fun j => if pk j = c ∧ sn j < sn k then 1 else 0) 24 := by
          rw [hO.1 k hk24 (by rw [c1]; exact h0)]; unfold rk; rw [c1]
        have hlb : sE (fun j => if pk j = c ∧ sn j < sn k then 1 else 0) 24 ≤ 24 * 1 := sE_le (fun k _ => by split <;> omega)
        refine upto (P := fun j => at_M_inBox_35 E L h _ (bx c) (nI l) (nI k) (nI (sE (fun j => if pk j = c ∧ sn j < sn k then 1 else 0) j)) (nI j)) (n := 24) ?_ ?_ 0 (by omega)
        · refine B_M_inBox_35 (brT (nEnd 24) ?_)
          rw [nIe (by omega) hl, ← hlv]
          refine ⟨fun c2 => go (fun z => c2 z.2), fun c2 => ?_⟩
          refine ⟨?_, rfl⟩
          simp only [findF, decide_eq_true (show pk k = c ∧ lv k = l from ⟨c1, c2⟩), if_true]
          exact (bx_S k).symm
        · intro j hj ihj
          obtain ⟨x2, hx2, hxx2⟩ := m_isItem hE (L := L - 1) (by omega) M hj
          have hpj := M.pk8 hj
          have s1 := M.2.2.2.2.1 k hk24
          have s2 := M.2.2.2.2.1 j hj
          rw [Nat.zero_add] at s1 s2
          rw [sE_s _ j] at ihj
          refine B_M_inBox_35 (brF (nG 24 hj) (hx2.use ?_))
          rw [nI_1]
          rcases hxx2 with ⟨rfl, q2⟩ | ⟨rfl, q2⟩
          · refine brF (by decide) ((m_around hE (by omega) M hj).use ?_)
            rw [bx_inj (by omega) (by omega)]
            refine ⟨fun c2 => ?_, fun c2 => ?_⟩
            · rw [if_neg (fun z => c2 z.1)] at ihj
              rw [addz]; exact ihj
            · rw [show (195 : Int32) = nI 195 from rfl, nI_add, nI_add, nIc (by omega), nIc (by omega), s1.1, s2.1, nIl (by omega) (by omega)]
              refine ⟨in75 (by omega), in75 (by omega), fun c3 => ?_, fun c3 => ?_⟩
              · rw [if_neg (fun z => by omega)] at ihj
                rw [addz]; exact ihj
              · rw [if_pos ⟨c2, by omega⟩] at ihj
                rw [nI_1]; exact ihj
          · rw [if_neg (fun z => by rw [M.2.2.2.2.2 j hj q2] at z; exact h0 z.1.symm)] at ihj
            rw [addz]
            exact brT rfl ihj
      · exact brT rfl (go (fun z => by rw [M.2.2.2.2.2 k hk24 q] at z; exact h0 z.1.symm))
  exact main 24 0 (by omega)
end ModelC
