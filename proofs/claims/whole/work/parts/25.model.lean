/-! ===== the reference: its state in pure words, its reads ===== -/
/-- the reference's row 'all', from the place o on: boxes, things, what was told, where each lies, since when -/
def MsV (h : Hp) (o nB nT : Nat) (tv : Nat → Nat → Nat) (pk sn : Nat → Nat) (ck : Nat) : Prop :=
  (nB ≤ 8 ∧ nT ≤ 16 ∧ ck < 1073741824) ∧ (h.2.1 75 o = nI nB ∧ h.2.1 75 (o + 1) = nI nT ∧ h.2.1 75 (o + 2) = nI (nB + nT) ∧ h.2.1 75 (o + 219) = nI ck) ∧
  (∀ i k, i < 24 → k < 7 → h.2.1 75 (o + (3 + 7 * i + k)) = nI (tv i k) ∧ tv i k ≤ 9999) ∧
  (∀ i, i < 24 → h.2.1 75 (o + (171 + i)) = nI (pk i) ∧ pk i ≤ 8) ∧ (∀ i, i < 24 → h.2.1 75 (o + (195 + i)) = nI (sn i) ∧ sn i < 1073741824) ∧
  (∀ i, i < 24 → ¬ isIt nB nT i → pk i = 0)
abbrev MdV (h : Hp) (nB nT : Nat) (tv : Nat → Nat → Nat) (pk sn : Nat → Nat) (ck : Nat) : Prop := MsV h 0 nB nT tv pk sn ck
def acy (pk : Nat → Nat) : Prop := ∀ c, c ≤ 24 → itn pk 9 c = 0
def ow (pk sn : Nat → Nat) (one : Nat) : Nat → Nat → Bool
  | 0, _ => false
  | n + 1, c => if c = 0 then false else if nx pk c ≠ 0 ∧ pk one = nx pk c ∧ sn (c - 1) < sn one then true else ow pk sn one n (nx pk c)
theorem itn_s (pk : Nat → Nat) (n c : Nat) : itn pk (n + 1) c = itn pk n (nx pk c) := rfl
theorem nx_S (pk : Nat → Nat) (i : Nat) : nx pk (i + 1) = pk i := by simp [nx]
theorem MsV.pk8 {h : Hp} {o nB nT : Nat} {tv : Nat → Nat → Nat} {pk sn : Nat → Nat} {ck : Nat} (M : MsV h o nB nT tv pk sn ck) {i : Nat} (hi : i < 24) : pk i ≤ 8 := (M.2.2.2.1 i hi).2
theorem MsV.nx8 {h : Hp} {o nB nT : Nat} {tv : Nat → Nat → Nat} {pk sn : Nat → Nat} {ck : Nat} (M : MsV h o nB nT tv pk sn ck) {c : Nat} (hc : c ≤ 24) : nx pk c ≤ 8 := by
  unfold nx
  split
  · omega
  · exact M.pk8 (by omega)
section ModelA
variable {E : EnvX} {L : Nat} {h : Hp} {nB nT : Nat} {tv : Nat → Nat → Nat} {pk sn : Nat → Nat} {ck : Nat}
theorem k75 : akd 75 = 1 ∧ aln 75 = 660 := by decide
theorem in75 {k : Nat} (hk : k < 660) : inI 75 (nI k) := inI_of k75.1 (by rw [k75.2]; exact hk) (by rw [k75.2]; decide)
theorem lgc_gt (x y : Int64) : 0 < lg_cmp x y ↔ y < x := by
  unfold lg_cmp
  by_cases h1 : x > y
  · rw [if_pos h1]; exact ⟨fun _ => h1, fun _ => by decide⟩
  · rw [if_neg h1]
    by_cases h2 : x = y
    · rw [if_pos h2]; exact ⟨fun c => absurd c (by decide), fun c => absurd c h1⟩
    · rw [if_neg h2]; exact ⟨fun c => absurd c (by decide), fun c => absurd c h1⟩
theorem m_within (hE : EOk E) (hL : 1 ≤ L) (v a b : Int64) : RdI E L m_M_within 0 [.long v, .long a, .long b] h (if ¬ v < a ∧ ¬ b < v then 1 else 0) := by
  refine B_M_within hE hL ?_
  rw [lgc_lt, lgc_gt]
  refine ⟨fun c => ?_, fun c => ⟨fun c2 => ?_, fun c2 => ?_⟩⟩
  · rw [if_neg (fun q => q.1 c)]; exact ⟨rfl, rfl⟩
  · rw [if_neg (fun q => q.2 c2)]; exact ⟨rfl, rfl⟩
  · rw [if_pos ⟨c, c2⟩]; exact ⟨rfl, rfl⟩
theorem sub1_64 {n : Nat} (hn : n ≤ 100) : ((nI n - 1).toInt64).toInt = (n : Int) - 1 := by
  have e : (nI n - 1).toInt = (n : Int) - 1 := bx_int (by omega)
  have h1 : ((nI n - 1).toInt64).toInt = (nI n - 1).toInt := Int32.toInt_toInt64 _
  rw [h1, e]
theorem m_inRange {a n : Nat} (ha : a < 100) (hn : n ≤ 100) {v : Int64} : (¬ v < lN a ∧ ¬ (nI n - 1).toInt64 < v) ↔ ∃ i, a ≤ i ∧ i < n ∧ v = lN i := by
  rw [i64_lt, i64_lt, sub1_64 hn, pk_lT (show a < 2 ^ 63 by omega)]
  constructor
  · rintro ⟨h1, h2⟩
    refine ⟨v.toInt.toNat, by omega, by omega, ?_⟩
    rw [i64_eq, pk_lT (by omega)]
    omega
  · rintro ⟨i, h1, h2, rfl⟩
    rw [pk_lT (by omega)]
    omega
theorem m_isBox_yes (hE : EOk E) (hL : 2 ≤ L) (M : MdV h nB nT tv pk sn ck) {b : Nat} (hb : b < nB) : RdI E L m_M_isBox 74 [.long (lN b)] h 1 := by
  obtain ⟨⟨h8, h16, -⟩, ⟨e0, -⟩, -⟩ := M
  refine B_M_isBox hE (by omega) ⟨in75 (k := 0) (by omega), ?_⟩
  rw [show (0 : Int32).toNatClampNeg = 0 from rfl, e0]
  refine (m_within hE (by omega) _ _ _).use ?_
  rw [if_pos (show ¬ lN b < 0 ∧ ¬ (nI nB - 1).toInt64 < lN b from (m_inRange (a := 0) (by omega) (by omega)).mpr ⟨b, by omega, hb, rfl⟩)]
  exact ⟨Or.inr rfl, rfl, rfl⟩
theorem m_isBox_no (hE : EOk E) (hL : 2 ≤ L) (M : MdV h nB nT tv pk sn ck) {v : Int64} (hb : ∀ b, b < nB → v ≠ lN b) : RdI E L m_M_isBox 74 [.long v] h 0 := by
  obtain ⟨⟨h8, h16, -⟩, ⟨e0, -⟩, -⟩ := M
  refine B_M_isBox hE (by omega) ⟨in75 (k := 0) (by omega), ?_⟩
  rw [show (0 : Int32).toNatClampNeg = 0 from rfl, e0]
  refine (m_within hE (by omega) _ _ _).use ?_
  rw [if_neg (fun q => by
    obtain ⟨i, -, h2, h3⟩ := (m_inRange (a := 0) (by omega) (by omega)).mp q
    exact hb i h2 h3)]
  exact ⟨Or.inl rfl, rfl, rfl⟩
theorem m_isItem_yes (hE : EOk E) (hL : 3 ≤ L) (M : MdV h nB nT tv pk sn ck) {i : Nat} (hi : isIt nB nT i) : RdI E L m_M_isItem 74 [.long (lN i)] h 1 := by
  obtain ⟨⟨h8, h16, -⟩, ⟨e0, e1, -⟩, -⟩ := id M
  refine B_M_isItem hE (by omega) ?_
  by_cases hb : i < nB
  · exact (m_isBox_yes hE (by omega) M hb).use (brF' (by decide) ⟨rfl, rfl⟩)
  · have hi2 := hi.resolve_left hb
    refine (m_isBox_no hE (by omega) M (fun b hb2 e => hb ?_)).use (brT' rfl ⟨in75 (k := 1) (by omega), ?_⟩)
    · have := (pk_lEQ (a := i) (b := b) (by omega) (by omega)).mp e; omega
    · rw [show (1 : Int32).toNatClampNeg = 1 from rfl, e1, show (8 : Int32) = nI 8 from rfl, nI_add]
      refine (m_within hE (by omega) _ _ _).use ?_
      rw [if_pos (show ¬ lN i < 8 ∧ ¬ (nI (8 + nT) - 1).toInt64 < lN i from (m_inRange (a := 8) (by omega) (by omega)).mpr ⟨i, hi2.1, hi2.2, rfl⟩)]
      exact brF (by decide) ⟨rfl, rfl⟩
theorem m_isItem_no (hE : EOk E) (hL : 3 ≤ L) (M : MdV h nB nT tv pk sn ck) {v : Int64} (hi : ∀ i, isIt nB nT i → v ≠ lN i) : RdI E L m_M_isItem 74 [.long v] h 0 := by
  obtain ⟨⟨h8, h16, -⟩, ⟨e0, e1, -⟩, -⟩ := id M
  refine B_M_isItem hE (by omega) ((m_isBox_no hE (by omega) M (fun b hb e => hi b (Or.inl hb) e)).use (brT' rfl ⟨in75 (k := 1) (by omega), ?_⟩))
  rw [show (1 : Int32).toNatClampNeg = 1 from rfl, e1, show (8 : Int32) = nI 8 from rfl, nI_add]
  refine (m_within hE (by omega) _ _ _).use ?_
  rw [if_neg (fun q => by
    obtain ⟨i, h1, h2, h3⟩ := (m_inRange (a := 8) (by omega) (by omega)).mp q
    exact hi i (Or.inr ⟨h1, h2⟩) h3)]
  exact brT rfl ⟨rfl, rfl⟩
theorem isIt_dec (nB nT i : Nat) : isIt nB nT i ∨ ¬ isIt nB nT i := Classical.em _
/-- asked of a place of the row of items -/
theorem m_isItem (hE : EOk E) (hL : 3 ≤ L) (M : MdV h nB nT tv pk sn ck) {k : Nat} (hk : k < 24) : ∃ x : Int32, RdI E L m_M_isItem 74 [.long (nI k).toInt64] h x ∧ ((x = 1 ∧ isIt nB nT k) ∨ (x = 0 ∧ ¬ isIt nB nT k)) := by
  obtain ⟨⟨h8, h16, -⟩, -⟩ := id M
  rw [nI_l (by omega)]
  rcases isIt_dec nB nT k with q | q
  · exact ⟨1, m_isItem_yes hE hL M q, Or.inl ⟨rfl, q⟩⟩
  · refine ⟨0, m_isItem_no hE hL M (fun i hi e => q ?_), Or.inr ⟨rfl, q⟩⟩
    have := (pk_lEQ (a := k) (b := i) (by omega) (by rcases hi with z | z <;> omega)).mp e
    rw [this]; exact hi
theorem m_place (hE : EOk E) (hL : 1 ≤ L) (i k : Nat) : RdI E L m_M_place 0 [.int (nI i), .int (nI k)] h (nI (3 + 7 * i + k)) := by
  refine B_M_place hE hL ?_
  rw [show (3 : Int32) = nI 3 from rfl, show (7 : Int32) = nI 7 from rfl, nI_mul, nI_add, nI_add]
  exact ⟨rfl, rfl⟩
theorem m_of (hE : EOk E) (hL : 2 ≤ L) (M : MdV h nB nT tv pk sn ck) {i k : Nat} (hi : i < 24) (hk : k < 7) : RdI E L m_M_of 74 [.int (nI i), .int (nI k)] h (nI (tv i k)) := by
  refine B_M_of hE (by omega) ((m_place hE (by omega) i k).use ⟨in75 (by omega), ?_⟩)
  have := (M.2.2.1 i k hi hk).1
  rw [Nat.zero_add] at this
  rw [nIc (by omega), this]
  exact ⟨rfl, rfl⟩
theorem m_around (hE : EOk E) (hL : 1 ≤ L) (M : MdV h nB nT tv pk sn ck) {i : Nat} (hi : i < 24) : RdI E L m_M_around 74 [.int (nI i)] h (bx (pk i)) := by
  refine B_M_around hE hL ?_
  have := (M.2.2.2.1 i hi).1
  rw [Nat.zero_add] at this
  rw [show (171 : Int32) = nI 171 from rfl, nI_add, nIc (by omega), this]
  exact ⟨in75 (by omega), rfl, rfl⟩
theorem m_isDeepIn (hE : EOk E) (hL : 2 ≤ L) (M : MdV h nB nT tv pk sn ck) (hA : acy pk) {i d : Nat} (hi : i < 24) (hd : d ≤ 24) (h0 : d ≠ 0) : RdI E L m_M_isDeepIn 74 [.int (nI i), .int (bx d)] h (if wi pk d 8 (i + 1) = true then 1 else 0) := by
  refine B_M_isDeepIn hE (by omega) ((m_around hE (by omega) M hi).use ?_)
  have main : ∀ n j, j < 24 → itn pk n (pk j) = 0 → at_M_isDeepIn_6 E L h (fun y h' => y = (if wi pk d n (j + 1) = true then 1 else 0) ∧ h' = h) (bx d) (bx (pk j)) := by
    intro n
    induction n with
    | zero =>
      intro j hj hz
      have hz2 : pk j = 0 := hz
      rw [hz2]
      exact B_M_isDeepIn_6 (brT (by decide) ⟨rfl, rfl⟩)
    | succ n ih =>
      intro j hj hz
      have hp := M.pk8 hj
      refine B_M_isDeepIn_6 ?_
      rw [bx_m1 (by omega), bx_inj (by omega) (by omega)]
      refine ⟨fun q => ?_, fun q => ⟨fun q2 => ?_, fun q2 => ?_⟩⟩
      · have e : wi pk d (n + 1) (j + 1) = false := by
          have : ∀ m, wi pk d m 0 = false := fun m => by cases m <;> simp [wi]
          simp only [wi, nx_S, if_neg (Nat.succ_ne_zero j), q, if_neg (fun z : 0 = d => h0 z.symm), this]
        rw [e]; exact ⟨rfl, rfl⟩
      · obtain ⟨k, hk⟩ : ∃ k, pk j = k + 1 := ⟨pk j - 1, by omega⟩
        have e : wi pk d (n + 1) (j + 1) = wi pk d n (k + 1) := by
          simp only [wi, nx_S, if_neg (Nat.succ_ne_zero j), if_neg q2]; rw [hk]
        rw [e, hk, bx_S]
        refine (m_around hE (by omega) M (i := k) (by omega)).use ?_
        refine ih k (by omega) ?_
        rw [itn_s, hk, nx_S] at hz
        exact hz
      · have e : wi pk d (n + 1) (j + 1) = true := by
          simp only [wi, nx_S, if_neg (Nat.succ_ne_zero j), if_pos q2]
        rw [e]; exact ⟨rfl, rfl⟩
  have hz := hA (i + 1) (by omega)
  rw [itn_s, nx_S] at hz
  exact main 8 i hi hz
theorem m_isOver (hE : EOk E) (hL : 2 ≤ L) (M : MdV h nB nT tv pk sn ck) (hA : acy pk) {one i : Nat} (ho : one < 24) (hi : i < 24) : RdI E L m_M_isOver 74 [.int (nI one), .int (nI i)] h (if ow pk sn one 9 (i + 1) = true then 1 else 0) := by
  refine B_M_isOver hE (by omega) ?_
  have main : ∀ n c, c ≤ 24 → itn pk n c = 0 → at_M_isOver_2 E L h (fun y h' => y = (if ow pk sn one n c = true then 1 else 0) ∧ h' = h) (nI one) (bx c) := by
    intro n
    induction n with
    | zero =>
      intro c hc hz
      rw [show c = 0 from hz]
      exact B_M_isOver_2 (brT (by decide) ⟨rfl, rfl⟩)
    | succ n ih =>
      intro c hc hz
      cases c with
      | zero => exact B_M_isOver_2 (brT (by decide) ⟨by simp [ow], rfl⟩)
      | succ j =>
        rw [bx_S]
        have hp := M.pk8 (i := j) (by omega)
        have hp1 := M.pk8 ho
        have a1 := m_around hE (L := L - 1) (by omega) M (i := j) (by omega)
        have go : ¬ (pk j ≠ 0 ∧ pk one = pk j ∧ sn j < sn one) → at_M_isOver_2 E L h (fun y h' => y = (if ow pk sn one (n + 1) (j + 1) = true then 1 else 0) ∧ h' = h) (nI one) (bx (pk j)) := by
          intro hn
          have e : ow pk sn one (n + 1) (j + 1) = ow pk sn one n (pk j) := by
            simp only [ow, nx_S, if_neg (Nat.succ_ne_zero j), Nat.add_sub_cancel, if_neg hn]
          rw [e]
          exact ih (pk j) (by omega) (by rw [itn_s, nx_S] at hz; exact hz)
        refine B_M_isOver_2 (brF (nIm1 (by omega)) (a1.use ?_))
        rw [bx_m1 (by omega)]
        refine ⟨fun q => a1.use (go (fun z => z.1 q)), fun q => (m_around hE (by omega) M ho).use (a1.use ?_)⟩
        rw [bx_inj (by omega) (by omega)]
        refine ⟨fun q2 => a1.use (go (fun z => q2 z.2.1)), fun q2 => ?_⟩
        have s1 := M.2.2.2.2.1 one ho
        have s2 := M.2.2.2.2.1 j (by omega)
        rw [Nat.zero_add] at s1 s2
        rw [show (195 : Int32) = nI 195 from rfl, nI_add, nI_add, nIc (by omega), nIc (by omega), s1.1, s2.1, nIl (by omega) (by omega)]
        refine ⟨in75 (by omega), in75 (by omega), fun q3 => a1.use (go (fun z => by omega)), fun q3 => ?_⟩
        have e : ow pk sn one (n + 1) (j + 1) = true := by
          simp only [ow, nx_S, if_neg (Nat.succ_ne_zero j), Nat.add_sub_cancel, if_pos (show pk j ≠ 0 ∧ pk one = pk j ∧ sn j < sn one from ⟨q, q2, by omega⟩)]
        rw [e]; exact ⟨rfl, rfl⟩
  have h9 := main 9 (i + 1) (by omega) (hA (i + 1) (by omega))
  rw [bx_S] at h9
  exact h9
end ModelA
