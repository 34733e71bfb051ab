/-! ===== moves: laying in and lifting out keep what the invariant says ===== -/
theorem pig : ∀ (m : Nat) (f : Nat → Nat), (∀ k, k ≤ m → f k < m) → ∃ i j, i < j ∧ j ≤ m ∧ f i = f j := by
  intro m
  induction m with
  | zero => intro f hf; exact absurd (hf 0 (Nat.le_refl 0)) (Nat.not_lt_zero _)
  | succ m ih =>
    intro f hf
    by_cases hx : ∃ k, k ≤ m ∧ f k = f (m + 1)
    · obtain ⟨k, h1, h2⟩ := hx
      exact ⟨k, m + 1, by omega, Nat.le_refl _, h2⟩
    · have hn : ∀ k, k ≤ m → f k ≠ f (m + 1) := fun k hk e => hx ⟨k, hk, e⟩
      have hl := hf (m + 1) (Nat.le_refl _)
      obtain ⟨i, j, h1, h2, h3⟩ := ih (fun k => if f k = m then f (m + 1) else f k) (fun k hk => by
        have a1 := hf k (by omega)
        have a2 := hn k hk
        by_cases c : f k = m
        · simp only [if_pos c]; omega
        · simp only [if_neg c]; omega)
      refine ⟨i, j, h1, by omega, ?_⟩
      have a1 := hn i (by omega)
      have a2 := hn j (by omega)
      by_cases c : f i = m
      · by_cases d : f j = m
        · rw [c, d]
        · simp only [if_pos c, if_neg d] at h3; exact absurd h3.symm a2
      · by_cases d : f j = m
        · simp only [if_neg c, if_pos d] at h3; exact absurd h3 a1
        · simp only [if_neg c, if_neg d] at h3; exact h3
theorem nx_le8 {pk : Nat → Nat} (hp : ∀ i, i < 24 → pk i ≤ 8) {c : Nat} (hc : c ≤ 24) : nx pk c ≤ 8 := by
  unfold nx
  split
  · omega
  · exact hp _ (by omega)
theorem itn_l24 {pk : Nat → Nat} (hp : ∀ i, i < 24 → pk i ≤ 8) {c : Nat} (hc : c ≤ 24) : ∀ n, itn pk n c ≤ 24
  | 0 => hc
  | n + 1 => by
    rw [itn_end]
    have := nx_le8 hp (itn_l24 hp hc n)
    omega
theorem itn_z {pk : Nat → Nat} {c m n : Nat} (h : itn pk m c = 0) (hmn : m ≤ n) : itn pk n c = 0 := by
  rw [show n = m + (n - m) by omega, itn_add, h, itn_0]
theorem fin9 {pk : Nat → Nat} (hp : ∀ i, i < 24 → pk i ≤ 8) {c N : Nat} (hc : c ≤ 24) (hz : itn pk N c = 0) : itn pk 9 c = 0 := by
  refine Classical.byContradiction fun h9 => ?_
  have hne : ∀ k, k ≤ 9 → itn pk k c ≠ 0 := fun k hk e => h9 (itn_z e hk)
  obtain ⟨i, j, h1, h2, h3⟩ := pig 8 (fun k => itn pk (k + 1) c - 1) (fun k hk => by
    have a1 := hne (k + 1) (by omega)
    have a2 : itn pk (k + 1) c ≤ 8 := by rw [itn_end]; exact nx_le8 hp (itn_l24 hp hc k)
    show itn pk (k + 1) c - 1 < 8
    omega)
  have a1 := hne (i + 1) (by omega)
  have a2 := hne (j + 1) (by omega)
  have e : itn pk (j + 1) c = itn pk (i + 1) c := by
    have : itn pk (i + 1) c - 1 = itn pk (j + 1) c - 1 := h3
    omega
  have hcy : itn pk ((j - i - 1) + 1) (itn pk (i + 1) c) = itn pk (i + 1) c := by
    rw [← itn_add, show i + 1 + (j - i - 1 + 1) = j + 1 by omega]; exact e
  refine no_cyc a1 hcy N ?_
  rw [← itn_add]
  exact itn_z hz (by omega)
theorem wi_f {pk : Nat → Nat} {d : Nat} (hd : d ≠ 0) : ∀ {n c : Nat}, wi pk d n c = false → ∀ m, m < n → itn pk (m + 1) c ≠ d
  | 0, _, _, m, hm => absurd hm (Nat.not_lt_zero m)
  | n + 1, c, h, m, hm => by
    simp only [wi] at h
    by_cases c0 : c = 0
    · rw [c0, itn_0]; exact fun e => hd e.symm
    · rw [if_neg c0] at h
      by_cases c1 : nx pk c = d
      · rw [if_pos c1] at h; cases h
      · rw [if_neg c1] at h
        cases m with
        | zero => exact c1
        | succ m => rw [itn_s]; exact wi_f hd h m (by omega)
theorem itn_off {pk : Nat → Nat} {i v c : Nat} : ∀ {n : Nat}, (∀ m, m < n → itn pk m c ≠ i + 1) → itn (upN pk i v) n c = itn pk n c
  | 0, _ => rfl
  | n + 1, h => by
    rw [itn_end, itn_end, itn_off (fun m hm => h m (by omega))]
    have := h n (by omega)
    unfold nx upN
    by_cases c0 : itn pk n c = 0
    · rw [if_pos c0, if_pos c0]
    · rw [if_neg c0, if_neg c0, if_neg (by omega)]
theorem upN_same {f : Nat → Nat} {i v : Nat} : upN f i v i = v := if_pos rfl
theorem upN_ne {f : Nat → Nat} {i v k : Nat} (h : k ≠ i) : upN f i v k = f k := if_neg h
theorem upN_le {f : Nat → Nat} {i v c n : Nat} (h : ∀ k, k < n → f k ≤ c) (hv : v ≤ c) : ∀ k, k < n → upN f i v k ≤ c := fun k hk => by
  unfold upN
  split
  · exact hv
  · exact h k hk
theorem acy_put {pk : Nat → Nat} (hA : acy pk) (hp : ∀ i, i < 24 → pk i ≤ 8) {i b : Nat} (hb : b < 8) (hib : i ≠ b) (hw : wi pk (i + 1) 8 (b + 1) = false) : acy (upN pk i (b + 1)) := by
  have hp2 : ∀ k, k < 24 → upN pk i (b + 1) k ≤ 8 := upN_le hp (by omega)
  have h1 : itn (upN pk i (b + 1)) 9 (b + 1) = 0 := by
    rw [itn_off (fun m hm => ?_)]
    · exact hA _ (by omega)
    · cases m with
      | zero => show b + 1 ≠ i + 1; omega
      | succ m => exact wi_f (by omega) hw m (by omega)
  intro c hc
  by_cases hx : ∀ m, m < 9 → itn pk m c ≠ i + 1
  · rw [itn_off hx]; exact hA c hc
  · have hx2 : ∃ m, itn pk m c = i + 1 := Classical.byContradiction fun h => hx (fun m _ e => h ⟨m, e⟩)
    have key : ∀ m, (∃ k, k ≤ m ∧ itn pk k c = i + 1) → ∃ N, itn (upN pk i (b + 1)) N c = 0 := by
      intro m
      induction m with
      | zero =>
        rintro ⟨k, hk, e⟩
        have e0 : itn pk 0 c = i + 1 := by rw [show (0 : Nat) = k by omega]; exact e
        refine ⟨1 + 9, ?_⟩
        rw [itn_add, show itn (upN pk i (b + 1)) 1 c = nx (upN pk i (b + 1)) c from rfl, show c = i + 1 from e0, nx_S, upN_same]
        exact h1
      | succ m ih =>
        rintro ⟨k, hk, e⟩
        by_cases q : ∃ k, k ≤ m ∧ itn pk k c = i + 1
        · exact ih q
        · have q2 : ∀ j, j < m + 1 → itn pk j c ≠ i + 1 := fun j hj e => q ⟨j, by omega, e⟩
          have e2 : k = m + 1 := by
            rcases Nat.lt_or_ge k (m + 1) with z | z
            · exact absurd e (q2 k z)
            · omega
          refine ⟨(m + 1) + (1 + 9), ?_⟩
          rw [itn_add, itn_off q2, ← e2, e, itn_add, show itn (upN pk i (b + 1)) 1 (i + 1) = nx (upN pk i (b + 1)) (i + 1) from rfl, nx_S, upN_same]
          exact h1
    obtain ⟨m, hm⟩ := hx2
    obtain ⟨N, hN⟩ := key m ⟨m, Nat.le_refl _, hm⟩
    exact fin9 hp2 hc hN
theorem acy_take {pk : Nat → Nat} (hA : acy pk) (i : Nat) : acy (upN pk i 0) := by
  intro c hc
  have key : ∀ n, itn (upN pk i 0) n c = 0 ∨ itn (upN pk i 0) n c = itn pk n c := by
    intro n
    induction n with
    | zero => exact Or.inr rfl
    | succ n ih =>
      rw [itn_end, itn_end]
      rcases ih with q | q
      · rw [q]; exact Or.inl rfl
      · rw [q]
        unfold nx upN
        by_cases c0 : itn pk n c = 0
        · rw [if_pos c0]; exact Or.inl rfl
        · rw [if_neg c0, if_neg c0]
          by_cases c1 : itn pk n c - 1 = i
          · rw [if_pos c1]; exact Or.inl rfl
          · rw [if_neg c1]; exact Or.inr rfl
  rcases key 9 with q | q
  · exact q
  · rw [q]; exact hA c hc
theorem acy_none : acy (fun _ => 0) := fun c _ => by
  show itn (fun _ => 0) 9 c = 0
  rw [itn_s]
  have : nx (fun _ => 0) c = 0 := by unfold nx; split <;> rfl
  rw [this]; exact itn_0 _ 8
theorem OrdV_none {sn : Nat → Nat} {ck : Nat} (h : ∀ i, i < 24 → sn i ≤ ck) : OrdV (fun _ => 0) (fun _ => 0) sn ck := ⟨fun _ _ q => absurd rfl q, h, fun _ _ _ _ q => absurd rfl q⟩
theorem OrdV_put {pk lv sn : Nat → Nat} {ck i b : Nat} (hO : OrdV pk lv sn ck) (h0 : pk i = 0) : OrdV (upN pk i (b + 1)) (upN lv i (cnt pk (b + 1))) (upN sn i (ck + 1)) (ck + 1) := by
  refine ⟨fun j hj hq => ?_, upN_le (fun k hk => Nat.le_succ_of_le (hO.2.1 k hk)) (Nat.le_refl _), fun j k hj hk q1 q2 q3 => ?_⟩
  rotate_left
  · have b1 := hO.2.1 j hj
    have b2 := hO.2.1 k hk
    by_cases e1 : j = i
    · by_cases e2 : k = i
      · rw [e1, e2]
      · rw [e1, upN_same, upN_ne e2] at q3; omega
    · by_cases e2 : k = i
      · rw [e2, upN_same, upN_ne e1] at q3; omega
      · rw [upN_ne e1] at q1 q2 q3
        rw [upN_ne e2] at q2 q3
        exact hO.2.2 j k hj hk q1 q2 q3
  by_cases e : j = i
  · subst e
    rw [upN_same]
    unfold rk cnt
    refine sE_cong (fun k hk => ?_)
    rw [upN_same, upN_same]
    by_cases e2 : k = j
    · subst e2
      rw [if_neg (by omega), upN_same, upN_same, if_neg (fun z => by omega)]
    · rw [upN_ne e2, upN_ne e2]
      have := hO.2.1 k hk
      by_cases c : pk k = b + 1
      · rw [if_pos c, if_pos ⟨c, by omega⟩]
      · rw [if_neg c, if_neg (fun z => c z.1)]
  · rw [upN_ne e] at hq ⊢
    rw [hO.1 j hj hq]
    unfold rk
    refine sE_cong (fun k hk => ?_)
    rw [upN_ne e, upN_ne e]
    by_cases e2 : k = i
    · subst e2
      rw [upN_same, upN_same]
      have := hO.2.1 j hj
      rw [if_neg (fun z => by omega), if_neg (fun z => by omega)]
    · rw [upN_ne e2, upN_ne e2]
theorem sE_z0 {f : Nat → Nat} {n : Nat} (h : sE f n = 0) {k : Nat} (hk : k < n) : f k = 0 := by
  have := sE_part f hk; omega
theorem lft_top {pk lv : Nat → Nat} {i : Nat} (hi : i < 24) (hq : pk i ≠ 0) (h : lft pk lv (bO 0) 9 (i + 1) = 0) : ∀ j, j < 24 → pk j = pk i → ¬ lv i < lv j := by
  intro j hj e hl
  have h1 : mAb pk lv (bO 0) (i + 1) = 0 := by
    simp only [lft, if_neg (Nat.succ_ne_zero i), Nat.add_sub_cancel] at h
    rw [if_neg (by rw [bO_0 (by omega)]; decide)] at h
    omega
  unfold mAb at h1
  rw [nx_S, if_neg hq] at h1
  have h2 := sE_z0 h1 hj
  rw [Nat.add_sub_cancel, if_pos ⟨e, hl, bO_0 (by omega)⟩] at h2
  exact absurd h2 (by decide)
theorem OrdV_take {pk lv sn : Nat → Nat} {ck i : Nat} (hO : OrdV pk lv sn ck) (hi : i < 24) (htop : pk i ≠ 0 → ∀ j, j < 24 → pk j = pk i → ¬ lv i < lv j) : OrdV (upN pk i 0) lv sn ck := by
  refine ⟨fun j hj hq => ?_, hO.2.1, fun j k hj hk q1 q2 q3 => ?_⟩
  rotate_left
  · by_cases e1 : j = i
    · rw [e1, upN_same] at q1; exact absurd rfl q1
    · by_cases e2 : k = i
      · rw [e2, upN_same] at q2; exact absurd q2 q1
      · rw [upN_ne e1] at q1 q2
        rw [upN_ne e2] at q2
        exact hO.2.2 j k hj hk q1 q2 q3
  by_cases e : j = i
  · subst e; rw [upN_same] at hq; exact absurd rfl hq
  · rw [upN_ne e] at hq
    rw [hO.1 j hj hq]
    unfold rk
    refine sE_cong (fun k hk => ?_)
    rw [upN_ne e]
    by_cases e2 : k = i
    · subst e2
      rw [upN_same]
      rw [if_neg (fun z => ?_), if_neg (fun z => by omega)]
      have hk0 : pk k ≠ 0 := by rw [z.1]; exact hq
      refine htop hk0 j hj z.1.symm ?_
      rw [hO.1 k hi hk0, hO.1 j hj hq]
      exact (rk_lt hi z.1).mpr z.2
    · rw [upN_ne e2]
/-! the reference's row after a move -/
section MovesM
variable {E : EnvX} {L : Nat} {h : Hp} {nB nT : Nat} {tv : Nat → Nat → Nat} {pk lv sn : Nat → Nat} {ck : Nat}
def sC3 (h : Hp) (i b ck : Nat) : Hp := sA (sA (sA h 75 (171 + i) (nI (b + 1))) 75 219 (nI (ck + 1))) 75 (195 + i) (nI (ck + 1))
theorem sC3_MsV (M : MdV h nB nT tv pk sn ck) (hck : ck + 1 < 1073741824) {i b : Nat} (hi : isIt nB nT i) (hb : b < nB) : MdV (sC3 h i b ck) nB nT tv (upN pk i (b + 1)) (upN sn i (ck + 1)) (ck + 1) := by
  obtain ⟨⟨h8, h16, hc⟩, ⟨e0, e1, e2, e3⟩, m1, m2, m3, m4⟩ := M
  have hi24 : i < 24 := by rcases hi with q | q <;> omega
  have rd : ∀ k, (sC3 h i b ck).2.1 75 k = if k = 195 + i then nI (ck + 1) else if k = 219 then nI (ck + 1) else if k = 171 + i then nI (b + 1) else h.2.1 75 k := fun k => by
    unfold sC3
    rw [sA_A, if_pos rfl, sA_A, if_pos rfl, sA_A, if_pos rfl]
  refine ⟨⟨h8, h16, hck⟩, ⟨?_, ?_, ?_, ?_⟩, fun j k hj hk => ?_, fun j hj => ?_, fun j hj => ?_, fun j hj q => ?_⟩
  · rw [rd, if_neg (by omega), if_neg (by omega), if_neg (by omega)]; exact e0
  · rw [rd, if_neg (by omega), if_neg (by omega), if_neg (by omega)]; exact e1
  · rw [rd, if_neg (by omega), if_neg (by omega), if_neg (by omega)]; exact e2
  · rw [rd, if_neg (by omega), if_pos (by omega)]
  · rw [rd, if_neg (by omega), if_neg (by omega), if_neg (by omega)]; exact m1 j k hj hk
  · rw [rd, if_neg (by omega), if_neg (by omega)]
    unfold upN
    by_cases e : j = i
    · rw [if_pos (by omega), if_pos e]; exact ⟨rfl, by omega⟩
    · rw [if_neg (by omega), if_neg e]; exact m2 j hj
  · unfold upN
    by_cases e : j = i
    · rw [rd, if_pos (by omega), if_pos e]; exact ⟨rfl, by omega⟩
    · rw [rd, if_neg (by omega), if_neg (by omega), if_neg (by omega), if_neg e]; exact m3 j hj
  · rw [upN_ne (fun e => q (by rw [e]; exact hi))]; exact m4 j hj q
theorem m_comes (hE : EOk E) (hL : 1 ≤ L) (M : MdV h nB nT tv pk sn ck) {i b : Nat} (hi : i < 24) (hb : b < 8) : WrV E L m_M_comes 74 [.int (nI i), .int (nI b)] h (sC3 h i b ck) := by
  refine B_M_comes hE hL ?_
  have e3 := M.2.1.2.2.2
  rw [Nat.zero_add] at e3
  rw [show (171 : Int32) = nI 171 from rfl, show (195 : Int32) = nI 195 from rfl, show (219 : Int32) = nI 219 from rfl, nI_add, nI_add, nIc (by omega), nIc (by omega), nIc (by omega), nI_1]
  have r1 : (sA h 75 (171 + i) (nI (b + 1))).2.1 75 219 = nI ck := by rw [sA_A, if_pos rfl, if_neg (by omega)]; exact e3
  rw [r1, nI_1]
  have r2 : (sA (sA h 75 (171 + i) (nI (b + 1))) 75 219 (nI (ck + 1))).2.1 75 219 = nI (ck + 1) := by rw [sA_A, if_pos rfl, if_pos rfl]
  rw [r2]
  exact ⟨in75 (by omega), in75 (by omega), in75 (by omega), in75 (by omega), in75 (by omega), rfl⟩
theorem sT_MsV (M : MdV h nB nT tv pk sn ck) {i : Nat} (hi : i < 24) : MdV (sA h 75 (171 + i) 0) nB nT tv (upN pk i 0) sn ck := by
  obtain ⟨⟨h8, h16, hc⟩, ⟨e0, e1, e2, e3⟩, m1, m2, m3, m4⟩ := M
  have rd : ∀ k, (sA h 75 (171 + i) 0).2.1 75 k = if k = 171 + i then 0 else h.2.1 75 k := fun k => by
    rw [sA_A, if_pos rfl]
  refine ⟨⟨h8, h16, hc⟩, ⟨?_, ?_, ?_, ?_⟩, fun j k hj hk => ?_, fun j hj => ?_, fun j hj => ?_, fun j hj q => ?_⟩
  · rw [rd, if_neg (by omega)]; exact e0
  · rw [rd, if_neg (by omega)]; exact e1
  · rw [rd, if_neg (by omega)]; exact e2
  · rw [rd, if_neg (by omega)]; exact e3
  · rw [rd, if_neg (by omega)]; exact m1 j k hj hk
  · rw [rd]
    unfold upN
    by_cases e : j = i
    · rw [if_pos (by omega), if_pos e]; exact ⟨rfl, by omega⟩
    · rw [if_neg (by omega), if_neg e]; exact m2 j hj
  · rw [rd, if_neg (by omega)]; exact m3 j hj
  · unfold upN
    split
    · rfl
    · exact m4 j hj q
end MovesM
/-! nothing that lasts has changed but what lies where -/
def perF2 : List (Nat × Nat) := [(14, 1), (14, 2), (16, 1), (16, 2), (18, 1), (18, 2), (20, 1), (20, 2), (9, 2), (9, 4), (9, 5), (74, 5), (74, 13), (74, 14), (25, 1), (25, 2), (30, 1), (30, 2)]
def perA2 : List Nat := [10, 15, 17, 19, 21, 24, 26, 28, 29, 31, 33, 34, 76, 77, 93, 94, 95]
def EqT (h h' : Hp) : Prop := (∀ p ∈ perF2, h'.1 p.1 p.2 = h.1 p.1 p.2) ∧ (∀ q ∈ perA2, h'.2.1 q = h.2.1 q ∧ h'.2.2 q = h.2.2 q) ∧ ∀ k, 220 ≤ k → h'.2.1 75 k = h.2.1 75 k
theorem EqT.rfl' {h : Hp} : EqT h h := ⟨fun _ _ => rfl, fun _ _ => ⟨rfl, rfl⟩, fun _ _ => rfl⟩
theorem EqT.trans {h h1 h2 : Hp} (a : EqT h h1) (b : EqT h1 h2) : EqT h h2 := ⟨fun p hp => (b.1 p hp).trans (a.1 p hp), fun q hq => ⟨(b.2.1 q hq).1.trans (a.2.1 q hq).1, (b.2.1 q hq).2.trans (a.2.1 q hq).2⟩, fun k hk => (b.2.2 k hk).trans (a.2.2 k hk)⟩
theorem EqS.t {h h' : Hp} (e : EqS h h') : EqT h h' := ⟨fun p hp => e.1 p (List.mem_cons_of_mem _ (List.mem_cons_of_mem _ hp)), fun q hq => e.2 q ((show ∀ q ∈ perA2, q ∈ persA by decide) q hq), fun k _ => by rw [e.a 75]⟩
theorem EqT.f {h h' : Hp} (e : EqT h h') (q k : Nat) (hp : (q, k) ∈ perF2 := by decide) : h'.1 q k = h.1 q k := e.1 (q, k) hp
theorem EqT.a {h h' : Hp} (e : EqT h h') (q : Nat) (hp : q ∈ perA2 := by decide) : h'.2.1 q = h.2.1 q := (e.2.1 q hp).1
theorem EqT.l {h h' : Hp} (e : EqT h h') (q : Nat) (hp : q ∈ perA2 := by decide) : h'.2.2 q = h.2.2 q := (e.2.1 q hp).2
theorem EqT.of {F : Nat → Prop} {h h' : Hp} (e : EqO F h h') (h1 : ∀ p ∈ perF2, ¬ F p.1) (h2 : ∀ q ∈ perA2, ¬ F q) (h3 : ¬ F 75) : EqT h h' := ⟨fun p hp => by rw [(e p.1 (h1 p hp)).1], fun q hq => (e q (h2 q hq)).2, fun k _ => by rw [(e 75 h3).2.1]⟩
theorem EqT.s75 {h : Hp} {k : Nat} {v : Int32} (hk : k < 220) : EqT h (sA h 75 k v) := ⟨fun _ _ => rfl, fun q hq => ⟨if_neg (fun e : q = 75 => (show ∀ q ∈ perA2, q ≠ 75 by decide) q hq e), rfl⟩, fun j hj => by rw [sA_A, if_pos rfl, if_neg (by omega)]⟩
theorem RowsR.keepT {h h' : Hp} (R : RowsR h) (e : EqT h h') : RowsR h' := by
  intro r hr
  have h0 := R r hr
  have f1 : h'.1 (14 + 2 * r) 2 = h.1 (14 + 2 * r) 2 ∧ h'.1 (14 + 2 * r) 1 = h.1 (14 + 2 * r) 1 ∧ h'.2.2 (15 + 2 * r) = h.2.2 (15 + 2 * r) := by
    rcases (show r = 0 ∨ r = 1 ∨ r = 2 ∨ r = 3 by omega) with rfl | rfl | rfl | rfl
    · exact ⟨e.f 14 2, e.f 14 1, e.l 15⟩
    · exact ⟨e.f 16 2, e.f 16 1, e.l 17⟩
    · exact ⟨e.f 18 2, e.f 18 1, e.l 19⟩
    · exact ⟨e.f 20 2, e.f 20 1, e.l 21⟩
  rw [f1.1, f1.2.1, f1.2.2, e.a 93, e.a 94, e.l 95]
  exact h0
theorem TapeR.keepT {h h' : Hp} (R : TapeR h) (e : EqT h h') : TapeR h' := by
  unfold TapeR
  rw [e.f 9 2, e.f 74 5, e.a 10, e.a 77]
  exact R
theorem FaultR.keepT {h h' : Hp} (R : FaultR h) (e : EqT h h') : FaultR h' := by
  unfold FaultR
  rw [e.f 9 4, e.f 74 13, e.f 9 5, e.f 74 14]
  exact R
theorem MsV_eqT {h h' : Hp} {o nB nT : Nat} {tv : Nat → Nat → Nat} {pk sn : Nat → Nat} {ck : Nat} (M : MsV h o nB nT tv pk sn ck) (a : ∀ k, o ≤ k → h'.2.1 75 k = h.2.1 75 k) : MsV h' o nB nT tv pk sn ck := by
  obtain ⟨m0, ⟨e0, e1, e2, e3⟩, m1, m2, m3, m4⟩ := M
  exact ⟨m0, ⟨by rw [a _ (by omega)]; exact e0, by rw [a _ (by omega)]; exact e1, by rw [a _ (by omega)]; exact e2, by rw [a _ (by omega)]; exact e3⟩, fun i k hi hk => by rw [a _ (by omega)]; exact m1 i k hi hk, fun i hi => by rw [a _ (by omega)]; exact m2 i hi, fun i hi => by rw [a _ (by omega)]; exact m3 i hi, m4⟩
theorem CurR_eqT {h h' : Hp} {s y o K : Nat} (C : CurR h s y o K) (a : h'.1 s 1 = h.1 s 1) (b : h'.1 s 2 = h.1 s 2) (c : h'.2.1 (s + 1) = h.2.1 (s + 1)) (d : h'.2.1 (y + 1) = h.2.1 (y + 1)) (f : h'.2.1 (y + 2) = h.2.1 (y + 2)) (g : ∀ k, o ≤ k → h'.2.1 75 k = h.2.1 75 k) : CurR h' s y o K := by
  obtain ⟨nB, nT, tv, pk, lv, sn, ck, h1, h2, h3, h4, h5⟩ := C
  exact ⟨nB, nT, tv, pk, lv, sn, ck, h1, StV_eq h2 a b c, LyV_eq h3 d f, MsV_eqT h4 g, h5⟩
theorem ImgR.keepT {h h' : Hp} {K : Nat} (R : ImgR h K) (e : EqT h h') : ImgR h' K := by
  intro i hi
  have h0 := R i hi
  rw [e.a 24, e.a 76]
  refine h0.elim Or.inl (fun q => Or.inr ⟨q.1, q.2.1, ?_⟩)
  rcases (show i = 0 ∨ i = 1 by omega) with rfl | rfl
  · exact CurR_eqT q.2.2 (e.f 25 1) (e.f 25 2) (e.a 26) (e.a 28) (e.a 29) (fun k hk => e.2.2 k (by omega))
  · exact CurR_eqT q.2.2 (e.f 30 1) (e.f 30 2) (e.a 31) (e.a 33) (e.a 34) (fun k hk => e.2.2 k (by omega))
theorem Inv.move {h h' : Hp} {K K' : Nat} (I : Inv h K) (e : EqT h h') (C : CurR h' 1 3 0 K') (hz : PickZ h') (h1 : K ≤ K') (h2 : K' ≤ 100000) : Inv h' K' := by
  obtain ⟨-, i1, i2, i3, i4, i5, i6⟩ := I
  exact ⟨h2, C, i2.keepT e, i3.keepT e, i4.keepT e, (i5.keepT e).wk h1, hz⟩
