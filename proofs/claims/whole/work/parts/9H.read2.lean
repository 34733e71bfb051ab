/-! ===== the class's reader ===== -/
section ReadX
variable {E : EnvX} {L : Nat} {h : Hp} {T : Nat → Nat} {n : Nat}
def rTp (h : Hp) (T : Nat → Nat) (n : Nat) : Prop := n ≤ 900 ∧ h.1 9 3 = nI n ∧ ∀ p, p < n → h.2.1 10 p = nI (T p) ∧ T p < 256
theorem rTp.b (t : rTp h T n) (p : Nat) : rSg T n p < 2147483648 := by
  have := rSg_lt (T := T) (n := n) (fun q hq => (t.2.2 q hq).2) p
  omega
theorem rTp.a (t : rTp h T n) (p : Nat) : rAh T n p < 2147483648 := by
  unfold rAh
  split
  · omega
  · exact t.b _
theorem rd_sign (hE : EOk E) (hL : 1 ≤ L) (t : rTp h T n) {p : Nat} (hp : p < 2147483648) : RdI E L m_Reader_sign 9 [.int (nI p)] h (nI (rSg T n p)) := by
  obtain ⟨t1, t2, t3⟩ := t
  refine B_Reader_sign hE hL (brF (nIneg hp) ?_)
  rw [t2, nIl (by omega) hp]
  refine ⟨fun c => ?_, fun c => ?_⟩
  · rw [rSg_n c]; exact ⟨rfl, rfl⟩
  · have c' : p < n := by omega
    rw [nIc hp, (t3 p c').1, rSg_y c']
    exact ⟨inI_of k10.1 (by rw [k10.2.1]; omega) (by rw [k10.2.1]; decide), rfl, rfl⟩
theorem rAh_s (p : Nat) : rAh T n (p + 1) = rSg T n p := by
  unfold rAh
  rw [if_neg (by omega), Nat.add_sub_cancel]
theorem rd_ahead (hE : EOk E) (hL : 1 ≤ L) (t : rTp h T n) {p : Nat} (hp : p < 2147483648) : RdI E L m_Reader_sign 9 [.int (nI p - 1)] h (nI (rAh T n p)) := by
  cases p with
  | zero => exact B_Reader_sign hE hL (brT (by decide) ⟨rfl, rfl⟩)
  | succ p =>
    rw [nI_pred p, rAh_s]
    exact rd_sign hE hL t (by omega)
theorem rd_isLetter (hE : EOk E) (hL : 1 ≤ L) {c : Nat} (hc : c < 2147483648) : RdI E L m_Reader_isLetter 0 [.int (nI c)] h (if rLt c = true then 1 else 0) := by
  refine B_Reader_isLetter hE hL ?_
  rw [show (97 : Int32) = nI 97 from rfl, show (122 : Int32) = nI 122 from rfl, nIt hc (by decide), nIt (by decide) hc]
  refine ⟨fun q => ?_, fun q => ⟨fun q2 => ?_, fun q2 => ?_⟩⟩
  · rw [if_neg (fun z => by have := rLt_iff.mp z; omega)]; exact ⟨rfl, rfl⟩
  · rw [if_neg (fun z => by have := rLt_iff.mp z; omega)]; exact ⟨rfl, rfl⟩
  · rw [if_pos (rLt_iff.mpr (by omega))]; exact ⟨rfl, rfl⟩
theorem rd_isDigit (hE : EOk E) (hL : 1 ≤ L) {c : Nat} (hc : c < 2147483648) : RdI E L m_Reader_isDigit 0 [.int (nI c)] h (if rDg c = true then 1 else 0) := by
  refine B_Reader_isDigit hE hL ?_
  rw [show (48 : Int32) = nI 48 from rfl, show (57 : Int32) = nI 57 from rfl, nIt hc (by decide), nIt (by decide) hc]
  refine ⟨fun q => ?_, fun q => ⟨fun q2 => ?_, fun q2 => ?_⟩⟩
  · rw [if_neg (fun z => by have := rDg_iff.mp z; omega)]; exact ⟨rfl, rfl⟩
  · rw [if_neg (fun z => by have := rDg_iff.mp z; omega)]; exact ⟨rfl, rfl⟩
  · rw [if_pos (rDg_iff.mpr (by omega))]; exact ⟨rfl, rfl⟩
theorem rBeg_iff {p : Nat} : rBeg T n p = true ↔ rSg T n p ≠ 10 ∧ rSg T n p ≠ 32 ∧ ¬ (rLt (rSg T n p) = true ∧ rLt (rAh T n p) = true) ∧ ¬ (rDg (rSg T n p) = true ∧ rDg (rAh T n p) = true) := by
  unfold rBeg
  cases rLt (rSg T n p) <;> cases rLt (rAh T n p) <;> cases rDg (rSg T n p) <;> cases rDg (rAh T n p) <;> simp
theorem rd_begins (hE : EOk E) (hL : 2 ≤ L) (t : rTp h T n) {p : Nat} (hp : p < 2147483648) : RdI E L m_Reader_beginsToken 9 [.int (nI p)] h (if rBeg T n p = true then 1 else 0) := by
  have hs := t.b p
  have ha := t.a p
  refine B_Reader_beginsToken hE (by omega) ((rd_sign hE (by omega) t hp).use ((rd_ahead hE (by omega) t hp).use ((rd_isLetter hE (by omega) hs).use ?_)))
  have fin1 : (rLt (rSg T n p) = true ∧ rLt (rAh T n p) = true) ∨ (rDg (rSg T n p) = true ∧ rDg (rAh T n p) = true) → (0 : Int32) = (if rBeg T n p = true then 1 else 0) := fun q => by
    rw [if_neg (fun z => q.elim (rBeg_iff.mp z).2.2.1 (rBeg_iff.mp z).2.2.2)]
  have e10 : nI (rSg T n p) = 10 ↔ rSg T n p = 10 := by rw [show (10 : Int32) = nI 10 from rfl]; exact nIe hs (by decide)
  have e32 : nI (rSg T n p) = 32 ↔ rSg T n p = 32 := by rw [show (32 : Int32) = nI 32 from rfl]; exact nIe hs (by decide)
  have f1 : ((rLt (rSg T n p) = true ∧ rLt (rAh T n p) = true) ∨ (rDg (rSg T n p) = true ∧ rDg (rAh T n p) = true)) → ((nI (rSg T n p) = 10 → (0 : Int32) = (if rBeg T n p = true then 1 else 0) ∧ h = h) ∧ (¬ nI (rSg T n p) = 10 → ((nI (rSg T n p) = 32 → (0 : Int32) = (if rBeg T n p = true then 1 else 0) ∧ h = h) ∧ (¬ nI (rSg T n p) = 32 → ((¬ (1 : Int32) = 0 → (0 : Int32) = (if rBeg T n p = true then 1 else 0) ∧ h = h) ∧ ((1 : Int32) = 0 → (1 : Int32) = (if rBeg T n p = true then 1 else 0) ∧ h = h)))))) := fun q => ⟨fun _ => ⟨fin1 q, rfl⟩, fun _ => ⟨fun _ => ⟨fin1 q, rfl⟩, fun _ => ⟨fun _ => ⟨fin1 q, rfl⟩, fun z => absurd z (by decide)⟩⟩⟩
  have f0 : ¬ (rLt (rSg T n p) = true ∧ rLt (rAh T n p) = true) → ¬ (rDg (rSg T n p) = true ∧ rDg (rAh T n p) = true) → ((nI (rSg T n p) = 10 → (0 : Int32) = (if rBeg T n p = true then 1 else 0) ∧ h = h) ∧ (¬ nI (rSg T n p) = 10 → ((nI (rSg T n p) = 32 → (0 : Int32) = (if rBeg T n p = true then 1 else 0) ∧ h = h) ∧ (¬ nI (rSg T n p) = 32 → ((¬ (0 : Int32) = 0 → (0 : Int32) = (if rBeg T n p = true then 1 else 0) ∧ h = h) ∧ ((0 : Int32) = 0 → (1 : Int32) = (if rBeg T n p = true then 1 else 0) ∧ h = h)))))) := fun q1 q2 => by
    refine ⟨fun c => ⟨?_, rfl⟩, fun c => ⟨fun c2 => ⟨?_, rfl⟩, fun c2 => ⟨fun z => absurd rfl z, fun _ => ⟨?_, rfl⟩⟩⟩⟩
    · rw [if_neg (fun z => (rBeg_iff.mp z).1 (e10.mp c))]
    · rw [if_neg (fun z => (rBeg_iff.mp z).2.1 (e32.mp c2))]
    · rw [if_pos (rBeg_iff.mpr ⟨fun z => c (e10.mpr z), fun z => c2 (e32.mpr z), q1, q2⟩)]
  have g28 : ¬ (rLt (rSg T n p) = true ∧ rLt (rAh T n p) = true) → at_Reader_beginsToken_28 E L h (fun y h' => y = (if rBeg T n p = true then 1 else 0) ∧ h' = h) (nI (rSg T n p)) (nI (rAh T n p)) := fun q1 => by
    refine B_Reader_beginsToken_28 ((rd_isDigit hE (by omega) hs).use ?_)
    by_cases d1 : rDg (rSg T n p) = true
    · rw [if_pos d1]
      refine brF (by decide) ((rd_isDigit hE (by omega) ha).use ?_)
      by_cases d2 : rDg (rAh T n p) = true
      · rw [if_pos d2]
        exact brF (by decide) (f1 (Or.inr ⟨d1, d2⟩))
      · rw [if_neg d2]
        exact brT rfl (f0 q1 (fun z => d2 z.2))
    · rw [if_neg d1]
      exact brT rfl (f0 q1 (fun z => d1 z.1))
  by_cases c1 : rLt (rSg T n p) = true
  · rw [if_pos c1]
    refine brF (by decide) ((rd_isLetter hE (by omega) ha).use ?_)
    by_cases c2 : rLt (rAh T n p) = true
    · rw [if_pos c2]
      exact brF' (by decide) (f1 (Or.inl ⟨c1, c2⟩))
    · rw [if_neg c2]
      exact brT' rfl (g28 (fun z => c2 z.2))
  · rw [if_neg c1]
    exact brT rfl (g28 (fun z => c1 z.1))
theorem sBy_len {ln : Nat} (h : ln ≤ 2) : (sBy ln).length ≤ 31 := by
  rcases (show ln = 0 ∨ ln = 1 ∨ ln = 2 by omega) with rfl | rfl | rfl <;> decide
theorem rd_pat (hE : EOk E) (hL : 1 ≤ L) {ln s : Nat} (hl : ln ≤ 2) (hs : s < 2147483648) : RdI E L m_Reader_patternSign 0 [.ref (950 + ln), .int (nI s)] h (nI (rPN ln s)) := by
  have h31 := sBy_len hl
  obtain ⟨p1, p2⟩ := rPN_S hl s
  refine B_Reader_patternSign hE hL (brF (nIneg hs) ⟨⟨by omega, by omega⟩, by decide, ?_⟩)
  rw [Nat.add_sub_cancel_left, nIl (by omega) hs]
  refine ⟨fun c => ?_, fun c => ⟨⟨by omega, by omega⟩, by decide, vp_in_nI (by omega) (by omega), ?_, rfl⟩⟩
  · rw [p2 c]; exact ⟨rfl, rfl⟩
  · rw [nIc hs, p1]
theorem rPN_0 (s : Nat) : rPN 0 s = 0 := by
  show ([] : List Nat).getD s 0 = 0
  simp
theorem rd_pat0 (hE : EOk E) (hL : 1 ≤ L) (v : Int32) : RdI E L m_Reader_patternSign 0 [.ref 950, .int v] h 0 := by
  refine B_Reader_patternSign hE hL ⟨fun _ => ⟨rfl, rfl⟩, fun c => ⟨⟨by decide, by decide⟩, by decide, brT ?_ ⟨rfl, rfl⟩⟩⟩
  show nI 0 ≤ v
  rw [i32_le]; rw [i32_lt] at c
  have e : (nI 0).toInt = 0 := rfl
  have e2 : (0 : Int32).toInt = 0 := rfl
  omega
theorem rd_behind (hE : EOk E) (hL : 2 ≤ L) (t : rTp h T n) {ln s p : Nat} (hl : ln ≤ 2) (hs : s ≤ 31) (hp : p ≤ n) : RdI E L m_Reader_behindWord 9 [.ref (950 + ln), .int (nI s), .int (nI p)] h (bx (rBw T n ln (n + 1) s p)) := by
  have hn := t.1
  refine B_Reader_behindWord hE (by omega) ?_
  have main : ∀ g k, k + g = n + 1 → p + k ≤ n → at_Reader_behindWord_3 E L h (fun y h' => y = bx (rBw T n ln g (s + k) (p + k)) ∧ h' = h) (950 + ln) (nI s) (nI p) (nI k) := by
    intro g
    induction g with
    | zero => intro k hk hk2; omega
    | succ g ih =>
      intro k hk hk2
      have hb := t.b (p + k)
      have hpn := rPN_lt ln (s + k)
      have fin : ¬ rLt (rSg T n (p + k)) = true → ConI E (L - 1) m_Reader_patternSign 0 [.ref (950 + ln), .int (nI s + nI k)] h (fun y10 h9 => ConI E (L - 1) m_Reader_isLetter 0 [.int y10] h9 (fun y12 h11 => ((y12 = 0 → (nI s + nI k = bx (rBw T n ln (g + 1) (s + k) (p + k)) ∧ h11 = h)) ∧ (¬ y12 = 0 → ((-1 : Int32) = bx (rBw T n ln (g + 1) (s + k) (p + k)) ∧ h11 = h))))) := by
        intro c
        have e : rBw T n ln (g + 1) (s + k) (p + k) = if rLt (rPN ln (s + k)) = true then 0 else s + k + 1 := by
          rw [rBw, if_neg c]
        rw [nI_add]
        refine (rd_pat hE (by omega) hl (by omega)).use ((rd_isLetter hE (by omega) (by omega)).use ?_)
        rw [e]
        by_cases c2 : rLt (rPN ln (s + k)) = true
        · rw [if_pos c2, if_pos c2]
          exact brF (by decide) ⟨rfl, rfl⟩
        · rw [if_neg c2, if_neg c2, bx_S]
          exact brT rfl ⟨rfl, rfl⟩
      refine B_Reader_behindWord_3 ?_
      by_cases c9 : 900 ≤ k
      · refine brT (nLe 900 c9 (by omega)) (fin ?_)
        rw [rSg_n (by omega)]; decide
      · refine brF (nG 900 (by omega)) ?_
        rw [nI_add (a := p)]
        refine (rd_sign hE (by omega) t (by omega)).use ((rd_isLetter hE (by omega) hb).use ?_)
        by_cases c : rLt (rSg T n (p + k)) = true
        · rw [if_pos c]
          refine brF (by decide) ?_
          rw [nI_add]
          refine (rd_pat hE (by omega) hl (by omega)).use ((rd_sign hE (by omega) t (by omega)).use ?_)
          rw [nIe (by omega) hb]
          have hin := rLt_in c
          refine ⟨fun q => ?_, fun q => ⟨?_, rfl⟩⟩
          · rw [rBw, if_pos c, if_pos q, nI_1]
            exact ih (k + 1) (by omega) (by omega)
          · rw [rBw, if_pos c, if_neg q]; rfl
        · rw [if_neg c]
          exact brT rfl (fin c)
  exact main (n + 1) 0 (by omega) (by omega)
/-! the store -/
variable {r nB nT : Nat} {tv : Nat → Nat → Nat}
theorem store_full1 (hE : EOk E) (hL : 1 ≤ L) (S : StV h r nB nT tv) : RdI E L m_Store_isFull r [.int 1] h (if nB < 8 then 0 else 1) := by
  have h8 := S.2.2.2.1
  refine B_Store_isFull hE hL S.1 (brF (by decide) ?_)
  rw [S.2.1, show (8 : Int32) = nI 8 from rfl, nIt (by omega) (by decide)]
  refine ⟨fun c => ?_, fun c => ?_⟩
  · rw [if_pos c]; exact ⟨rfl, rfl⟩
  · rw [if_neg c]; exact ⟨rfl, rfl⟩
theorem store_full0 (hE : EOk E) (hL : 1 ≤ L) (S : StV h r nB nT tv) : RdI E L m_Store_isFull r [.int 0] h (if nT < 16 then 0 else 1) := by
  have h16 := S.2.2.2.2.1
  refine B_Store_isFull hE hL S.1 (brT rfl ?_)
  rw [S.2.2.1, show (16 : Int32) = nI 16 from rfl, nIt (by omega) (by decide)]
  refine ⟨fun c => ?_, fun c => ?_⟩
  · rw [if_pos c]; exact ⟨rfl, rfl⟩
  · rw [if_neg c]; exact ⟨rfl, rfl⟩
theorem store_keep1 (hE : EOk E) (hL : 2 ≤ L) (S : StV h r nB nT tv) (hb : nB < 8) : WrV E L m_Store_keep r [.int 1] h (sI h r 1 (nI (nB + 1))) := by
  refine B_Store_keep hE (by omega) S.1 ((store_full1 hE (by omega) S).use ?_)
  rw [if_pos hb]
  refine brT rfl (brF (by decide) ?_)
  rw [S.2.1, nI_1]
theorem store_keep0 (hE : EOk E) (hL : 2 ≤ L) (S : StV h r nB nT tv) (hb : nT < 16) : WrV E L m_Store_keep r [.int 0] h (sI h r 2 (nI (nT + 1))) := by
  refine B_Store_keep hE (by omega) S.1 ((store_full0 hE (by omega) S).use ?_)
  rw [if_pos hb]
  refine brT rfl (brT rfl ?_)
  rw [S.2.2.1, nI_1]
theorem StV.k1 (S : StV h r nB nT tv) (hb : nB < 8) : StV (sI h r 1 (nI (nB + 1))) r (nB + 1) nT tv := by
  obtain ⟨a, b, c, d, e, f⟩ := S
  refine ⟨a, ?_, ?_, hb, e, f⟩
  · rw [sI_1, if_pos rfl, if_pos rfl]
  · rw [sI_1, if_pos rfl, if_neg (by decide)]; exact c
theorem StV.k0 (S : StV h r nB nT tv) (hb : nT < 16) : StV (sI h r 2 (nI (nT + 1))) r nB (nT + 1) tv := by
  obtain ⟨a, b, c, d, e, f⟩ := S
  refine ⟨a, ?_, ?_, d, hb, f⟩
  · rw [sI_1, if_pos rfl, if_neg (by decide)]; exact b
  · rw [sI_1, if_pos rfl, if_pos rfl]
theorem store_next1 (hE : EOk E) (hL : 1 ≤ L) (S : StV h r nB nT tv) : RdI E L m_Store_nextItem r [.int 1] h (nI nB) := by
  refine B_Store_nextItem hE hL S.1 (brF (by decide) ⟨S.2.1, rfl⟩)
theorem store_next0 (hE : EOk E) (hL : 1 ≤ L) (S : StV h r nB nT tv) : RdI E L m_Store_nextItem r [.int 0] h (nI (8 + nT)) := by
  refine B_Store_nextItem hE hL S.1 (brT rfl ⟨?_, rfl⟩)
  rw [S.2.2.1, show (8 : Int32) = nI 8 from rfl, nI_add]
theorem store_tell (hE : EOk E) (hL : 1 ≤ L) (S : StV h r nB nT tv) {i k v : Nat} (hi : i < 24) (hk : k < 7) : WrV E L m_Store_tell r [.int (nI i), .int (nI k), .int (nI v)] h (sA h (r + 1) (7 * i + k) (nI v)) := by
  obtain ⟨s1, s2, s3⟩ := sh_store S.1
  refine B_Store_tell hE hL S.1 (brF (nIneg (by omega)) (brF (nG 24 hi) (brF (nIneg (by omega)) (brF (nG 7 hk) ?_))))
  have e : nI i * 7 + nI k = nI (7 * i + k) := by
    rw [show (7 : Int32) = nI 7 from rfl, nI_mul, nI_add, Nat.mul_comm]
  rw [s1, e, nIc (by omega)]
  exact ⟨inI_of s2 (by omega) (by omega), rfl⟩
theorem StV.told (S : StV h r nB nT tv) {i k v : Nat} (hk : k < 7) (hv : v ≤ 9999) : StV (sA h (r + 1) (7 * i + k) (nI v)) r nB nT (rUp tv i k v) := by
  obtain ⟨a, b, c, d, e, f⟩ := S
  refine ⟨a, b, c, d, e, fun x y hx hy => ?_⟩
  rw [sA_A, if_pos rfl]
  unfold rUp
  by_cases q : x = i ∧ y = k
  · rw [if_pos q, if_pos (by omega)]
    exact ⟨rfl, hv⟩
  · rw [if_neg q, if_neg (by omega)]
    exact f x y hx hy
end ReadX
