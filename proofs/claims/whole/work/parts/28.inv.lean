/-! ===== the invariant of both objects together ===== -/
def persF : List (Nat × Nat) := [(1, 1), (1, 2), (14, 1), (14, 2), (16, 1), (16, 2), (18, 1), (18, 2), (20, 1), (20, 2), (9, 2), (9, 4), (9, 5), (74, 5), (74, 13), (74, 14), (25, 1), (25, 2), (30, 1), (30, 2)]
def persA : List Nat := [2, 4, 5, 10, 15, 17, 19, 21, 24, 26, 28, 29, 31, 33, 34, 75, 76, 77, 93, 94, 95]
/-- nothing that lasts has changed -/
def EqS (h h' : Hp) : Prop := (∀ p ∈ persF, h'.1 p.1 p.2 = h.1 p.1 p.2) ∧ ∀ q ∈ persA, h'.2.1 q = h.2.1 q ∧ h'.2.2 q = h.2.2 q
def PickZ (h : Hp) : Prop := ∀ a, 41 ≤ a → a ≤ 44 → h.2.1 a 0 = 0 ∧ h.2.1 a 64 = 0
def tvB (nB nT : Nat) (tv : Nat → Nat → Nat) : Prop := ∀ i, i < 24 → (tv i 0 ≤ 999 ∧ tv i 1 ≤ 99 ∧ tv i 2 ≤ 99 ∧ tv i 3 ≤ 99 ∧ tv i 4 ≤ 99 ∧ tv i 5 ≤ 64 ∧ tv i 6 ≤ 9999) ∧ (i < 8 → tv i 3 = 0 ∧ tv i 0 ≤ 99) ∧ (8 ≤ i → tv i 4 = 0 ∧ tv i 5 = 0 ∧ tv i 6 = 0) ∧ (isIt nB nT i → 1 ≤ tv i 0 ∧ 1 ≤ tv i 1 ∧ 1 ≤ tv i 2 ∧ (i < 8 → 1 ≤ tv i 4 ∧ 1 ≤ tv i 5 ∧ 1 ≤ tv i 6)) ∧ (¬ isIt nB nT i → ∀ k, k < 7 → tv i k = 0)
def CurV (h : Hp) (s y o nB nT : Nat) (tv : Nat → Nat → Nat) (pk lv sn : Nat → Nat) (ck : Nat) : Prop := StV h s nB nT tv ∧ LyV h y pk lv ∧ MsV h o nB nT tv pk sn ck ∧ acy pk ∧ OrdV pk lv sn ck ∧ tvB nB nT tv
def CurR (h : Hp) (s y o K : Nat) : Prop := ∃ (nB nT : Nat) (tv : Nat → Nat → Nat) (pk lv sn : Nat → Nat) (ck : Nat), ck ≤ K ∧ CurV h s y o nB nT tv pk lv sn ck
def RowsR (h : Hp) : Prop := ∀ r, r < 4 → (h.1 (14 + 2 * r) 2 = -1 ∧ h.2.1 93 r = -1) ∨ ∃ n s, n ≤ 40 ∧ s ≤ 3 ∧ h.1 (14 + 2 * r) 2 = nI n ∧ h.1 (14 + 2 * r) 1 = nI s ∧ h.2.1 93 r = nI s ∧ h.2.1 94 r = nI n ∧ ∀ k, k < n → h.2.2 (15 + 2 * r) k = h.2.2 95 (40 * r + k)
def TapeR (h : Hp) : Prop := ∃ n, n ≤ 900 ∧ h.1 9 2 = nI n ∧ h.1 74 5 = nI n ∧ ∀ k, k < n → ∃ b, b < 256 ∧ h.2.1 10 k = nI b ∧ h.2.1 77 k = nI b
def FaultR (h : Hp) : Prop := h.1 9 4 = h.1 74 13 ∧ h.1 9 5 = h.1 74 14
def ImgR (h : Hp) (K : Nat) : Prop := ∀ i, i < 2 → (h.2.1 24 i = 0 ∧ h.2.1 76 i = 0) ∨ (h.2.1 24 i = 1 ∧ h.2.1 76 i = 1 ∧ CurR h (25 + 5 * i) (27 + 5 * i) (220 * (i + 1)) K)
def Inv (h : Hp) (K : Nat) : Prop := K ≤ 100000 ∧ CurR h 1 3 0 K ∧ RowsR h ∧ TapeR h ∧ FaultR h ∧ ImgR h K ∧ PickZ h
theorem EqS.rfl' {h : Hp} : EqS h h := ⟨fun _ _ => rfl, fun _ _ => ⟨rfl, rfl⟩⟩
theorem EqS.trans {h h1 h2 : Hp} (a : EqS h h1) (b : EqS h1 h2) : EqS h h2 := ⟨fun p hp => (b.1 p hp).trans (a.1 p hp), fun q hq => ⟨(b.2 q hq).1.trans (a.2 q hq).1, (b.2 q hq).2.trans (a.2 q hq).2⟩⟩
theorem EqS.f {h h' : Hp} (e : EqS h h') (q k : Nat) (hp : (q, k) ∈ persF := by decide) : h'.1 q k = h.1 q k := e.1 (q, k) hp
theorem EqS.a {h h' : Hp} (e : EqS h h') (q : Nat) (hp : q ∈ persA := by decide) : h'.2.1 q = h.2.1 q := (e.2 q hp).1
theorem EqS.l {h h' : Hp} (e : EqS h h') (q : Nat) (hp : q ∈ persA := by decide) : h'.2.2 q = h.2.2 q := (e.2 q hp).2
theorem EqS.of {F : Nat → Prop} {h h' : Hp} (e : EqO F h h') (h1 : ∀ p ∈ persF, ¬ F p.1) (h2 : ∀ q ∈ persA, ¬ F q) : EqS h h' := ⟨fun p hp => by rw [(e p.1 (h1 p hp)).1], fun q hq => (e q (h2 q hq)).2⟩
theorem EqS.sI {h : Hp} {q k : Nat} {v : Int32} (hp : (q, k) ∉ persF := by decide) : EqS h (sI h q k v) := ⟨fun p hp2 => by
  rw [sI_1]
  by_cases a : p.1 = q
  · rw [if_pos a]
    by_cases b : p.2 = k
    · exact absurd hp2 (by rw [show p = (q, k) by rw [← a, ← b]]; exact hp)
    · rw [if_neg b]
  · rw [if_neg a], fun _ _ => ⟨rfl, rfl⟩⟩
theorem EqS.sA {h : Hp} {q k : Nat} {v : Int32} (hp : q ∉ persA := by decide) : EqS h (sA h q k v) := ⟨fun _ _ => rfl, fun z hz => ⟨if_neg (fun (e : z = q) => hp (e ▸ hz)), rfl⟩⟩
theorem StV_eq {h h' : Hp} {r nB nT : Nat} {tv : Nat → Nat → Nat} (S : StV h r nB nT tv) (a : h'.1 r 1 = h.1 r 1) (b : h'.1 r 2 = h.1 r 2) (c : h'.2.1 (r + 1) = h.2.1 (r + 1)) : StV h' r nB nT tv := by
  unfold StV; rw [a, b, c]; exact S
theorem LyV_eq {h h' : Hp} {r : Nat} {pk lv : Nat → Nat} (Y : LyV h r pk lv) (b : h'.2.1 (r + 1) = h.2.1 (r + 1)) (c : h'.2.1 (r + 2) = h.2.1 (r + 2)) : LyV h' r pk lv := by
  unfold LyV; rw [b, c]; exact Y
theorem MsV_eq {h h' : Hp} {o nB nT : Nat} {tv : Nat → Nat → Nat} {pk sn : Nat → Nat} {ck : Nat} (M : MsV h o nB nT tv pk sn ck) (a : h'.2.1 75 = h.2.1 75) : MsV h' o nB nT tv pk sn ck := by
  unfold MsV; rw [a]; exact M
theorem CurV.keep {h h' : Hp} {nB nT : Nat} {tv : Nat → Nat → Nat} {pk lv sn : Nat → Nat} {ck : Nat} (C : CurV h 1 3 0 nB nT tv pk lv sn ck) (e : EqS h h') : CurV h' 1 3 0 nB nT tv pk lv sn ck :=
  ⟨StV_eq C.1 (e.f 1 1) (e.f 1 2) (e.a 2), LyV_eq C.2.1 (e.a 4) (e.a 5), MsV_eq C.2.2.1 (e.a 75), C.2.2.2⟩
theorem RowsR.keep {h h' : Hp} (R : RowsR h) (e : EqS h h') : RowsR h' := by
  intro r hr
  have h0 := R r hr
  have f1 : h'.1 (14 + 2 * r) 2 = h.1 (14 + 2 * r) 2 ∧ h'.1 (14 + 2 * r) 1 = h.1 (14 + 2 * r) 1 ∧ h'.2.2 (15 + 2 * r) = h.2.2 (15 + 2 * r) := by
    rcases (show r = 0 ∨ r = 1 ∨ r = 2 ∨ r = 3 by omega) with rfl | rfl | rfl | rfl
    · exact ⟨e.f 14 2, e.f 14 1, e.l 15⟩
    · exact ⟨e.f 16 2, e.f 16 1, e.l 17⟩
    · exact ⟨e.f 18 2, e.f 18 1, e.l 19⟩
    · exact ⟨e.f 20 2, e.f 20 1, e.l 21⟩
  rw [f1.1, f1.2.1, f1.2.2, e.a 93, e.a 94, e.l 95]
  exact h0
theorem TapeR.keep {h h' : Hp} (R : TapeR h) (e : EqS h h') : TapeR h' := by
  unfold TapeR
  rw [e.f 9 2, e.f 74 5, e.a 10, e.a 77]
  exact R
theorem FaultR.keep {h h' : Hp} (R : FaultR h) (e : EqS h h') : FaultR h' := by
  unfold FaultR
  rw [e.f 9 4, e.f 74 13, e.f 9 5, e.f 74 14]
  exact R
theorem CurR.wk {h : Hp} {s y o K K' : Nat} (C : CurR h s y o K) (hK : K ≤ K') : CurR h s y o K' := by
  obtain ⟨nB, nT, tv, pk, lv, sn, ck, h1, h2⟩ := C
  exact ⟨nB, nT, tv, pk, lv, sn, ck, Nat.le_trans h1 hK, h2⟩
theorem ImgR.wk {h : Hp} {K K' : Nat} (R : ImgR h K) (hK : K ≤ K') : ImgR h K' := fun i hi => (R i hi).elim Or.inl (fun q => Or.inr ⟨q.1, q.2.1, q.2.2.wk hK⟩)
theorem CurR_eq {h h' : Hp} {s y o K : Nat} (C : CurR h s y o K) (a : h'.1 s 1 = h.1 s 1) (b : h'.1 s 2 = h.1 s 2) (c : h'.2.1 (s + 1) = h.2.1 (s + 1)) (d : h'.2.1 (y + 1) = h.2.1 (y + 1)) (f : h'.2.1 (y + 2) = h.2.1 (y + 2)) (g : h'.2.1 75 = h.2.1 75) : CurR h' s y o K := by
  obtain ⟨nB, nT, tv, pk, lv, sn, ck, h1, h2, h3, h4, h5⟩ := C
  exact ⟨nB, nT, tv, pk, lv, sn, ck, h1, StV_eq h2 a b c, LyV_eq h3 d f, MsV_eq h4 g, h5⟩
theorem ImgR.keep {h h' : Hp} {K : Nat} (R : ImgR h K) (e : EqS h h') : ImgR h' K := by
  intro i hi
  have h0 := R i hi
  rw [e.a 24, e.a 76]
  refine h0.elim Or.inl (fun q => Or.inr ⟨q.1, q.2.1, ?_⟩)
  rcases (show i = 0 ∨ i = 1 by omega) with rfl | rfl
  · exact CurR_eq q.2.2 (e.f 25 1) (e.f 25 2) (e.a 26) (e.a 28) (e.a 29) (e.a 75)
  · exact CurR_eq q.2.2 (e.f 30 1) (e.f 30 2) (e.a 31) (e.a 33) (e.a 34) (e.a 75)
theorem Inv.keep {h h' : Hp} {K K' : Nat} (I : Inv h K) (e : EqS h h') (hz : PickZ h') (h1 : K ≤ K') (h2 : K' ≤ 100000) : Inv h' K' := by
  obtain ⟨-, i1, i2, i3, i4, i5, i6⟩ := I
  refine ⟨h2, ?_, i2.keep e, i3.keep e, i4.keep e, (i5.keep e).wk h1, hz⟩
  exact (CurR_eq i1 (e.f 1 1) (e.f 1 2) (e.a 2) (e.a 4) (e.a 5) (e.a 75)).wk h1
theorem PickZ_eq {h h' : Hp} (z : PickZ h) (e : ∀ a, 41 ≤ a → a ≤ 44 → h'.2.1 a = h.2.1 a) : PickZ h' := fun a h1 h2 => by rw [e a h1 h2]; exact z a h1 h2
/-- x's call and m's call with the same arguments: the same answer, and the invariant again -/
def Same (E : EnvX) (L mx mm : Nat) (as : List Value) (h : Hp) (K : Nat) : Prop := ConI E L mx 0 as h (fun y1 h1 => ConI E L mm 74 as h1 (fun y2 h2 => y1 = y2 ∧ Inv h2 (K + 60)))
/-- what only reads -/
def RdX (E : EnvX) (L mx : Nat) (as : List Value) (h : Hp) (x : Int32) : Prop := ConI E L mx 0 as h (fun y h1 => y = x ∧ EqS h h1 ∧ PickZ h1)
def RdM (E : EnvX) (L mm : Nat) (as : List Value) (h : Hp) (x : Int32) : Prop := ConI E L mm 74 as h (fun y h1 => y = x ∧ EqS h h1 ∧ PickZ h1)
theorem same_rd {E : EnvX} {L mx mm : Nat} {as : List Value} {h : Hp} {K : Nat} {x : Int32} (I : Inv h K) (hK : K + 60 ≤ 100000) (hx : RdX E L mx as h x) (hm : ∀ h1, EqS h h1 → Inv h1 K → RdM E L mm as h1 x) : Same E L mx mm as h K := by
  refine hx.mono (fun y h1 q => ?_)
  obtain ⟨rfl, e, z⟩ := q
  refine (hm h1 e (I.keep e z (Nat.le_refl _) (by omega))).mono (fun y2 h2 q2 => ?_)
  obtain ⟨rfl, e2, z2⟩ := q2
  exact ⟨rfl, I.keep (e.trans e2) z2 (by omega) hK⟩
theorem RdX.of {E : EnvX} {L mx : Nat} {as : List Value} {h : Hp} {x : Int32} (z : PickZ h) (H : RdI E L mx 0 as h x) : RdX E L mx as h x := H.use ⟨rfl, EqS.rfl', z⟩
/-- the reference's 'thrown = 0' -/
theorem thr_eq (h : Hp) : EqS h (sI h 74 0 0) := EqS.sI
/-! arguments -/
theorem i64_of {v : Int32} {i : Nat} (hi : i < 2147483648) (e : v.toInt64 = lN i) : v = nI i := by
  rw [i32_eq, nI_int hi]
  have h1 : (v.toInt64).toInt = v.toInt := Int32.toInt_toInt64 v
  rw [e, pk_lT (by omega)] at h1
  exact h1.symm
theorem noItem {nB nT : Nat} {v : Int32} (h8 : nB ≤ 8) (h16 : nT ≤ 16) (hv : ¬ ∃ i, isIt nB nT i ∧ v = nI i) : ∀ i, isIt nB nT i → v.toInt64 ≠ lN i := fun i hi e => hv ⟨i, hi, i64_of (by rcases hi with q | q <;> omega) e⟩
theorem noBox {nB : Nat} {v : Int32} (h8 : nB ≤ 8) (hv : ¬ ∃ b, b < nB ∧ v = nI b) : ∀ b, b < nB → v.toInt64 ≠ lN b := fun b hb e => hv ⟨b, hb, i64_of (by omega) e⟩
theorem w32 {a b : Nat} (hab : a ≤ b) (hb : b < 2147483648) {v : Int32} : (¬ v.toInt64 < lN a ∧ ¬ lN b < v.toInt64) ↔ ∃ k, a ≤ k ∧ k ≤ b ∧ v = nI k := by
  have h1 : (v.toInt64).toInt = v.toInt := Int32.toInt_toInt64 v
  rw [i64_lt, i64_lt, h1, pk_lT (show a < 2 ^ 63 by omega), pk_lT (show b < 2 ^ 63 by omega)]
  constructor
  · rintro ⟨q1, q2⟩
    refine ⟨v.toInt.toNat, by omega, by omega, ?_⟩
    rw [i32_eq, nI_int (by omega)]
    omega
  · rintro ⟨k, q1, q2, rfl⟩
    rw [nI_int (by omega)]
    omega
section WithinM
variable {E : EnvX} {L : Nat} {h : Hp}
theorem m_w_yes (hE : EOk E) (hL : 1 ≤ L) {a b k : Nat} (h1 : a ≤ k) (h2 : k ≤ b) (hb : b < 2147483648) : RdI E L m_M_within 0 [.long (nI k).toInt64, .long (lN a), .long (lN b)] h 1 :=
  (m_within hE hL _ _ _).eq (if_pos ((w32 (by omega) hb).mpr ⟨k, h1, h2, rfl⟩))
theorem m_w_no (hE : EOk E) (hL : 1 ≤ L) {a b : Nat} {v : Int32} (hab : a ≤ b) (hb : b < 2147483648) (hv : ¬ ∃ k, a ≤ k ∧ k ≤ b ∧ v = nI k) : RdI E L m_M_within 0 [.long v.toInt64, .long (lN a), .long (lN b)] h 0 :=
  (m_within hE hL _ _ _).eq (if_neg (fun q => hv ((w32 hab hb).mp q)))
end WithinM
theorem not_small {v : Int32} {n : Nat} (hn : n < 2147483648) (hv : ¬ ∃ k, k < n ∧ v = nI k) : v < 0 ∨ nI n ≤ v := by
  by_cases h0 : v < 0
  · exact Or.inl h0
  · obtain ⟨k, hk, rfl⟩ := nI_of h0
    rcases Nat.lt_or_ge k n with q | q
    · exact absurd ⟨k, q, rfl⟩ hv
    · exact Or.inr (nI_le q hk)
theorem no_eq {v : Int32} {n : Nat} (hv : v < 0 ∨ nI n ≤ v) (hn : n < 2147483648) {k : Nat} (hk : k < n) : ¬ v = nI k := by
  rintro rfl
  rcases hv with q | q
  · exact nIneg (by omega) q
  · exact nI_ge hk hn q
