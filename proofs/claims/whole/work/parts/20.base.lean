/-! ===== base rows for the pure work ===== -/
def bx (n : Nat) : Int32 := nI n - 1
theorem bx_0 : bx 0 = -1 := by decide
theorem bx_S (n : Nat) : bx (n + 1) = nI n := nI_pred n
theorem nI_int {n : Nat} (h : n < 2147483648) : (nI n).toInt = (n : Int) := nI_toInt h
theorem bx_int {n : Nat} (h : n < 2147483648) : (bx n).toInt = (n : Int) - 1 := by
  cases n with
  | zero => decide
  | succ n => rw [bx_S, nI_int (by omega)]; omega
theorem i32_eq {a b : Int32} : a = b ↔ a.toInt = b.toInt := ⟨fun h => by rw [h], fun h => Int32.toInt_inj.mp h⟩
theorem i32_le {a b : Int32} : a ≤ b ↔ a.toInt ≤ b.toInt := Int32.le_iff_toInt_le
theorem i32_lt {a b : Int32} : a < b ↔ a.toInt < b.toInt := Int32.lt_iff_toInt_lt
theorem bx_inj {a b : Nat} (ha : a < 2147483648) (hb : b < 2147483648) : bx a = bx b ↔ a = b := by
  rw [i32_eq, bx_int ha, bx_int hb]; omega
theorem bx_m1 {a : Nat} (ha : a < 2147483648) : bx a = -1 ↔ a = 0 := by
  rw [← bx_0]; exact bx_inj ha (by omega)
theorem nI_bx {a b : Nat} (ha : a < 2147483648) (hb : b < 2147483648) : nI a = bx b ↔ a + 1 = b := by
  rw [← bx_S]
  rw [i32_eq, bx_int hb, bx_S, nI_int ha]; omega
theorem bx_neg {a : Nat} (ha : a < 2147483648) : bx a < 0 ↔ a = 0 := by
  rw [i32_lt, bx_int ha]; show (a : Int) - 1 < 0 ↔ a = 0; omega
theorem bx_p (n : Nat) : nI n + (-1) = bx n := by unfold bx; rw [Int32.sub_eq_add_neg]
theorem nI_le0 {a : Nat} (ha : a < 2147483648) : nI a ≤ 0 ↔ a = 0 := by
  rw [i32_le, nI_int ha]; show (a : Int) ≤ 0 ↔ a = 0; omega
theorem nI_gt0 {a : Nat} (ha : a < 2147483648) : 0 < nI a ↔ 0 < a := by
  rw [i32_lt, nI_int ha]; show (0 : Int) < a ↔ 0 < a; omega
theorem nI_z {a : Nat} (ha : a < 2147483648) : nI a = 0 ↔ a = 0 := by
  rw [i32_eq, nI_int ha]; show (a : Int) = 0 ↔ a = 0; omega
theorem nI_lit (n : Nat) : (OfNat.ofNat n : Int32) = nI n := rfl
theorem nI_sub {a b : Nat} (h : b ≤ a) : nI a - nI b = nI (a - b) := pk_sub h
theorem nI_mul (a b : Nat) : nI a * nI b = nI (a * b) := pk_mul a b
theorem nIl {a b : Nat} (ha : a < 2147483648) (hb : b < 2147483648) : nI a ≤ nI b ↔ a ≤ b := nI_leI ha hb
theorem nIt {a b : Nat} (ha : a < 2147483648) (hb : b < 2147483648) : nI a < nI b ↔ a < b := nI_ltI ha hb
theorem nIe {a b : Nat} (ha : a < 2147483648) (hb : b < 2147483648) : nI a = nI b ↔ a = b := nI_eq ha hb
theorem nIneg {a : Nat} (ha : a < 2147483648) : ¬ nI a < 0 := nI_pos ha
theorem nIm1 {a : Nat} (ha : a < 2147483648) : ¬ nI a = -1 := by
  rw [i32_eq, nI_int ha]; show ¬ (a : Int) = -1; omega
theorem nIc {a : Nat} (ha : a < 2147483648) : (nI a).toNatClampNeg = a := nI_clamp ha
theorem nG (b : Nat) {a : Nat} (h : a < b) (hb : b < 2147483648 := by decide) : ¬ nI b ≤ nI a := nI_ge h hb
theorem nLt (b : Nat) {a : Nat} (h : a < b) (hb : b < 2147483648 := by decide) : nI a < nI b := nI_lt h hb
theorem nLe (b : Nat) {a : Nat} (h : b ≤ a) (ha : a < 2147483648) : nI b ≤ nI a := nI_le h ha
theorem nEnd (b : Nat) (hb : b < 2147483648 := by decide) : nI b ≤ nI b := nI_le (Nat.le_refl b) hb
theorem i64_lt {a b : Int64} : a < b ↔ a.toInt < b.toInt := Int64.lt_iff_toInt_lt
theorem i64_eq {a b : Int64} : a = b ↔ a.toInt = b.toInt := ⟨fun h => by rw [h], fun h => Int64.toInt_inj.mp h⟩
/-- a sum over 0 .. n - 1 -/
def sE (f : Nat → Nat) : Nat → Nat
  | 0 => 0
  | n + 1 => sE f n + f n
theorem sE_s (f : Nat → Nat) (k : Nat) : sE f (k + 1) = sE f k + f k := rfl
theorem sE_cong {f g : Nat → Nat} : ∀ {n : Nat}, (∀ k, k < n → f k = g k) → sE f n = sE g n
  | 0, _ => rfl
  | n + 1, h => by rw [sE, sE, sE_cong (fun k hk => h k (by omega)), h n (by omega)]
theorem sE_le {f : Nat → Nat} {c : Nat} : ∀ {n : Nat}, (∀ k, k < n → f k ≤ c) → sE f n ≤ n * c
  | 0, _ => by simp [sE]
  | n + 1, h => by
    have h1 := sE_le (f := f) (c := c) (n := n) (fun k hk => h k (by omega))
    have h2 := h n (by omega)
    rw [sE, Nat.succ_mul]; omega
theorem sE_mono {f : Nat → Nat} {m : Nat} : ∀ {n : Nat}, m ≤ n → sE f m ≤ sE f n
  | 0, h => by rw [Nat.le_zero.mp h]; exact Nat.le_refl _
  | n + 1, h => by
    rcases Nat.eq_or_lt_of_le h with q | q
    · rw [q]; exact Nat.le_refl _
    · have := sE_mono (f := f) (m := m) (n := n) (by omega)
      rw [sE]; omega
theorem sE_part (f : Nat → Nat) {i n : Nat} (h : i < n) : f i ≤ sE f n := by
  have h1 := sE_mono (f := f) (m := i + 1) (n := n) h
  rw [sE] at h1; omega
theorem sE_zero {f : Nat → Nat} : ∀ {n : Nat}, (∀ k, k < n → f k = 0) → sE f n = 0
  | 0, _ => rfl
  | n + 1, h => by rw [sE, sE_zero (fun k hk => h k (by omega)), h n (by omega)]
theorem sE_add (f g : Nat → Nat) : ∀ n : Nat, sE (fun k => f k + g k) n = sE f n + sE g n
  | 0 => rfl
  | n + 1 => by rw [sE, sE, sE, sE_add f g n]; omega
/-- one place changed -/
theorem sE_upd (f : Nat → Nat) (v : Nat) {i : Nat} : ∀ {n : Nat}, i < n → sE (fun k => if k = i then v else f k) n + f i = sE f n + v
  | 0, h => absurd h (Nat.not_lt_zero i)
  | n + 1, h => by
    rw [sE, sE]
    rcases Nat.lt_or_ge i n with q | q
    · have := sE_upd f v (i := i) (n := n) q
      rw [if_neg (by omega)]; omega
    · have e : i = n := by omega
      subst e
      have h1 : sE (fun k => if k = i then v else f k) i = sE f i := sE_cong (fun k hk => if_neg (by omega))
      rw [h1, if_pos rfl]; omega
/-- branches -/
theorem brT {c A B : Prop} (h : c) (a : A) : (c → A) ∧ (¬ c → B) := ⟨fun _ => a, fun n => absurd h n⟩
theorem brF {c A B : Prop} (h : ¬ c) (b : B) : (c → A) ∧ (¬ c → B) := ⟨fun n => absurd n h, fun _ => b⟩
theorem brT' {c A B : Prop} (h : c) (b : B) : (¬ c → A) ∧ (c → B) := ⟨fun n => absurd h n, fun _ => b⟩
theorem brF' {c A B : Prop} (h : ¬ c) (a : A) : (¬ c → A) ∧ (c → B) := ⟨fun _ => a, fun n => absurd n h⟩
theorem brC {c A B : Prop} (a : c → A) (b : ¬ c → B) : (c → A) ∧ (¬ c → B) := ⟨a, b⟩
theorem inI_of {a k : Nat} (h1 : akd a = 1) (h2 : k < aln a) (h3 : aln a < 2147483648) : inI a (nI k) := ⟨h1, vp_in_nI h2 h3⟩
theorem inZ_of {a k : Nat} (h1 : akd a = 3) (h2 : k < aln a) (h3 : aln a < 2147483648) : inZ a (nI k) := ⟨h1, vp_in_nI h2 h3⟩
theorem inJ_of {a k : Nat} (h1 : akd a = 2) (h2 : k < aln a) (h3 : aln a < 2147483648) : inJ a (nI k) := ⟨h1, vp_in_nI h2 h3⟩
/-! shapes -/
theorem sh_store {r : Nat} (hr : cls r = 9) : rf r 0 = r + 1 ∧ akd (r + 1) = 1 ∧ aln (r + 1) = 168 :=
  (show ∀ r, r < 96 → cls r = 9 → rf r 0 = r + 1 ∧ akd (r + 1) = 1 ∧ aln (r + 1) = 168 by decide +kernel) r (cls_obj hr (by decide)).1 hr
theorem sh_layout {r : Nat} (hr : cls r = 2) : rf r 1 = r + 1 ∧ rf r 2 = r + 2 ∧ akd (r + 1) = 1 ∧ aln (r + 1) = 24 ∧ akd (r + 2) = 1 ∧ aln (r + 2) = 24 ∧ cls (rf r 0) = 9 :=
  (show ∀ r, r < 96 → cls r = 2 → rf r 1 = r + 1 ∧ rf r 2 = r + 2 ∧ akd (r + 1) = 1 ∧ aln (r + 1) = 24 ∧ akd (r + 2) = 1 ∧ aln (r + 2) = 24 ∧ cls (rf r 0) = 9 by decide +kernel) r (cls_obj hr (by decide)).1 hr
theorem sh_row {r : Nat} (hr : cls r = 7) : rf r 0 = r + 1 ∧ akd (r + 1) = 2 ∧ aln (r + 1) = 40 :=
  (show ∀ r, r < 96 → cls r = 7 → rf r 0 = r + 1 ∧ akd (r + 1) = 2 ∧ aln (r + 1) = 40 by decide +kernel) r (cls_obj hr (by decide)).1 hr
/-! reads of written heaps -/
theorem sI_1 (h : Hp) (r k : Nat) (v : Int32) (r' k' : Nat) : (sI h r k v).1 r' k' = if r' = r then (if k' = k then v else h.1 r' k') else h.1 r' k' := by
  unfold sI
  by_cases e : r' = r
  · subst e
    simp only [if_pos rfl]
    rfl
  · simp [e]
theorem sI_A (h : Hp) (r k : Nat) (v : Int32) : (sI h r k v).2 = h.2 := rfl
theorem sA_1 (h : Hp) (r k : Nat) (v : Int32) : (sA h r k v).1 = h.1 := rfl
theorem sA_L (h : Hp) (r k : Nat) (v : Int32) : (sA h r k v).2.2 = h.2.2 := rfl
theorem sA_A (h : Hp) (r k : Nat) (v : Int32) (r' k' : Nat) : (sA h r k v).2.1 r' k' = if r' = r then (if k' = k then v else h.2.1 r' k') else h.2.1 r' k' := by
  unfold sA
  by_cases e : r' = r
  · subst e
    simp only [if_pos rfl]
    rfl
  · simp [e]
theorem sL_1 (h : Hp) (r k : Nat) (v : Int64) : (sL h r k v).1 = h.1 := rfl
theorem sL_A (h : Hp) (r k : Nat) (v : Int64) : (sL h r k v).2.1 = h.2.1 := rfl
theorem sL_L (h : Hp) (r k : Nat) (v : Int64) (r' k' : Nat) : (sL h r k v).2.2 r' k' = if r' = r then (if k' = k then v else h.2.2 r' k') else h.2.2 r' k' := by
  unfold sL
  by_cases e : r' = r
  · subst e
    simp only [if_pos rfl]
    rfl
  · simp [e]
theorem sC_1 (h : Hp) (r q sp dp n : Nat) : (sC h r q sp dp n).1 = h.1 := rfl
theorem sC_L (h : Hp) (r q sp dp n : Nat) : (sC h r q sp dp n).2.2 = h.2.2 := rfl
theorem sC_A (h : Hp) (r q sp dp n : Nat) (r' k' : Nat) : (sC h r q sp dp n).2.1 r' k' = if r' = q then (if dp ≤ k' ∧ k' < dp + n then h.2.1 r (sp + (k' - dp)) else h.2.1 r' k') else h.2.1 r' k' := by
  unfold sC
  by_cases e : r' = q
  · subst e
    simp only [if_pos rfl]
    rfl
  · simp [e]
/-- heaps are alike off the cells F -/
def EqO (F : Nat → Prop) (h h' : Hp) : Prop := ∀ q, ¬ F q → h'.1 q = h.1 q ∧ h'.2.1 q = h.2.1 q ∧ h'.2.2 q = h.2.2 q
theorem EqO.rfl' {F : Nat → Prop} {h : Hp} : EqO F h h := fun _ _ => ⟨rfl, rfl, rfl⟩
theorem EqO.trans {F : Nat → Prop} {h h1 h2 : Hp} (a : EqO F h h1) (b : EqO F h1 h2) : EqO F h h2 := fun q hq => ⟨(b q hq).1.trans (a q hq).1, (b q hq).2.1.trans (a q hq).2.1, (b q hq).2.2.trans (a q hq).2.2⟩
theorem EqO.wk {F G : Nat → Prop} {h h1 : Hp} (a : EqO F h h1) (k : ∀ q, F q → G q) : EqO G h h1 := fun q hq => a q (fun f => hq (k q f))
theorem EqO.sI {F : Nat → Prop} {h : Hp} {r k : Nat} {v : Int32} (hr : F r) : EqO F h (sI h r k v) := fun q hq => ⟨if_neg (fun (e : q = r) => hq (by rw [e]; exact hr)), rfl, rfl⟩
theorem EqO.sA {F : Nat → Prop} {h : Hp} {r k : Nat} {v : Int32} (hr : F r) : EqO F h (sA h r k v) := fun q hq => ⟨rfl, if_neg (fun (e : q = r) => hq (by rw [e]; exact hr)), rfl⟩
theorem EqO.sL {F : Nat → Prop} {h : Hp} {r k : Nat} {v : Int64} (hr : F r) : EqO F h (sL h r k v) := fun q hq => ⟨rfl, rfl, if_neg (fun (e : q = r) => hq (by rw [e]; exact hr))⟩
theorem EqO.sC {F : Nat → Prop} {h : Hp} {r q sp dp n : Nat} (hr : F q) : EqO F h (sC h r q sp dp n) := fun z hz => ⟨rfl, if_neg (fun (e : z = q) => hz (by rw [e]; exact hr)), rfl⟩
