/-! ===== the constructors: Arrays.fill (printed by wip/gen/ctor.py) ===== -/
theorem goodC {w : Cond} (h : w ∈ tg) : GoodIn tg (w :: tg) := fun v hv => (List.mem_cons.mp hv).elim (fun e => e ▸ ⟨h, tg_good _ h⟩) (fun hv => ⟨hv, tg_good _ hv⟩)
def yk_fill : MethodName := ⟨"java/util/Arrays", "fill", "([II)V"⟩
abbrev bk_fill : ByteArray := prog_21_method_103_code
def wk_fill : List Cond := .code yk_fill bk_fill 4 none :: tg
theorem dk_fill_0 : decode bk_fill 0 = .ok (.iconst 0, 1) := by decide +kernel
theorem dk_fill_1 : decode bk_fill 1 = .ok (.istore_n 2, 1) := by decide +kernel
theorem dk_fill_2 : decode bk_fill 2 = .ok (.aload_n 0, 1) := by decide +kernel
theorem dk_fill_3 : decode bk_fill 3 = .ok (.arraylength, 1) := by decide +kernel
theorem dk_fill_4 : decode bk_fill 4 = .ok (.istore_n 3, 1) := by decide +kernel
theorem dk_fill_5 : decode bk_fill 5 = .ok (.iload_n 2, 1) := by decide +kernel
theorem dk_fill_6 : decode bk_fill 6 = .ok (.iload_n 3, 1) := by decide +kernel
theorem dk_fill_7 : decode bk_fill 7 = .ok (.if_icmp .ge 13, 3) := by decide +kernel
theorem dk_fill_10 : decode bk_fill 10 = .ok (.aload_n 0, 1) := by decide +kernel
theorem dk_fill_11 : decode bk_fill 11 = .ok (.iload_n 2, 1) := by decide +kernel
theorem dk_fill_12 : decode bk_fill 12 = .ok (.iload_n 1, 1) := by decide +kernel
theorem dk_fill_13 : decode bk_fill 13 = .ok (.iastore, 1) := by decide +kernel
theorem dk_fill_14 : decode bk_fill 14 = .ok (.iinc 2 1, 3) := by decide +kernel
theorem dk_fill_17 : decode bk_fill 17 = .ok (.goto (-12), 3) := by decide +kernel
theorem dk_fill_20 : decode bk_fill 20 = .ok (.return_, 1) := by decide +kernel
set_option maxHeartbeats 4000000 in
theorem c_fill (l : Launch) (dC : Nat → ClassId) (dI : Nat → Nat → Nat) (a sz n : Nat) (cA : ClassId) (f : Nat → Int32) (v : Int32) (hn : n < 2147483648) : Met l yk_fill wk_fill ({ frames := 1, cells := 0, slots := 0, locals := 20 }) (va_Pc [.ref a, .int v] (fun U => U.heap.size = sz ∧ va_P (dC, dI) vwCl [(a, .inl (cA, n, .inl f))] U.heap ∧ va_K (dC, dI) vwCl [(cA, .int)] U ∧ va_D (fun _ => True) [(a, .inl (cA, n, .inl f))])) (va_Qv (fun g : Nat → Int32 => ∀ j, j < n → g j = v) (fun g t => va_P (dC, dI) vwCl [(a, .inl (cA, n, .inl g))] t.heap ∧ va_K (dC, dI) vwCl [(cA, .int)] t ∧ va_D (va_A [(a, .inl (cA, n, .inl f))] sz) [(a, .inl (cA, n, .inl g))]) (va_A [(a, .inl (cA, n, .inl f))] sz)) 0 0 (va_A [(a, .inl (cA, n, .inl f))] sz) := by
  refine Met.ofW (cc := bk_fill) (maxL := 4) (ret := none) (by decide) rfl ?_
  intro p e s m args below meth c s₁ B hml hv
  obtain ⟨rfl, hsz, hP, hK, hD0⟩ := hv
  have hx := B.exec
  have hb := B.bytes
  have hr := B.returns
  have hlocks := B.notSynchronized
  subst hsz
  have hD := hD0.self (sz := s.heap.size)
  generalize hAe : va_A [(a, .inl (cA, n, .inl f))] s.heap.size = A at hD ⊢
  have hS : va_S A s.heap s.heap [] := va_S.rf
  have hl := lv_entry ([.ref a, .int v]) (n := 4) (Nat.le_of_ble_eq_true rfl)
  rw [lg_entry_eq]
  generalize (lg_sl ([.ref a, .int v]) ++ List.replicate (4 - (lg_sl ([.ref a, .int v])).length) Slot.unset).toArray = ls at hl ⊢
  have hl : lv_has ls 4 [(0, .ref a), (1, .int v)] := hl
  refine lv_iconst (v := 0) hx hb dk_fill_0 (by decide) ?_
  refine lv_istore_n (lv' := [(2, .int 0), (0, .ref a), (1, .int v)]) hx hb dk_fill_1 rfl hl (by decide) rfl (fun ls hl => ?_)
  refine lv_aload_n hx hb dk_fill_2 rfl (lv_at hl 1 rfl) ?_
  refine va_alen (v := nI n) hx hb hK hP 0 0 rfl rfl rfl dk_fill_3 ?_
  refine lv_istore_n (lv' := [(3, .int (nI n)), (2, .int (nI 0)), (0, .ref a), (1, .int v)]) hx hb dk_fill_4 rfl hl (by decide) rfl (fun ls hl => ?_)
  refine (?_ : ∀ (k i : Nat), i + k = n → ∀ (g : Nat → Int32) (H : Heap) (locs : List Loc) (ls : Array Slot), (∀ j, j < i → g j = v) → va_P (dC, dI) vwCl [(a, .inl (cA, n, .inl g))] H → va_D A [(a, .inl (cA, n, .inl g))] → va_S A s.heap H locs → lv_has ls 4 [(3, .int (nI n)), (2, .int (nI i)), (0, .ref a), (1, .int v)] → W p l e _ s m _ below meth c H locs _ _ _ (F0 m 5 ls [])) n 0 (by omega) f s.heap [] ls (fun j hj => absurd hj (Nat.not_lt_zero j)) hP hD hS hl
  intro k
  induction k with
  | zero =>
    intro i hi g H locs ls hg hP hD hS hl
    refine lv_iload_n hx hb dk_fill_5 rfl (lv_at hl 1 rfl) ?_
    refine lv_iload_n hx hb dk_fill_6 rfl (lv_at hl 0 rfl) ?_
    refine lv_icmp_ge (tgt := 20) hx hb dk_fill_7 (by decide) (fun _ => ?_) (fun c_ => absurd (nI_le (by omega) (by omega)) c_)
    exact W.vret hx hb hr (fun t ht hW => ⟨⟨g, rfl, fun j hj => hg j (by omega), by rw [ht]; exact hP, va_K.moved hW.alike hK, hD⟩, hS.F ht⟩) hS.2.2 dk_fill_20
  | succ k ih =>
    intro i hi g H locs ls hg hP hD hS hl
    refine lv_iload_n hx hb dk_fill_5 rfl (lv_at hl 1 rfl) ?_
    refine lv_iload_n hx hb dk_fill_6 rfl (lv_at hl 0 rfl) ?_
    refine lv_icmp_ge (tgt := 20) hx hb dk_fill_7 (by decide) (fun c_ => absurd c_ (nI_ge (by omega) (by omega))) (fun _ => ?_)
    refine lv_aload_n hx hb dk_fill_10 rfl (lv_at hl 2 rfl) ?_
    refine lv_iload_n hx hb dk_fill_11 rfl (lv_at hl 1 rfl) ?_
    refine lv_iload_n hx hb dk_fill_12 rfl (lv_at hl 3 rfl) ?_
    refine va_iast hx hb hK hP hD hS 0 0 rfl rfl (vp_in_nI (by omega) hn) dk_fill_13 (fun H locs hP hD hS => ?_)
    rw [nIc (by omega)] at hP hD
    refine lv_iinc (v := nI (i + 1)) (lv' := [(2, .int (nI (i + 1))), (3, .int (nI n)), (0, .ref a), (1, .int v)]) hx hb dk_fill_14 hl (k := 1) rfl (nI_1 i) (by decide) rfl (fun ls hl => ?_)
    refine lv_goto (tgt := 5) hx hb dk_fill_17 (by decide) ?_
    refine ih (i + 1) (by omega) (upd g i v) H locs ls (fun j hj => ?_) hP hD hS (lv_sub hl [1, 0, 2, 3] rfl)
    by_cases e : j = i
    · rw [e]; exact if_pos rfl
    · exact (if_neg e).trans (hg j (by omega))
