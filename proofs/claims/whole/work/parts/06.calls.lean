/-! ===== calls: a callee's contract is used ===== -/
section CallsX
variable {E : EnvX} {L mi t : Nat} {p : Program} {e : Env} {R : Room} {s : State} {m : MethodId} {args : Array Value} {below : List Frame} {meth : Method} {c : Code} {H : Heap} {locs : List Loc} {cells slots : Nat} {A : Nat → Prop} {Qm : State → Prop} {lsr : Array Slot} {pc i a n q : Nat} {as rest : List Value} {h : Hp}
theorem goodX {a n : Nat} (hc : calleeW a n) : GoodIn tg (wsX a) := by
  intro w hw
  rcases List.mem_cons.mp hw with rfl | hw
  · exact ⟨hc.1, tg_good _ hc.1⟩
  · exact ⟨hw, tg_good _ hw⟩
theorem rmX_fit (C : CtxX E L mi t p R s m args c cells slots A) (h1 : 1 ≤ L - 1) {k : Nat} (hk : k ≤ 40) : (rmX (L - 1)).frames + 1 ≤ R.frames ∧ 8 + (k + 11) + (rmX (L - 1)).locals ≤ R.locals := by
  obtain ⟨-, -, -, -, -, -, -, -, -, ⟨hL, hf, hl, -, -⟩, -⟩ := C
  constructor
  · show L - 1 + 8 + 1 ≤ R.frames
    omega
  · show 8 + (k + 11) + 64 * (L - 1 + 8) ≤ R.locals
    have e1 : L - 1 + 8 = L + 7 := by omega
    rw [e1]
    have e2 : 64 * (L + 8) = 64 * (L + 7) + 64 := rfl
    rw [e2] at hl
    generalize 64 * (L + 7) = z at hl ⊢
    generalize R.locals = y at hl ⊢
    clear e1 e2 hf hL h1
    omega
theorem asX_inst {a q : Nat} {as : List Value} (h : ¬ (md a).2.2.2.2.2 = 99) : (asX a q as).map (rv E q) = .ref (E.1 q) :: as.map (rv E q) := by
  unfold asX
  rw [if_neg h]
  rfl
theorem asX_stat {a q : Nat} {as : List Value} (h : (md a).2.2.2.2.2 = 99) : (asX a q as).map (rv E q) = as.map (rv E q) := by
  unfold asX
  rw [if_pos h]
theorem pcX_at (C : CtxX E L mi t p R s m args c cells slots A) (hP : va_P (dX E) vwCl (worldX E h) H) (hS : va_S A s.heap H locs) {q : Nat} {as : List Value} {U : State} (hU : U.heap = H) (hW : s.WarmedH U.vm) : PcX E q as h (as.map (rv E q)).toArray U := by
  obtain ⟨hx, hb, hml, hown, hts, hKa, hSx, hE, hA1, hR, hth⟩ := C
  exact ⟨rfl, by rw [hU]; exact hP, va_K.moved hW.alike hKa, hSx.move hW hU hS hA1⟩
/-- a virtual call, before what comes back is looked at -/
theorem runVX {Qc : Array Value → State → Outcome → State → Prop} (C : CtxX E L mi t p R s m args c cells slots A) (hP : va_P (dX E) vwCl (worldX E h) H) (hS : va_S A s.heap H locs) (hl : lsr.size = (md mi).2.2.1)
    (hc : calleeW a n) (hlk : Cond.methodLink (md mi).2.2.2.2.1 i (md a).1 ∈ tg) (h99 : ¬ (md a).2.2.2.2.2 = 99) (hd : decode (md mi).2.1 pc = .ok (.invokevirtual i, 3)) (hcat : cats rest ≤ 8) (hn : as.length = n) (hno : ∀ v ∈ as, noT v)
    (h1 : 1 ≤ L - 1) (hth : thX a q) (hM : Met E.2.2.2.2.2.2.1 (md a).1 (wsX a) (rmX (L - 1)) (PcX E q (asX a q as) h) Qc 0 0 (A1 E)) :
    va_Run p E.2.2.2.2.2.2.1 e R s m args below meth c H locs cells slots 0 0 (F0 m pc lsr ((as.map (rv E t)).reverse ++ .ref (E.1 q) :: rest.map (rv E t))) (rest.map (rv E t)) (Qc (Value.ref (E.1 q) :: as.map (rv E t)).toArray) (A1 E) := by
  have hR0 := rmX_fit C h1 hc.2.2.2.1
  have hpc := fun U hU hW => pcX_at (E := E) (q := q) (as := asX a q as) (U := U) C hP hS hU hW
  obtain ⟨hx, hb, hml, hown, hts, hKa, hSx, hE, hA1, hR, hth0⟩ := id C
  obtain ⟨c1, c2, c3, c4, c5, c6, c7, c8⟩ := id hc
  rw [if_neg h99] at c8
  obtain ⟨d1, d2, T, N, d3⟩ := c8
  have hcq : cls q = (md a).2.2.2.2.2 := hth.resolve_left h99
  have ha : (md a).2.2.2.2.2 < 99 := by
    have := (List.getElem?_eq_some_iff.mp d3).1
    exact Nat.lt_of_lt_of_le this (by decide)
  have cb := callB_of (R := R) (s := s) (args := args) (own := (md mi).2.2.2.2.1) (index := i) (y := (md a).1) (bytes := (md a).2.1) (maxL := (md a).2.2.1) (ret := (md a).2.2.2.1) (ws := wsX a) (rm := rmX (L - 1)) (mc := 0) (ms := 0) n hts (goodX hc) rfl rfl rfl (hts _ c2) (hts _ hlk) ⟨c3.1, c3.2, c5⟩ hR0
  refine va_runV (Ts := tg) (C := (md a).1.cls) (b := E.1 q) ⟨hx, hb, hml, hown, hts⟩ hM ⟨cb, hts _ d1, hts _ d2⟩ ⟨PcX_blind E q _ h, va_recv hKa hP d3 (obj_at (E := E) (h := h) hcq ha), fun U hU hW => ?_⟩ rfl (by simpa using hn) hl rfl (lv_room (by rw [cats_map]; exact hcat)) hd ⟨hR.2.2.2.1, hR.2.2.2.2⟩
  have h2 := hpc U hU hW
  rw [asX_inst h99, map_noT (t' := t) hno] at h2
  exact h2
theorem runSX {Qc : Array Value → State → Outcome → State → Prop} (C : CtxX E L mi t p R s m args c cells slots A) (hP : va_P (dX E) vwCl (worldX E h) H) (hS : va_S A s.heap H locs) (hl : lsr.size = (md mi).2.2.1)
    (hc : calleeW a n) (hlk : Cond.methodLink (md mi).2.2.2.2.1 i (md a).1 ∈ tg ∨ ((md mi).2.2.2.2.1 = "LargerWithin$Store" ∧ i = 51 ∧ (md a).1 = ⟨"LargerWithin", "roomBy", "(III)I"⟩)) (h99 : (md a).2.2.2.2.2 = 99) (hd : decode (md mi).2.1 pc = .ok (.invokestatic i, 3)) (hcat : cats rest ≤ 8) (hn : as.length = n) (hno : ∀ v ∈ as, noT v)
    (h1 : 1 ≤ L - 1) (hM : Met E.2.2.2.2.2.2.1 (md a).1 (wsX a) (rmX (L - 1)) (PcX E 0 (asX a 0 as) h) Qc 0 0 (A1 E)) :
    va_Run p E.2.2.2.2.2.2.1 e R s m args below meth c H locs cells slots 0 0 (F0 m pc lsr ((as.map (rv E t)).reverse ++ rest.map (rv E t))) (rest.map (rv E t)) (Qc (as.map (rv E t)).toArray) (A1 E) := by
  have hR0 := rmX_fit C h1 hc.2.2.2.1
  have hpc := fun U hU hW => pcX_at (E := E) (q := 0) (as := asX a 0 as) (U := U) C hP hS hU hW
  obtain ⟨hx, hb, hml, hown, hts, hKa, hSx, hE, hA1, hR, hth0⟩ := id C
  obtain ⟨c1, c2, c3, c4, c5, c6, c7, c8⟩ := id hc
  rw [if_pos h99] at c8
  have hp : PreS s H (PcX E 0 (asX a 0 as) h) (as.map (rv E t)) := by
    refine ⟨PcX_blind E 0 _ h, fun U hU hW => ?_⟩
    have h2 := hpc U hU hW
    rw [asX_stat h99, map_noT (t' := t) hno] at h2
    exact h2
  rcases hlk with hlk | ⟨ho, hi, hy⟩
  · have cb := callB_of (R := R) (s := s) (args := args) (own := (md mi).2.2.2.2.1) (index := i) (y := (md a).1) (bytes := (md a).2.1) (maxL := (md a).2.2.1) (ret := (md a).2.2.2.1) (ws := wsX a) (rm := rmX (L - 1)) (mc := 0) (ms := 0) n hts (goodX hc) rfl rfl rfl (hts _ c2) (hts _ hlk) ⟨c3.1, c3.2, c5⟩ hR0
    exact va_runS (Ts := tg) ⟨hx, hb, hml, hown, hts⟩ hM ⟨cb, hts _ c8⟩ hp rfl (by simpa using hn) hl rfl (lv_room (by rw [cats_map]; exact hcat)) hd ⟨hR.2.2.2.1, hR.2.2.2.2⟩
  · have hc0 : Cond.code (md a).1 (md a).2.1 (md a).2.2.1 (md a).2.2.2.1 ∈ wsX a := List.mem_cons_self
    have hnw : (Cond.methodLinkNest (md mi).2.2.2.2.1 i (md a).1 "LargerWithin").before args s = true := by
      rw [ho, hi, hy]
      exact va_Nw.use rfl hSx.2.2.2.2.2.2
    have cn : va_CN R s args (md mi).2.2.2.2.1 i (md a).1 "LargerWithin" (md a).2.1 (md a).2.2.1 (md a).2.2.2.1 (wsX a) (rmX (L - 1)) 0 0 n := by
      refine ⟨⟨rfl, rfl, hR0.1, hR0.2, pay_in hts (goodX hc), hc0⟩, hts _ c1, hts _ c2, c3, fun sig hsg => ?_, hnw⟩
      rw [hsg] at c5
      exact (Option.some.inj c5).symm
    exact va_runSN (Ts := tg) ⟨hx, hb, hml, hown, hts⟩ hM ⟨cn, hts _ c8, trivial⟩ hp rfl (by simpa using hn) hl rfl (lv_room (by rw [cats_map]; exact hcat)) hd ⟨hR.2.2.2.1, hR.2.2.2.2⟩
/-- what a call goes on with -/
theorem goI {post : Int32 → Hp → Prop} {st0 r0 : List Value} {aa : Array Value} (C : CtxX E L mi t p R s m args c cells slots A) (hS : va_S A s.heap H locs) (hr : va_Run p E.2.2.2.2.2.2.1 e R s m args below meth c H locs cells slots 0 0 (F0 m pc lsr st0) r0 (va_Qi post (BX E) (A1 E) aa) (A1 E))
    (k : ∀ (x : Int32) (h' : Hp) (H' : Heap) (locs' : List Loc), post x h' → va_P (dX E) vwCl (worldX E h') H' → va_S A s.heap H' locs' → W p E.2.2.2.2.2.2.1 e R s m args below meth c H' locs' cells slots Qm (F0 m (pc + 3) lsr (.int x :: r0))) :
    W p E.2.2.2.2.2.2.1 e R s m args below meth c H locs cells slots Qm (F0 m pc lsr st0) := by
  have hA1 := C.2.2.2.2.2.2.2.2.1
  exact va_calli hr hS (fun q _ hq => hA1 q hq) hA1 (fun r u t' H1 locs1 ht hvm hw hB hz hk hS1 => k r u H1 locs1 hw (by rw [← ht]; exact hB) hS1)
theorem goL {post : Int64 → Hp → Prop} {st0 r0 : List Value} {aa : Array Value} (C : CtxX E L mi t p R s m args c cells slots A) (hS : va_S A s.heap H locs) (hr : va_Run p E.2.2.2.2.2.2.1 e R s m args below meth c H locs cells slots 0 0 (F0 m pc lsr st0) r0 (va_Ql post (BX E) (A1 E) aa) (A1 E))
    (k : ∀ (x : Int64) (h' : Hp) (H' : Heap) (locs' : List Loc), post x h' → va_P (dX E) vwCl (worldX E h') H' → va_S A s.heap H' locs' → W p E.2.2.2.2.2.2.1 e R s m args below meth c H' locs' cells slots Qm (F0 m (pc + 3) lsr (.long x :: r0))) :
    W p E.2.2.2.2.2.2.1 e R s m args below meth c H locs cells slots Qm (F0 m pc lsr st0) := by
  have hA1 := C.2.2.2.2.2.2.2.2.1
  exact va_calll hr hS (fun q _ hq => hA1 q hq) hA1 (fun r u t' H1 locs1 ht hvm hw hB hz hk hS1 => k r u H1 locs1 hw (by rw [← ht]; exact hB) hS1)
theorem goV {post : Hp → Prop} {st0 r0 : List Value} {aa : Array Value} (C : CtxX E L mi t p R s m args c cells slots A) (hS : va_S A s.heap H locs) (hr : va_Run p E.2.2.2.2.2.2.1 e R s m args below meth c H locs cells slots 0 0 (F0 m pc lsr st0) r0 (va_Qv post (BX E) (A1 E) aa) (A1 E))
    (k : ∀ (h' : Hp) (H' : Heap) (locs' : List Loc), post h' → va_P (dX E) vwCl (worldX E h') H' → va_S A s.heap H' locs' → W p E.2.2.2.2.2.2.1 e R s m args below meth c H' locs' cells slots Qm (F0 m (pc + 3) lsr r0)) :
    W p E.2.2.2.2.2.2.1 e R s m args below meth c H locs cells slots Qm (F0 m pc lsr st0) := by
  have hA1 := C.2.2.2.2.2.2.2.2.1
  exact va_callv hr hS (fun q _ hq => hA1 q hq) hA1 (fun u t' H1 locs1 ht hvm hw hB hz hk hS1 => k u H1 locs1 hw (by rw [← ht]; exact hB) hS1)
theorem goA {post : Nat → Hp → Prop} {st0 r0 : List Value} {aa : Array Value} (C : CtxX E L mi t p R s m args c cells slots A) (hS : va_S A s.heap H locs) (hr : va_Run p E.2.2.2.2.2.2.1 e R s m args below meth c H locs cells slots 0 0 (F0 m pc lsr st0) r0 (va_Qr (fun _ => True) (fun (u : Hp × Nat) a t => post u.2 u.1 ∧ a = E.1 u.2 ∧ BX E u.1 t) (A1 E) aa) (A1 E))
    (k : ∀ (q : Nat) (h' : Hp) (H' : Heap) (locs' : List Loc), post q h' → va_P (dX E) vwCl (worldX E h') H' → va_S A s.heap H' locs' → W p E.2.2.2.2.2.2.1 e R s m args below meth c H' locs' cells slots Qm (F0 m (pc + 3) lsr (.ref (E.1 q) :: r0))) :
    W p E.2.2.2.2.2.2.1 e R s m args below meth c H locs cells slots Qm (F0 m pc lsr st0) := by
  have hA1 := C.2.2.2.2.2.2.2.2.1
  refine va_callr hr hS (fun q _ hq => hA1 q hq) hA1 (fun u ra t' H1 locs1 ht hvm hw hB hz hk hS1 => ?_)
  obtain ⟨b1, b2, b3⟩ := hB
  rw [b2]
  exact k u.2 u.1 H1 locs1 b1 (by rw [← ht]; exact b3) hS1
end CallsX
