/-! ===== contracts out of walks; how they are used ===== -/
def qI (post : Int32 → Hp → Prop) : Value → Hp → Prop := fun v h => match v with
  | .int x => post x h
  | _ => False
def qL (post : Int64 → Hp → Prop) : Value → Hp → Prop := fun v h => match v with
  | .long x => post x h
  | _ => False
def qV (post : Hp → Prop) : Value → Hp → Prop := fun v h => match v with
  | .null => post h
  | _ => False
def qA (post : Nat → Hp → Prop) : Value → Hp → Prop := fun v h => match v with
  | .ref x => post x h
  | _ => False
section Intro
variable {E : EnvX} {L mi t n : Nat} {as : List Value} {h : Hp} {ls : List (Option Value)}
theorem ctx_of {p : Program} {e : Env} {s : State} {m : MethodId} {args : Array Value} {below : List Frame} {meth : Method} {c : Code} {s₁ : State} {l : Launch} (hL : 1 ≤ L) (hE : EOk E) (hth : thX mi t) (hc : calleeW mi n)
    (B : BodyLoose p l (md mi).1 (headSpec (wsX mi) (rmX L)) (md mi).2.1 (md mi).2.2.1 (md mi).2.2.2.1 e s m args below meth c s₁) (hml : c.maxLocals = (md mi).2.2.1) (hK : va_K (dX E) vwCl (tysX E) s) (hSx : Sx E (A1 E) s) :
    CtxX E L mi t p (headSpec (wsX mi) (rmX L)).room s m args c 0 0 (A1 E) := by
  have hts := atoms_spec (ws := wsX mi) B.pre
  have hown : s.vm.findClass (md mi).1.cls = some m.cls := findClass_of_methodNamed B.named
  refine ⟨B.exec, B.bytes, hml, by rw [hc.2.2.2.2.2.2.1]; exact hown, fun w hw => hts w (List.mem_cons_of_mem _ hw), hK, hSx, hE, fun _ hq => hq, ⟨hL, Nat.le_refl _, Nat.le_refl _, Nat.zero_le _, Nat.zero_le _⟩, hth⟩
theorem lsr_of (hls : ∀ q ∈ lsX E t 0 ls, q ∈ lv_args 0 ((asX mi t as).map (rv E t))) (hlen : (lg_sl ((asX mi t as).map (rv E t))).length ≤ (md mi).2.2.1) :
    lv_has ((lg_sl ((asX mi t as).map (rv E t)) ++ List.replicate ((md mi).2.2.1 - (lg_sl ((asX mi t as).map (rv E t))).length) Slot.unset).toArray) (md mi).2.2.1 (lsX E t 0 ls) := lv_wk (lv_entry _ hlen) hls
theorem ConI_intro {post : Int32 → Hp → Prop} (hL : 1 ≤ L) (hE : EOk E) (hth : thX mi t) (hc : calleeW mi n) (hrt : (md mi).2.2.2.1 = some .int ∨ (md mi).2.2.2.1 = some .boolean)
    (hls : ∀ q ∈ lsX E t 0 ls, q ∈ lv_args 0 ((asX mi t as).map (rv E t))) (hlen : (lg_sl ((asX mi t as).map (rv E t))).length ≤ (md mi).2.2.1) (hw : wpR E L mi t 0 ls [] h (qI post)) : ConI E L mi t as h post := by
  refine ⟨hL, hE, hth, Met.ofW (cc := (md mi).2.1) (maxL := (md mi).2.2.1) (ret := (md mi).2.2.2.1) hc.2.2.2.2.2.1 rfl ?_⟩
  intro p e s m args below meth c s₁ B hml hv
  obtain ⟨rfl, hP, hK, hSx⟩ := hv
  have C := ctx_of (t := t) hL hE hth hc B hml hK hSx
  have hlocks := B.notSynchronized
  rw [lg_entry_eq]
  refine hw p e _ s m _ below meth c s.heap [] 0 0 (A1 E) _ _ C hP (vaD_of hE (fun _ hq => hq) h) va_S.rf (lsr_of hls hlen) ?_
  intro v h' H' locs' lsr' pc' hq hr hP' hS' hd
  match v, hq, hr, hd with
  | .int x, hq, hr, hd =>
    have hq2 : ∀ t2 : State, t2.heap = H' → s.WarmedH t2.vm → va_Qi post (BX E) (A1 E) ((asX mi t as).map (rv E t)).toArray s (.returned (some (.int x))) t2 := fun t2 ht hW => ⟨⟨x, h', rfl, hq, by unfold BX; rw [ht]; exact hP'⟩, hS'.F ht⟩
    rcases hrt with q | q
    · exact W.zret (ty := .int) B.exec B.bytes (B.returns.trans q) rfl hq2 hS'.2.2 hd
    · refine W.zret (ty := .boolean) B.exec B.bytes (B.returns.trans q) ?_ hq2 hS'.2.2 hd
      rcases hr q with e1 | e1 <;> cases e1 <;> rfl
theorem ConL_intro {post : Int64 → Hp → Prop} (hL : 1 ≤ L) (hE : EOk E) (hth : thX mi t) (hc : calleeW mi n) (hrt : (md mi).2.2.2.1 = some .long)
    (hls : ∀ q ∈ lsX E t 0 ls, q ∈ lv_args 0 ((asX mi t as).map (rv E t))) (hlen : (lg_sl ((asX mi t as).map (rv E t))).length ≤ (md mi).2.2.1) (hw : wpR E L mi t 0 ls [] h (qL post)) : ConL E L mi t as h post := by
  refine ⟨hL, hE, hth, Met.ofW (cc := (md mi).2.1) (maxL := (md mi).2.2.1) (ret := (md mi).2.2.2.1) hc.2.2.2.2.2.1 rfl ?_⟩
  intro p e s m args below meth c s₁ B hml hv
  obtain ⟨rfl, hP, hK, hSx⟩ := hv
  have C := ctx_of (t := t) hL hE hth hc B hml hK hSx
  have hlocks := B.notSynchronized
  rw [lg_entry_eq]
  refine hw p e _ s m _ below meth c s.heap [] 0 0 (A1 E) _ _ C hP (vaD_of hE (fun _ hq => hq) h) va_S.rf (lsr_of hls hlen) ?_
  intro v h' H' locs' lsr' pc' hq hr hP' hS' hd
  match v, hq, hr, hd with
  | .long x, hq, hr, hd =>
    exact W.lret B.exec B.bytes (B.returns.trans hrt) (fun t2 ht hW => ⟨⟨x, h', rfl, hq, by unfold BX; rw [ht]; exact hP'⟩, hS'.F ht⟩) hS'.2.2 hd
theorem ConV_intro {post : Hp → Prop} (hL : 1 ≤ L) (hE : EOk E) (hth : thX mi t) (hc : calleeW mi n) (hrt : (md mi).2.2.2.1 = none)
    (hls : ∀ q ∈ lsX E t 0 ls, q ∈ lv_args 0 ((asX mi t as).map (rv E t))) (hlen : (lg_sl ((asX mi t as).map (rv E t))).length ≤ (md mi).2.2.1) (hw : wpR E L mi t 0 ls [] h (qV post)) : ConV E L mi t as h post := by
  refine ⟨hL, hE, hth, Met.ofW (cc := (md mi).2.1) (maxL := (md mi).2.2.1) (ret := (md mi).2.2.2.1) hc.2.2.2.2.2.1 rfl ?_⟩
  intro p e s m args below meth c s₁ B hml hv
  obtain ⟨rfl, hP, hK, hSx⟩ := hv
  have C := ctx_of (t := t) hL hE hth hc B hml hK hSx
  have hlocks := B.notSynchronized
  rw [lg_entry_eq]
  refine hw p e _ s m _ below meth c s.heap [] 0 0 (A1 E) _ _ C hP (vaD_of hE (fun _ hq => hq) h) va_S.rf (lsr_of hls hlen) ?_
  intro v h' H' locs' lsr' pc' hq hr hP' hS' hd
  match v, hq, hr, hd with
  | .null, hq, hr, hd =>
    exact W.vret B.exec B.bytes (B.returns.trans hrt) (fun t2 ht hW => ⟨⟨h', rfl, hq, by unfold BX; rw [ht]; exact hP'⟩, hS'.F ht⟩) hS'.2.2 hd
theorem ConA_intro {post : Nat → Hp → Prop} {C0 : String} (hL : 1 ≤ L) (hE : EOk E) (hth : thX mi t) (hc : calleeW mi n) (hrt : (md mi).2.2.2.1 = some (.object C0))
    (hls : ∀ q ∈ lsX E t 0 ls, q ∈ lv_args 0 ((asX mi t as).map (rv E t))) (hlen : (lg_sl ((asX mi t as).map (rv E t))).length ≤ (md mi).2.2.1) (hw : wpR E L mi t 0 ls [] h (qA post)) : ConA E L mi t as h post := by
  refine ⟨hL, hE, hth, Met.ofW (cc := (md mi).2.1) (maxL := (md mi).2.2.1) (ret := (md mi).2.2.2.1) hc.2.2.2.2.2.1 rfl ?_⟩
  intro p e s m args below meth c s₁ B hml hv
  obtain ⟨rfl, hP, hK, hSx⟩ := hv
  have C := ctx_of (t := t) hL hE hth hc B hml hK hSx
  have hlocks := B.notSynchronized
  rw [lg_entry_eq]
  refine hw p e _ s m _ below meth c s.heap [] 0 0 (A1 E) _ _ C hP (vaD_of hE (fun _ hq => hq) h) va_S.rf (lsr_of hls hlen) ?_
  intro v h' H' locs' lsr' pc' hq hr hP' hS' hd
  match v, hq, hr, hd with
  | .ref x, hq, hr, hd =>
    exact W.aret (v := .ref (E.1 x)) B.exec B.bytes (B.returns.trans hrt) (Or.inl ⟨_, rfl⟩) (Or.inr ⟨_, rfl⟩) (fun t2 ht hW => ⟨⟨(h', x), E.1 x, rfl, trivial, hq, rfl, by unfold BX; rw [ht]; exact hP'⟩, hS'.F ht⟩) hS'.2.2 hd
end Intro
section Mono
variable {E : EnvX} {L mi t : Nat} {as : List Value} {h : Hp}
theorem ConI.mono {post post' : Int32 → Hp → Prop} (H : ConI E L mi t as h post) (k : ∀ x h', post x h' → post' x h') : ConI E L mi t as h post' := by
  obtain ⟨h1, h2, h3, h4⟩ := H
  refine ⟨h1, h2, h3, MetFree.mono h4 (fun _ _ q => q) (fun _ _ _ _ _ q => q) (fun a s o t _ q => ⟨?_, q.2⟩)⟩
  obtain ⟨⟨r, u, e1, e2, e3⟩, e4⟩ := q.1
  exact ⟨⟨r, u, e1, k r u e2, e3⟩, e4⟩
theorem ConL.mono {post post' : Int64 → Hp → Prop} (H : ConL E L mi t as h post) (k : ∀ x h', post x h' → post' x h') : ConL E L mi t as h post' := by
  obtain ⟨h1, h2, h3, h4⟩ := H
  refine ⟨h1, h2, h3, MetFree.mono h4 (fun _ _ q => q) (fun _ _ _ _ _ q => q) (fun a s o t _ q => ⟨?_, q.2⟩)⟩
  obtain ⟨⟨r, u, e1, e2, e3⟩, e4⟩ := q.1
  exact ⟨⟨r, u, e1, k r u e2, e3⟩, e4⟩
theorem ConV.mono {post post' : Hp → Prop} (H : ConV E L mi t as h post) (k : ∀ h', post h' → post' h') : ConV E L mi t as h post' := by
  obtain ⟨h1, h2, h3, h4⟩ := H
  refine ⟨h1, h2, h3, MetFree.mono h4 (fun _ _ q => q) (fun _ _ _ _ _ q => q) (fun a s o t _ q => ⟨?_, q.2⟩)⟩
  obtain ⟨⟨u, e1, e2, e3⟩, e4⟩ := q.1
  exact ⟨⟨u, e1, k u e2, e3⟩, e4⟩
theorem ConA.mono {post post' : Nat → Hp → Prop} (H : ConA E L mi t as h post) (k : ∀ x h', post x h' → post' x h') : ConA E L mi t as h post' := by
  obtain ⟨h1, h2, h3, h4⟩ := H
  refine ⟨h1, h2, h3, MetFree.mono h4 (fun _ _ q => q) (fun _ _ _ _ _ q => q) (fun a s o t _ q => ⟨?_, q.2⟩)⟩
  obtain ⟨⟨u, a2, e1, e2, e3⟩, e4⟩ := q.1
  exact ⟨⟨u, a2, e1, e2, k _ _ e3.1, e3.2⟩, e4⟩
/-- a call that answers x and changes nothing -/
def RdI (E : EnvX) (L mi t : Nat) (as : List Value) (h : Hp) (x : Int32) : Prop := ConI E L mi t as h (fun y h' => y = x ∧ h' = h)
theorem RdI.use {x : Int32} {post : Int32 → Hp → Prop} (H : RdI E L mi t as h x) (k : post x h) : ConI E L mi t as h post := ConI.mono H (fun y h' e => by obtain ⟨rfl, rfl⟩ := e; exact k)
theorem RdI.eq {x y : Int32} (H : RdI E L mi t as h x) (e : x = y) : RdI E L mi t as h y := e ▸ H
/-- a call that answers x and leaves h1 -/
def WrI (E : EnvX) (L mi t : Nat) (as : List Value) (h : Hp) (x : Int32) (h1 : Hp) : Prop := ConI E L mi t as h (fun y h' => y = x ∧ h' = h1)
theorem WrI.use {x : Int32} {h1 : Hp} {post : Int32 → Hp → Prop} (H : WrI E L mi t as h x h1) (k : post x h1) : ConI E L mi t as h post := ConI.mono H (fun y h' e => by obtain ⟨rfl, rfl⟩ := e; exact k)
def WrV (E : EnvX) (L mi t : Nat) (as : List Value) (h : Hp) (h1 : Hp) : Prop := ConV E L mi t as h (fun h' => h' = h1)
theorem WrV.use {h1 : Hp} {post : Hp → Prop} (H : WrV E L mi t as h h1) (k : post h1) : ConV E L mi t as h post := ConV.mono H (fun h' e => by rw [e]; exact k)
end Mono
/-- a loop that counts up: what holds at the end and is handed down holds at the beginning -/
theorem upto {P : Nat → Prop} {n : Nat} (he : P n) (hs : ∀ k, k < n → P (k + 1) → P k) : ∀ k, k ≤ n → P k := by
  intro k hk
  obtain ⟨d, rfl⟩ : ∃ d, n = k + d := ⟨n - k, by omega⟩
  clear hk
  induction d generalizing k with
  | zero => exact he
  | succ d ih =>
    refine hs k (by omega) (ih (k + 1) ?_ ?_)
    · rw [show k + 1 + d = k + (d + 1) by omega]; exact he
    · intro j hj; exact hs j (by omega)
/-- entries that want words -/
def ndW (e : Ent) : Bool := match e.2.1 with
  | .getfield _ => true
  | .putfield _ => true
  | .ldc _ => true
  | .ldc_w _ => true
  | .ldc2_w _ => true
  | .getstatic _ => true
  | .invokevirtual _ => true
  | .invokestatic _ => true
  | _ => false
theorem ndW_no {mi : Nat} {e : Ent} (h : ndW e = false) : entW mi e := by
  obtain ⟨pc, ins, nx, a, b, l, v, w⟩ := e
  cases ins <;> first | trivial | cases h
theorem KOk_of {mi : Nat} {K Kf : List Ent} (h1 : K.all (entB (md mi)) = true) (h2 : K.filter ndW = Kf) (h3 : ∀ e ∈ Kf, entW mi e) (h4 : contB K = true) : KOk mi K := by
  refine ⟨fun e he => ⟨List.all_eq_true.mp h1 e he, ?_⟩, h4⟩
  cases hn : ndW e
  · exact ndW_no hn
  · exact h3 e (h2 ▸ List.mem_filter.mpr ⟨he, hn⟩)
theorem all_app {f : Ent → Bool} {a b : List Ent} (ha : a.all f = true) (hb : b.all f = true) : (a ++ b).all f = true := by rw [List.all_append, ha, hb]; rfl
theorem blkAt {E : EnvX} {L mi t : Nat} {K : List Ent} {Q : Value → Hp → Prop} {ls : List (Option Value)} {st : List Value} {h : Hp} (hK : KOk mi K) (z n : Nat) (hz : hdE (jmp K z).tail = z) (hw : wpx E L mi t K Q n (jmp K z).tail ls st h) : wpR E L mi t z ls st h Q := by
  have h1 : KOk mi (jmp K z) := KOk_jmp hK
  have h2 : KOk mi (jmp K z).tail := by
    cases hj : jmp K z with
    | nil => rw [hj] at h1; exact h1
    | cons e r => rw [hj] at h1; exact h1.tl
  have h3 := wpx_sound hK n (jmp K z).tail ls st h h2 hw
  rwa [hz] at h3
