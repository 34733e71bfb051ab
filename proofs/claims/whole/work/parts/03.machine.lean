/-! ===== the machine in small: states over numbered cells; what a step asks (wpx) ===== -/
/-- addresses, array classes, classes, slots, the script's length and ints, the launch, the texts' byte arrays -/
abbrev EnvX : Type := (Nat → Nat) × (Nat → ClassId) × (Nat → ClassId) × (Nat → Nat → Nat) × Nat × (Nat → Int32) × Launch × (Nat → Nat)
abbrev Hp : Type := (Nat → Nat → Int32) × (Nat → Nat → Int32) × (Nat → Nat → Int64)
abbrev Ent : Type := Nat × Instr × Nat × Nat × Nat × List Nat × Int32 × Int64
def e0 (pc : Nat) (ins : Instr) (nx : Nat) : Ent := (pc, ins, nx, 0, 0, [], 0, 0)
def eV (pc : Nat) (ins : Instr) (nx : Nat) (v : Int32) : Ent := (pc, ins, nx, 0, 0, [], v, 0)
def eW (pc : Nat) (ins : Instr) (nx : Nat) (w : Int64) : Ent := (pc, ins, nx, 0, 0, [], 0, w)
def eJ (pc : Nat) (ins : Instr) (nx b : Nat) : Ent := (pc, ins, nx, 0, b, [], 0, 0)
def eF (pc : Nat) (ins : Instr) (nx a b : Nat) (l : List Nat) : Ent := (pc, ins, nx, a, b, l, 0, 0)
def shA (id : Nat) : Nat × Nat × List Nat := shp.getD id (9, 0, [])
def akd (id : Nat) : Nat := (shA id).1
def cls (id : Nat) : Nat := match shA id with
  | (0, c, _) => c
  | _ => 99
def aln (id : Nat) : Nat := match shA id with
  | (4, _, l) => l.length
  | (_, n, _) => n
def spc (id k : Nat) : Nat := (shA id).2.2.getD k 0
def rf (id k : Nat) : Nat := spc id k - 2
def rfa (id j : Nat) : Nat := (shA id).2.2.getD j 0
def fv (E : EnvX) (h : Hp) (id k : Nat) (sp : Nat) : Value := match sp with
  | 0 => .int (h.1 id k)
  | 1 => .ref (E.1 (h.1 id k).toNatClampNeg)
  | t + 2 => .ref (E.1 t)
def cellX (E : EnvX) (h : Hp) (id : Nat) : va_E := match shA id with
  | (0, c, l) => .inr (c, (List.range l.length).map (fun k => fv E h id k (l.getD k 0)))
  | (1, n, _) => .inl (E.2.1 id, n, .inl (h.2.1 id))
  | (2, n, _) => .inl (E.2.1 id, n, .inr (.inl (h.2.2 id)))
  | (3, n, _) => .inl (E.2.1 id, n, .inl (h.2.1 id))
  | (_, _, l) => .inl (E.2.1 id, l.length, .inr (.inr (.inr (.inr (fun j => (l[j]?).map E.1)))))
def worldX (E : EnvX) (h : Hp) : va_W := (List.range nC).map (fun id => (E.1 id, cellX E h id))
def rty : Nat → FieldType
  | 0 => .object "LargerWithin$Row"
  | 1 => .object "LargerWithin$Store"
  | _ => .object "LargerWithin$Layout"
def aty (id : Nat) : FieldType := match shA id with
  | (1, _, _) => .int
  | (2, _, _) => .long
  | (3, _, _) => .boolean
  | (_, t, _) => rty t
def tysX (E : EnvX) : List (ClassId × FieldType) := ((List.range nC).filter (fun id => akd id != 0)).map (fun id => (E.2.1 id, aty id))
def dX (E : EnvX) : va_G := (E.2.2.1, E.2.2.2.1)
def A1 (E : EnvX) (q : Nat) : Prop := ∃ id, id < nC ∧ q = E.1 id
def EOk (E : EnvX) : Prop := ∀ i j, i < nC → j < nC → E.1 i = E.1 j → i = j
def sI (h : Hp) (r k : Nat) (v : Int32) : Hp := (fun q => if q = r then upd (h.1 r) k v else h.1 q, h.2)
def sA (h : Hp) (r k : Nat) (v : Int32) : Hp := (h.1, fun q => if q = r then upd (h.2.1 r) k v else h.2.1 q, h.2.2)
def sL (h : Hp) (r k : Nat) (v : Int64) : Hp := (h.1, h.2.1, fun q => if q = r then vp_updL (h.2.2 r) k v else h.2.2 q)
def sC (h : Hp) (r q : Nat) (sp dp n : Nat) : Hp := (h.1, fun z => if z = q then va_cpy (h.2.1 r) (h.2.1 q) sp dp n else h.2.1 z, h.2.2)
/-- constant rows: 900 the script, 901 to 904 the reader's static rows -/
def cst (E : EnvX) (a : Nat) : Nat → Int32 := match a with
  | 900 => E.2.2.2.2.2.1
  | 901 => fun j => ([0, 1, 4, 5, 2, 6] : List Int32).getD j 0
  | 902 => fun j => ([99, 99, 99, 64, 99, 9999] : List Int32).getD j 0
  | 903 => fun j => ([0, 1, 2, 3] : List Int32).getD j 0
  | _ => fun j => ([999, 99, 99, 99] : List Int32).getD j 0
def cln (E : EnvX) (a : Nat) : Nat := match a with
  | 900 => E.2.2.2.2.1
  | 901 => 6
  | 902 => 6
  | 903 => 4
  | _ => 4
def cnm (a : Nat) : String := match a with
  | 901 => "BOX_KINDS"
  | 902 => "BOX_MOST"
  | 903 => "THING_KINDS"
  | _ => "THING_MOST"
def sTx (i : Nat) : String := match i with
  | 0 => ""
  | 1 => "box#by#lid#times#weight#bears#;"
  | 2 => "thing#by#weight#worth#;"
  | _ => " box by lid times weight bears thing worth "
def sB0 : List Int32 := []
def sB1 : List Int32 := [98, 111, 120, 35, 98, 121, 35, 108, 105, 100, 35, 116, 105, 109, 101, 115, 35, 119, 101, 105, 103, 104, 116, 35, 98, 101, 97, 114, 115, 35, 59]
def sB2 : List Int32 := [116, 104, 105, 110, 103, 35, 98, 121, 35, 119, 101, 105, 103, 104, 116, 35, 119, 111, 114, 116, 104, 35, 59]
def sB3 : List Int32 := [32, 98, 111, 120, 32, 98, 121, 32, 108, 105, 100, 32, 116, 105, 109, 101, 115, 32, 119, 101, 105, 103, 104, 116, 32, 98, 101, 97, 114, 115, 32, 116, 104, 105, 110, 103, 32, 119, 111, 114, 116, 104, 32]
def sBy (i : Nat) : List Int32 := match i with
  | 0 => sB0
  | 1 => sB1
  | 2 => sB2
  | _ => sB3
/-- what is constant: rows, statics, texts; A: what may change -/
def Sx (E : EnvX) (A : Nat → Prop) (U : State) : Prop :=
  (∀ a, 900 ≤ a → a ≤ 904 → va_T .int (E.1 a) (cln E a) (fun j => .int (cst E a j)) A U U.heap) ∧
  (∀ a, 901 ≤ a → a ≤ 904 → va_Z "LargerWithin$Reader" (cnm a) "[I" (.ref (E.1 a)) A U U.heap) ∧
  vk_S 4 [0, 31, 23, 43] [sB0, sB1, sB2, sB3] (fun i => E.1 (950 + i)) E.2.2.2.2.2.2.2 A U U.heap ∧
  (vk_R "LargerWithin$Reader" 26 (sTx 0) (E.1 950) U ∧ vk_R "LargerWithin$Reader" 100 (sTx 1) (E.1 951) U ∧ vk_R "LargerWithin$Reader" 106 (sTx 2) (E.1 952) U ∧ vk_R "LargerWithinModel" 89 (sTx 3) (E.1 953) U) ∧
  va_Z "java/lang/String" "COMPACT_STRINGS" "Z" (.int 1) A U U.heap ∧
  va_Zq "jdk/internal/util/Preconditions" "SIOOBE_FORMATTER" "Ljava/util/function/BiFunction;" A U U.heap ∧
  va_Nw (.methodLinkNest "LargerWithin$Store" 51 ⟨"LargerWithin", "roomBy", "(III)I"⟩ "LargerWithin") U
def rv (E : EnvX) (t : Nat) : Value → Value
  | .ref a => .ref (E.1 a)
  | .retAddr _ => .ref (E.1 t)
  | v => v
def rmX (L : Nat) : Room := { frames := L + 8, cells := 0, slots := 0, locals := 64 * (L + 8) }
def wsX (mi : Nat) : List Cond := .code (md mi).1 (md mi).2.1 (md mi).2.2.1 (md mi).2.2.2.1 :: tg
/-- what holds at a method's beginning -/
def PcX (E : EnvX) (t : Nat) (as : List Value) (h : Hp) : Array Value → State → Prop :=
  va_Pc (as.map (rv E t)) (fun U => va_P (dX E) vwCl (worldX E h) U.heap ∧ va_K (dX E) vwCl (tysX E) U ∧ Sx E (A1 E) U)
def BX (E : EnvX) (u : Hp) (t : State) : Prop := va_P (dX E) vwCl (worldX E u) t.heap
/-- the receiver is an object of the method's class (99: a static method) -/
def thX (mi t : Nat) : Prop := (md mi).2.2.2.2.2 = 99 ∨ cls t = (md mi).2.2.2.2.2
def asX (mi t : Nat) (as : List Value) : List Value := if (md mi).2.2.2.2.2 = 99 then as else .retAddr t :: as
def ConI (E : EnvX) (L mi t : Nat) (as : List Value) (h : Hp) (post : Int32 → Hp → Prop) : Prop :=
  1 ≤ L ∧ EOk E ∧ thX mi t ∧ Met E.2.2.2.2.2.2.1 (md mi).1 (wsX mi) (rmX L) (PcX E t (asX mi t as) h) (va_Qi post (BX E) (A1 E)) 0 0 (A1 E)
def ConL (E : EnvX) (L mi t : Nat) (as : List Value) (h : Hp) (post : Int64 → Hp → Prop) : Prop :=
  1 ≤ L ∧ EOk E ∧ thX mi t ∧ Met E.2.2.2.2.2.2.1 (md mi).1 (wsX mi) (rmX L) (PcX E t (asX mi t as) h) (va_Ql post (BX E) (A1 E)) 0 0 (A1 E)
def ConV (E : EnvX) (L mi t : Nat) (as : List Value) (h : Hp) (post : Hp → Prop) : Prop :=
  1 ≤ L ∧ EOk E ∧ thX mi t ∧ Met E.2.2.2.2.2.2.1 (md mi).1 (wsX mi) (rmX L) (PcX E t (asX mi t as) h) (va_Qv post (BX E) (A1 E)) 0 0 (A1 E)
/-- a reference comes back: the cell q -/
def ConA (E : EnvX) (L mi t : Nat) (as : List Value) (h : Hp) (post : Nat → Hp → Prop) : Prop :=
  1 ≤ L ∧ EOk E ∧ thX mi t ∧ Met E.2.2.2.2.2.2.1 (md mi).1 (wsX mi) (rmX L) (PcX E t (asX mi t as) h) (va_Qr (fun _ => True) (fun (u : Hp × Nat) a t => post u.2 u.1 ∧ a = E.1 u.2 ∧ BX E u.1 t) (A1 E)) 0 0 (A1 E)
/-- what a walk in a method has at hand -/
def CtxX (E : EnvX) (L mi t : Nat) (p : Program) (R : Room) (s : State) (m : MethodId) (args : Array Value) (c : Code) (cells slots : Nat) (A : Nat → Prop) : Prop :=
  p.tables.exec = Jvm.exec ∧ c.code = (md mi).2.1 ∧ c.maxLocals = (md mi).2.2.1 ∧ s.vm.findClass (md mi).2.2.2.2.1 = some m.cls ∧ (∀ w ∈ tg, w.before args s = true) ∧
  va_K (dX E) vwCl (tysX E) s ∧ Sx E A s ∧ EOk E ∧ (∀ q, A1 E q → A q) ∧ (1 ≤ L ∧ L + 8 ≤ R.frames ∧ 64 * (L + 8) ≤ R.locals ∧ cells ≤ R.cells ∧ slots ≤ R.slots) ∧ thX mi t
def lsX (E : EnvX) (t : Nat) : Nat → List (Option Value) → List (Nat × Value)
  | _, [] => []
  | k, none :: r => lsX E t (k + 1) r
  | k, some v :: r => (k, rv E t v) :: lsX E t (k + 1) r
def rtX (mi : Nat) (v : Value) : Prop := (md mi).2.2.2.1 = some .boolean → v = .int 0 ∨ v = .int 1
def rsX (v : Value) : List Value := match v with
  | .null => []
  | v => [v]
/-- from here the method comes to a return with Q -/
def wpR (E : EnvX) (L mi t pc : Nat) (ls : List (Option Value)) (st : List Value) (h : Hp) (Q : Value → Hp → Prop) : Prop :=
  ∀ (p : Program) (e : Env) (R : Room) (s : State) (m : MethodId) (args : Array Value) (below : List Frame) (meth : Method) (c : Code) (H : Heap) (locs : List Loc) (cells slots : Nat) (A : Nat → Prop) (Qm : State → Prop) (lsr : Array Slot),
    CtxX E L mi t p R s m args c cells slots A → va_P (dX E) vwCl (worldX E h) H → va_D A (worldX E h) → va_S A s.heap H locs →
    lv_has lsr (md mi).2.2.1 (lsX E t 0 ls) →
    (∀ (v : Value) (h' : Hp) (H' : Heap) (locs' : List Loc) (lsr' : Array Slot) (pc' : Nat), Q v h' → rtX mi v → va_P (dX E) vwCl (worldX E h') H' → va_S A s.heap H' locs' →
      (match v with
        | .int _ => decode (md mi).2.1 pc' = .ok (.ireturn, 1)
        | .long _ => decode (md mi).2.1 pc' = .ok (.lreturn, 1)
        | .ref _ => decode (md mi).2.1 pc' = .ok (.areturn, 1)
        | .null => decode (md mi).2.1 pc' = .ok (.return_, 1)
        | _ => False) →
      W p E.2.2.2.2.2.2.1 e R s m args below meth c H' locs' cells slots Qm (F0 m pc' lsr' ((rsX v).map (rv E t)))) →
    W p E.2.2.2.2.2.2.1 e R s m args below meth c H locs cells slots Qm (F0 m pc lsr (st.map (rv E t)))
def nthO : List (Option Value) → Nat → Option Value
  | [], _ => none
  | v :: _, 0 => v
  | _ :: r, i + 1 => nthO r i
def setO : List (Option Value) → Nat → Option Value → List (Option Value)
  | [], _, _ => []
  | _ :: r, 0, x => x :: r
  | v :: r, i + 1, x => v :: setO r i x
def clrO (ls : List (Option Value)) (i : Nat) : List (Option Value) := match i with
  | 0 => ls
  | j + 1 => match nthO ls j with
    | some (.long _) => setO ls j none
    | some (.double _) => setO ls j none
    | _ => ls
def mskO (a : Nat) : Nat → List (Option Value) → List (Option Value)
  | _, [] => []
  | k, v :: r => (match a.testBit k with
    | true => v
    | false => none) :: mskO a (k + 1) r
def jmp : List Ent → Nat → List Ent
  | [], _ => []
  | e :: r, t => match Nat.beq e.1 t with
    | true => e :: r
    | false => jmp r t
def hdE : List Ent → Nat
  | [] => 0
  | e :: _ => e.1
def cats : List Value → Nat
  | [] => 0
  | v :: r => v.category + cats r
def lI (ls : List (Option Value)) (i : Nat) (k : Int32 → Prop) : Prop := match nthO ls i with
  | some (.int x) => k x
  | _ => False
def lJ (ls : List (Option Value)) (i : Nat) (k : Int64 → Prop) : Prop := match nthO ls i with
  | some (.long x) => k x
  | _ => False
def ifX (b : Bool) (x y : Prop) : Prop := match b with
  | true => x
  | false => y
def rbX (l : List Nat) (x : Int32) (q : Prop) : Prop := match l with
  | [1] => (x = 0 ∨ x = 1) ∧ q
  | [2] => ifX (decide (x = 0) || decide (x = 1)) q False
  | _ => q
def lA (ls : List (Option Value)) (i : Nat) (k : Value → Prop) : Prop := match nthO ls i with
  | some (.ref x) => k (.ref x)
  | some (.retAddr x) => k (.retAddr x)
  | _ => False
def pI (st : List Value) (k : Int32 → List Value → Prop) : Prop := match st with
  | .int x :: r => k x r
  | _ => False
def pII (st : List Value) (k : Int32 → Int32 → List Value → Prop) : Prop := match st with
  | .int y :: .int x :: r => k x y r
  | _ => False
def pJ (st : List Value) (k : Int64 → List Value → Prop) : Prop := match st with
  | .long x :: r => k x r
  | _ => False
def pJJ (st : List Value) (k : Int64 → Int64 → List Value → Prop) : Prop := match st with
  | .long y :: .long x :: r => k x y r
  | _ => False
def pIJ (st : List Value) (k : Int64 → Int32 → List Value → Prop) : Prop := match st with
  | .int y :: .long x :: r => k x y r
  | _ => False
def pR (st : List Value) (k : Nat → List Value → Prop) : Prop := match st with
  | .ref x :: r => k x r
  | _ => False
def pV (t : Nat) (st : List Value) (k : Nat → List Value → Prop) : Prop := match st with
  | .ref x :: r => k x r
  | .retAddr _ :: r => k t r
  | _ => False
def pIR (st : List Value) (k : Nat → Int32 → List Value → Prop) : Prop := match st with
  | .int i :: .ref a :: r => k a i r
  | _ => False
def pIIR (st : List Value) (k : Nat → Int32 → Int32 → List Value → Prop) : Prop := match st with
  | .int x :: .int i :: .ref a :: r => k a i x r
  | _ => False
def pJIR (st : List Value) (k : Nat → Int32 → Int64 → List Value → Prop) : Prop := match st with
  | .long x :: .int i :: .ref a :: r => k a i x r
  | _ => False
def pop (t : Nat) : Nat → List Value → List Value → (List Value → List Value → Prop) → Prop
  | 0, acc, st, k => k acc st
  | n + 1, acc, .retAddr _ :: st, k => pop t n (.ref t :: acc) st k
  | n + 1, acc, v :: st, k => pop t n (v :: acc) st k
  | _ + 1, _, [], _ => False
def cmpX (c : Jvm.ClassFile.Cond) (x y : Int32) : Prop := match c with
  | .eq => x = y
  | .ne => ¬ x = y
  | .lt => x < y
  | .ge => y ≤ x
  | .gt => y < x
  | .le => x ≤ y
def ncmpX (c : Jvm.ClassFile.Cond) (x y : Int32) : Prop := match c with
  | .eq => ¬ x = y
  | .ne => x = y
  | .lt => ¬ x < y
  | .ge => ¬ y ≤ x
  | .gt => ¬ y < x
  | .le => ¬ x ≤ y
def swX (k : Nat → Prop) (d : Nat) (x : Int32) : Nat → List Nat → Prop
  | i, [] => ((x < 0 ∨ nI i ≤ x) → k d)
  | i, t :: ts => (x = nI i → k t) ∧ swX k d x (i + 1) ts
def inI (a : Nat) (i : Int32) : Prop := akd a = 1 ∧ vp_in i (aln a)
def inJ (a : Nat) (i : Int32) : Prop := akd a = 2 ∧ vp_in i (aln a)
def inZ (a : Nat) (i : Int32) : Prop := akd a = 3 ∧ vp_in i (aln a)
def inR (a : Nat) (i : Int32) : Prop := akd a = 4 ∧ vp_in i (aln a)
def inC (E : EnvX) (a : Nat) (i : Int32) : Prop := (900 ≤ a ∧ a ≤ 904) ∧ vp_in i (cln E a)
def isS (a : Nat) : Prop := 950 ≤ a ∧ a ≤ 953
def fvX (h : Hp) (r b : Nat) (l : List Nat) : Value := match l with
  | [0] => .int (h.1 r b)
  | [3] => .int (h.1 r b)
  | [1] => .ref (h.1 r b).toNatClampNeg
  | _ => .ref (rf r b)
def calX (E : EnvX) (L a t : Nat) (as : List Value) (h : Hp) (l : List Nat) (rest : List Value) (k : List Value → Hp → Prop) : Prop :=
  ifX (Nat.ble (cats rest) 8) (match l with
    | 0 :: _ => ConI E (L - 1) a t as h (fun x h' => k (.int x :: rest) h')
    | 1 :: _ => ConL E (L - 1) a t as h (fun x h' => k (.long x :: rest) h')
    | 2 :: _ => ConV E (L - 1) a t as h (fun h' => k rest h')
    | _ => ConA E (L - 1) a t as h (fun q h' => k (.ref q :: rest) h')) False
/-- calls that the machine does itself: 990 String.length, 991 isEmpty, 992 charAt, 993 arraycopy of ints, 994 min, 995 max, 996 abs -/
def natX (a : Nat) (st : List Value) (h : Hp) (k : List Value → Hp → Prop) : Prop := match a with
  | 990 => pR st (fun q r => isS q ∧ Nat.ble (cats r) 8 = true ∧ k (.int (nI (sBy (q - 950)).length) :: r) h)
  | 991 => pR st (fun q r => isS q ∧ Nat.ble (cats r) 8 = true ∧ k (.int (if q = 950 then 1 else 0) :: r) h)
  | 992 => pIR st (fun q i r => isS q ∧ Nat.ble (cats r) 8 = true ∧ vp_in i (sBy (q - 950)).length ∧ k (.int ((sBy (q - 950)).getD i.toNatClampNeg 0) :: r) h)
  | 994 => pII st (fun x y r => Nat.ble (cats r) 8 = true ∧ k (.int (if y < x then y else x) :: r) h)
  | 995 => pII st (fun x y r => Nat.ble (cats r) 8 = true ∧ k (.int (if x < y then y else x) :: r) h)
  | 996 => pI st (fun x r => Nat.ble (cats r) 8 = true ∧ k (.int (if 0 ≤ x then x else 0 - x) :: r) h)
  | _ => match st with
    | .int n :: .int dp :: .ref q1 :: .int sp :: .ref q0 :: r => Nat.ble (cats r) 8 = true ∧ (akd q0 = 1 ∧ akd q1 = 1 ∧ q0 ≠ q1 ∧ 0 ≤ sp ∧ 0 ≤ dp ∧ 0 ≤ n ∧ sp.toNatClampNeg + n.toNatClampNeg ≤ aln q0 ∧ dp.toNatClampNeg + n.toNatClampNeg ≤ aln q1) ∧ k r (sC h q0 q1 sp.toNatClampNeg dp.toNatClampNeg n.toNatClampNeg)
    | _ => False
def wpx (E : EnvX) (L mi t : Nat) (K : List Ent) (Q : Value → Hp → Prop) : Nat → List Ent → List (Option Value) → List Value → Hp → Prop
  | _, [], _, _, _ => False
  | 0, e :: _, ls, st, h => wpR E L mi t e.1 ls st h Q
  | n + 1, (pc, ins, _, a, b, l, v, w) :: cs, ls, st, h => match ins with
    | .nop => wpR E L mi t pc (mskO a 0 ls) st h Q
    | .iconst _ => wpx E L mi t K Q n cs ls (.int v :: st) h
    | .bipush _ => wpx E L mi t K Q n cs ls (.int v :: st) h
    | .sipush _ => wpx E L mi t K Q n cs ls (.int v :: st) h
    | .ldc _ => match l with
      | [] => wpx E L mi t K Q n cs ls (.int v :: st) h
      | q :: _ => wpx E L mi t K Q n cs ls (.ref q :: st) h
    | .ldc_w _ => wpx E L mi t K Q n cs ls (.int v :: st) h
    | .ldc2_w _ => wpx E L mi t K Q n cs ls (.long w :: st) h
    | .lconst _ => wpx E L mi t K Q n cs ls (.long w :: st) h
    | .iload i => lI ls i (fun x => wpx E L mi t K Q n cs ls (.int x :: st) h)
    | .iload_n i => lI ls i.1 (fun x => wpx E L mi t K Q n cs ls (.int x :: st) h)
    | .lload i => lJ ls i (fun x => wpx E L mi t K Q n cs ls (.long x :: st) h)
    | .lload_n i => lJ ls i.1 (fun x => wpx E L mi t K Q n cs ls (.long x :: st) h)
    | .aload i => lA ls i (fun x => wpx E L mi t K Q n cs ls (x :: st) h)
    | .aload_n i => lA ls i.1 (fun x => wpx E L mi t K Q n cs ls (x :: st) h)
    | .istore i => pI st (fun x r => wpx E L mi t K Q n cs (setO (clrO ls i) i (some (.int x))) r h)
    | .istore_n i => pI st (fun x r => wpx E L mi t K Q n cs (setO (clrO ls i.1) i.1 (some (.int x))) r h)
    | .lstore i => pJ st (fun x r => wpx E L mi t K Q n cs (setO (setO (clrO ls i) i (some (.long x))) (i + 1) none) r h)
    | .lstore_n i => pJ st (fun x r => wpx E L mi t K Q n cs (setO (setO (clrO ls i.1) i.1 (some (.long x))) (i.1 + 1) none) r h)
    | .astore i => pR st (fun x r => wpx E L mi t K Q n cs (setO (clrO ls i) i (some (.ref x))) r h)
    | .astore_n i => pR st (fun x r => wpx E L mi t K Q n cs (setO (clrO ls i.1) i.1 (some (.ref x))) r h)
    | .iinc i _ => lI ls i (fun x => wpx E L mi t K Q n cs (setO (clrO ls i) i (some (.int (x + v)))) st h)
    | .iadd => pII st (fun x y r => wpx E L mi t K Q n cs ls (.int (x + y) :: r) h)
    | .isub => pII st (fun x y r => wpx E L mi t K Q n cs ls (.int (x - y) :: r) h)
    | .imul => pII st (fun x y r => wpx E L mi t K Q n cs ls (.int (x * y) :: r) h)
    | .idiv => pII st (fun x y r => ¬ y = 0 ∧ wpx E L mi t K Q n cs ls (.int (x / y) :: r) h)
    | .irem => pII st (fun x y r => ¬ y = 0 ∧ wpx E L mi t K Q n cs ls (.int (x - x / y * y) :: r) h)
    | .ineg => pI st (fun x r => wpx E L mi t K Q n cs ls (.int (-x) :: r) h)
    | .iand => pII st (fun x y r => wpx E L mi t K Q n cs ls (.int (x &&& y) :: r) h)
    | .ior => pII st (fun x y r => wpx E L mi t K Q n cs ls (.int (x ||| y) :: r) h)
    | .ixor => pII st (fun x y r => wpx E L mi t K Q n cs ls (.int (x ^^^ y) :: r) h)
    | .ishl => pII st (fun x y r => wpx E L mi t K Q n cs ls (.int (x <<< (y &&& 31)) :: r) h)
    | .ishr => pII st (fun x y r => wpx E L mi t K Q n cs ls (.int (x >>> (y &&& 31)) :: r) h)
    | .iushr => pII st (fun x y r => wpx E L mi t K Q n cs ls (.int (x.toUInt32 >>> (y.toUInt32 &&& Int32.toUInt32 31)).toInt32 :: r) h)
    | .lsub => pJJ st (fun x y r => wpx E L mi t K Q n cs ls (.long (x - y) :: r) h)
    | .land => pJJ st (fun x y r => wpx E L mi t K Q n cs ls (.long (x &&& y) :: r) h)
    | .lor => pJJ st (fun x y r => wpx E L mi t K Q n cs ls (.long (x ||| y) :: r) h)
    | .ldiv => pJJ st (fun x y r => ¬ y = 0 ∧ wpx E L mi t K Q n cs ls (.long (x / y) :: r) h)
    | .lrem => pJJ st (fun x y r => ¬ y = 0 ∧ wpx E L mi t K Q n cs ls (.long (x - x / y * y) :: r) h)
    | .lshl => pIJ st (fun x y r => wpx E L mi t K Q n cs ls (.long (x <<< (y.toInt64 &&& 63)) :: r) h)
    | .lcmp => pJJ st (fun x y r => wpx E L mi t K Q n cs ls (.int (lg_cmp x y) :: r) h)
    | .i2l => pI st (fun x r => wpx E L mi t K Q n cs ls (.long x.toInt64 :: r) h)
    | .l2i => pJ st (fun x r => wpx E L mi t K Q n cs ls (.int x.toInt32 :: r) h)
    | .i2b => pI st (fun x r => wpx E L mi t K Q n cs ls (.int x.toInt8.toInt32 :: r) h)
    | .i2s => pI st (fun x r => wpx E L mi t K Q n cs ls (.int x.toInt16.toInt32 :: r) h)
    | .dup => match st with
      | .int x :: r => wpx E L mi t K Q n cs ls (.int x :: .int x :: r) h
      | .ref x :: r => wpx E L mi t K Q n cs ls (.ref x :: .ref x :: r) h
      | .retAddr x :: r => wpx E L mi t K Q n cs ls (.retAddr x :: .retAddr x :: r) h
      | _ => False
    | .dup2 => pIR st (fun x i r => wpx E L mi t K Q n cs ls (.int i :: .ref x :: .int i :: .ref x :: r) h)
    | .pop => pI st (fun _ r => wpx E L mi t K Q n cs ls r h)
    | .goto _ => wpx E L mi t K Q n (jmp K b) ls st h
    | .ifCond c _ => pI st (fun x r => (cmpX c x 0 → wpx E L mi t K Q n (jmp K b) ls r h) ∧ (ncmpX c x 0 → wpx E L mi t K Q n cs ls r h))
    | .if_icmp c _ => pII st (fun x y r => (cmpX c x y → wpx E L mi t K Q n (jmp K b) ls r h) ∧ (ncmpX c x y → wpx E L mi t K Q n cs ls r h))
    | .tableswitch _ _ _ _ => pI st (fun x r => swX (fun z => wpx E L mi t K Q n (jmp K z) ls r h) a x 0 l)
    | .getfield _ => match st with
      | .retAddr _ :: r => wpx E L mi t K Q n cs ls (fvX h t b l :: r) h
      | .ref q :: r => cls q = a ∧ wpx E L mi t K Q n cs ls (fvX h q b l :: r) h
      | _ => False
    | .putfield _ => match st with
      | .int x :: .retAddr _ :: r => match l with
        | [0] => wpx E L mi t K Q n cs ls r (sI h t b x)
        | [3] => (x = 0 ∨ x = 1) ∧ wpx E L mi t K Q n cs ls r (sI h t b x)
        | _ => False
      | .ref q :: .retAddr _ :: r => match l with
        | [1] => isS q ∧ wpx E L mi t K Q n cs ls r (sI h t b (nI q))
        | _ => False
      | _ => False
    | .getstatic _ => wpx E L mi t K Q n cs ls (.ref a :: st) h
    | .iaload => pIR st (fun q i r => match b with
      | 0 => inI q i ∧ wpx E L mi t K Q n cs ls (.int (h.2.1 q i.toNatClampNeg) :: r) h
      | _ => inC E q i ∧ wpx E L mi t K Q n cs ls (.int (cst E q i.toNatClampNeg) :: r) h)
    | .baload => pIR st (fun q i r => inZ q i ∧ wpx E L mi t K Q n cs ls (.int (h.2.1 q i.toNatClampNeg) :: r) h)
    | .laload => pIR st (fun q i r => inJ q i ∧ wpx E L mi t K Q n cs ls (.long (h.2.2 q i.toNatClampNeg) :: r) h)
    | .aaload => pIR st (fun q i r => inR q i ∧ wpx E L mi t K Q n cs ls (.ref (rfa q i.toNatClampNeg) :: r) h)
    | .iastore => pIIR st (fun q i x r => inI q i ∧ wpx E L mi t K Q n cs ls r (sA h q i.toNatClampNeg x))
    | .bastore => pIIR st (fun q i x r => inZ q i ∧ (x = 0 ∨ x = 1) ∧ wpx E L mi t K Q n cs ls r (sA h q i.toNatClampNeg x))
    | .lastore => pJIR st (fun q i x r => inJ q i ∧ wpx E L mi t K Q n cs ls r (sL h q i.toNatClampNeg x))
    | .arraylength => pR st (fun q r => match b with
      | 0 => (akd q = 1 ∨ akd q = 2 ∨ akd q = 3) ∧ wpx E L mi t K Q n cs ls (.int (nI (aln q)) :: r) h
      | _ => (900 ≤ q ∧ q ≤ 904) ∧ wpx E L mi t K Q n cs ls (.int (nI (cln E q)) :: r) h)
    | .invokevirtual _ => ifX (Nat.ble 990 a) (natX a st h (fun st' h' => wpx E L mi t K Q n cs ls st' h'))
        (pop t b [] st (fun as st' => pV t st' (fun q r => calX E L a q as h l r (fun st'' h' => wpx E L mi t K Q n cs ls st'' h'))))
    | .invokestatic _ => ifX (Nat.ble 990 a) (natX a st h (fun st' h' => wpx E L mi t K Q n cs ls st' h'))
        (pop t b [] st (fun as r => calX E L a 0 as h l r (fun st'' h' => wpx E L mi t K Q n cs ls st'' h')))
    | .ireturn => match st with
      | [.int x] => rbX l x (Q (.int x) h)
      | _ => False
    | .lreturn => match st with
      | [.long x] => Q (.long x) h
      | _ => False
    | .areturn => match st with
      | [.ref x] => Q (.ref x) h
      | _ => False
    | .return_ => match st with
      | [] => Q .null h
      | _ => False
    | _ => False
