def sTx : List String := ["strength", "tribe", "water", "walk", "younger", "rain", "year", "house", "plot", "market", "eats", "worth", "yields", "or", "and", "not"]
def sLen : List Nat := [8, 5, 5, 4, 7, 4, 4, 5, 4, 6, 4, 5, 6, 2, 3, 3]
def sByt : List (List Int32) := [[115, 116, 114, 101, 110, 103, 116, 104], [116, 114, 105, 98, 101], [119, 97, 116, 101, 114], [119, 97, 108, 107], [121, 111, 117, 110, 103, 101, 114], [114, 97, 105, 110], [121, 101, 97, 114], [104, 111, 117, 115, 101], [112, 108, 111, 116], [109, 97, 114, 107, 101, 116], [101, 97, 116, 115], [119, 111, 114, 116, 104], [121, 105, 101, 108, 100, 115], [111, 114], [97, 110, 100], [110, 111, 116]]
/-- the string constants: class, place in its pool, which of the sixteen -/
def SRl : List (String × Nat × Nat) := [("SonsLot$Tokens", 75, 7), ("SonsLot$Tokens", 81, 8), ("SonsLot$Tokens", 83, 9), ("SonsLot$Tokens", 85, 10), ("SonsLot$Tokens", 87, 11), ("SonsLot$Tokens", 89, 12), ("SonsLot$Tokens", 91, 13), ("SonsLot$Tokens", 93, 14), ("SonsLot$Tokens", 95, 15), ("SonsLot$Tokens", 97, 0), ("SonsLot$Tokens", 99, 1), ("SonsLot$Tokens", 101, 2), ("SonsLot$Tokens", 103, 3), ("SonsLot$Tokens", 105, 4), ("SonsLot$Tokens", 107, 5), ("SonsLot$Tokens", 109, 6),
  ("SonsLotModel", 11, 0), ("SonsLotModel", 13, 1), ("SonsLotModel", 15, 2), ("SonsLotModel", 17, 3), ("SonsLotModel", 19, 4), ("SonsLotModel", 25, 5), ("SonsLotModel", 27, 6), ("SonsLotModel", 265, 9), ("SonsLotModel", 267, 10), ("SonsLotModel", 269, 11), ("SonsLotModel", 271, 12), ("SonsLotModel", 246, 15), ("SonsLotModel", 254, 14), ("SonsLotModel", 259, 13), ("SonsLotModel", 280, 7), ("SonsLotModel", 285, 8)]
/-- the private constructors of nest mates: caller, place in its pool, class -/
def NLl : List (String × Nat × String) := [("SonsLot", 9, "SonsLot$Tape"), ("SonsLot", 18, "SonsLot$Island"), ("SonsLot$Island", 35, "SonsLot$Rule"), ("SonsLot", 34, "SonsLot$Land"), ("SonsLot$Land", 17, "SonsLot$Island"), ("SonsLot", 41, "SonsLot$Chronicle"), ("SonsLot$Chronicle", 9, "SonsLot$State"), ("SonsLot$Chronicle", 18, "SonsLot$History"), ("SonsLot$Chronicle", 25, "SonsLot$Sights"), ("SonsLot", 51, "SonsLot$State"), ("SonsLot", 58, "SonsLot$Pairing")]
theorem va_AOA.moved {t : FieldType} {u U : State} (hvm : u.vm.Alike U.vm) (h : va_AOA t u) : va_AOA t U := by
  have h1 : (Cond.arrayOver (.array t)).before #[] (u.setVm U.vm) = true := by rw [Cond.arrayOver_setVmC hvm]; exact h
  exact h1
def iaeN : String := "java/lang/IllegalArgumentException"
def nseN : String := "java/util/NoSuchElementException"
def exN : Nat → String
  | 1 => nseN
  | _ => iaeN
/-- what the tables say -/
def Tb (E : EV) (U : State) : Prop :=
  va_K E.2.1 vwCl (tysOf E) U ∧ (∀ q ∈ NLl, va_Nw (.methodLinkNest q.1 q.2.1 ⟨q.2.2, "<init>", "()V"⟩ "SonsLot") U) ∧ (va_AOA .int U ∧ va_AOA .long U ∧ va_AO "java/lang/String" U) ∧
  (∀ q ∈ SRl, vk_R q.1 q.2.1 (sTx.getD q.2.2 "") (E.2.2.2.1 q.2.2) U) ∧ (va_Nw (.castable iaeN iaeN) U ∧ va_Nw (.castable nseN nseN) U ∧ va_Nw (.castable "java/lang/String" "java/lang/Object") U) ∧ (va_Nc iaeN nseN U ∧ va_Nc nseN iaeN U) ∧
  (∀ c ∈ ["java/lang/RuntimeException", "java/lang/Exception", "java/lang/Throwable"], va_Nw (.declares ⟨c, "<init>", "()V"⟩) U)
/-- what old cells say: the strings, two statics of Throwable -/
def Old (E : EV) (U : State) (H : Heap) : Prop :=
  vk_S 16 sLen sByt E.2.2.2.1 E.2.2.2.2 (Ab E) U H ∧ (vx_Zq Bundle.tN "UNASSIGNED_STACK" Bundle.steD (Ab E) U H ∧ vx_Zq Bundle.tN "SUPPRESSED_SENTINEL" Bundle.listD (Ab E) U H) ∧ va_Z "java/lang/String" "COMPACT_STRINGS" "Z" (.int 1) (Ab E) U H ∧ (va_Z "jdk/internal/util/Preconditions" "SIOOBE_FORMATTER" "Ljava/util/function/BiFunction;" .null (Ab E) U H ∨ va_Z "jdk/internal/util/Preconditions" "SIOOBE_FORMATTER" "Ljava/util/function/BiFunction;" (.ref (E.2.2.2.1 32)) (Ab E) U H) ∧ ∀ j, j < 16 → E.2.2.2.1 (16 + j) = E.2.2.2.2 j
theorem Tb.warm {E : EV} {s U : State} (hW : s.WarmedH U.vm) (h : Tb E s) : Tb E U := by
  obtain ⟨h1, h2, ⟨h3, h4, h5⟩, h6, ⟨h7, h8, h9⟩, ⟨h10, h11⟩, h12⟩ := h
  refine ⟨va_K.moved hW.alike h1, fun q hq => va_Nw.warmM hW (h2 q hq), ⟨va_AOA.moved hW.alike h3, va_AOA.moved hW.alike h4, va_AO.moved hW.alike h5⟩, fun q hq => vk_R.warm hW (h6 q hq), ⟨va_Nw.warmC hW h7, va_Nw.warmC hW h8, va_Nw.warmC hW h9⟩, ⟨va_Nc.moved hW.alike h10, va_Nc.moved hW.alike h11⟩, fun c hc => va_Nw.warmD hW (h12 c hc)⟩
theorem Old.moved {E : EV} {u U : State} {H : Heap} (hvm : u.vm.Alike U.vm) (h : Old E u H) : Old E U H := ⟨vk_S.moved hvm h.1, ⟨vx_Zq.moved hvm h.2.1.1, vx_Zq.moved hvm h.2.1.2⟩, va_Z.moved hvm h.2.2.1, h.2.2.2.1.elim (fun q => Or.inl (va_Z.moved hvm q)) (fun q => Or.inr (va_Z.moved hvm q)), h.2.2.2.2⟩
theorem Old.kept {E : EV} {U : State} {H H1 : Heap} (h : Old E U H) (hq : ∀ a : Nat, a < H.size → ¬ Ab E a → H1[a]? = H[a]?) : Old E U H1 := ⟨vk_S.kept h.1 hq, ⟨vx_Zq.kept h.2.1.1 hq, vx_Zq.kept h.2.1.2 hq⟩, va_Z.kept h.2.2.1 hq, h.2.2.2.1.elim (fun q => Or.inl (va_Z.kept q hq)) (fun q => Or.inr (va_Z.kept q hq)), h.2.2.2.2⟩
/-- the body of a method -/
def Bd (mi : MI) (l : Launch) (E : EV) (p : Program) (s : State) (m : MethodId) (args : Array Value) (meth : Method) (c : Code) : Prop :=
  (p.tables.exec = Jvm.exec ∧ c.code = mi.1 ∧ c.maxLocals = mi.2.1 ∧ meth.sig.returnType = mi.2.2.1 ∧ meth.locks = false ∧ meth.name = mi.2.2.2.name) ∧ s.vm.findClass mi.2.2.2.cls = some m.cls ∧ (∀ w ∈ TB, w.before args s = true) ∧ Tb E s ∧ Old E s s.heap ∧ l.stackTraces = false ∧ E.1 ≤ s.heap.size
abbrev QXT : Type := EV → State → Array Value → List Frame → State → Prop
abbrev BXT : Type := EV → State → Array Value → Code → Prop
/-- the machine stands at pc: locals L, stack st, the first n cells as F has them -/
def VQ (mi : MI) (R : Room) (BX : BXT) (QX : QXT) (n cells slots : Nat) (pc : Nat) (L : List (Nat × Value)) (st : List Value) (F : Nat → va_E) : Prop :=
  ∀ (l : Launch) (E : EV) (p : Program) (e : Env) (s : State) (m : MethodId) (args : Array Value) (below : List Frame) (meth : Method) (c : Code) (ls : Array Slot) (H : Heap) (locs : List Loc),
    Bd mi l E p s m args meth c → BX E s args c → lv_has ls mi.2.1 (L.map (cvl E)) → va_P E.2.1 vwCl (wld E n F) H → va_S (Ab E) s.heap H locs → (n < NN → H.size = E.1 + n) →
    W p l e R s m args below meth c H locs cells slots (QX E s args below) (F0 m pc ls (st.map (cvv E)))
section
variable {mi : MI} {R : Room} {BX : BXT} {QX : QXT} {n cells slots pc : Nat} {L : List (Nat × Value)} {st : List Value} {F : Nat → va_E}
theorem VQ.ext {G : Nat → va_E} (h : VQ mi R BX QX n cells slots pc L st G) (e : ∀ a, a < n → F a = G a) : VQ mi R BX QX n cells slots pc L st F := by
  intro l E p e' s m args below meth c ls H locs B b hl hP hS hz
  rw [wld_ext e] at hP
  exact h l E p e' s m args below meth c ls H locs B b hl hP hS hz
theorem VQ.drop {L' : List (Nat × Value)} (h : VQ mi R BX QX n cells slots pc L' st F) (ks : List Nat) (hk : lv_pick L ks = L') : VQ mi R BX QX n cells slots pc L st F := by
  intro l E p e s m args below meth c ls H locs B b hl hP hS hz
  refine h l E p e s m args below meth c ls H locs B b (lv_sub hl ks ?_) hP hS hz
  rw [← hk]
  unfold lv_pick
  rw [List.map_filterMap]
  congr 1
  funext k
  rw [List.getElem?_map]
theorem VQ.widen {k j : Nat} (h1 : cells ≤ k) (h2 : slots ≤ j) (h : VQ mi R BX QX n k j pc L st F) : VQ mi R BX QX n cells slots pc L st F := by
  intro l E p e s m args below meth c ls H locs B b hl hP hS hz
  exact W.widen h1 h2 (h l E p e s m args below meth c ls H locs B b hl hP hS hz)
theorem q_iconst {k : Int} {v : Int32} (hv : Int32.ofInt k = v) (hd : decode mi.1 pc = .ok (.iconst k, 1)) (h : VQ mi R BX QX n cells slots (pc + 1) L (.int v :: st) F) : VQ mi R BX QX n cells slots pc L st F := by
  intro l E p e s m args below meth c ls H locs B b hl hP hS hz
  exact lv_iconst B.1.1 B.1.2.1 hd hv (h l E p e s m args below meth c ls H locs B b hl hP hS hz)
theorem q_bipush {k : Int} {v : Int32} (hv : (Int8.ofInt k).toInt32 = v) (hd : decode mi.1 pc = .ok (.bipush k, 2)) (h : VQ mi R BX QX n cells slots (pc + 2) L (.int v :: st) F) : VQ mi R BX QX n cells slots pc L st F := by
  intro l E p e s m args below meth c ls H locs B b hl hP hS hz
  exact lv_bipush B.1.1 B.1.2.1 hd hv (h l E p e s m args below meth c ls H locs B b hl hP hS hz)
theorem q_sipush {k : Int} {v : Int32} (hv : (Int16.ofInt k).toInt32 = v) (hd : decode mi.1 pc = .ok (.sipush k, 3)) (h : VQ mi R BX QX n cells slots (pc + 3) L (.int v :: st) F) : VQ mi R BX QX n cells slots pc L st F := by
  intro l E p e s m args below meth c ls H locs B b hl hP hS hz
  exact lv_sipush B.1.1 B.1.2.1 hd hv (h l E p e s m args below meth c ls H locs B b hl hP hS hz)
theorem q_lconst {k : Fin 2} {v : Int64} (hv : Int64.ofNat (k : Nat) = v) (hd : decode mi.1 pc = .ok (.lconst k, 1)) (h : VQ mi R BX QX n cells slots (pc + 1) L (.long v :: st) F) : VQ mi R BX QX n cells slots pc L st F := by
  intro l E p e s m args below meth c ls H locs B b hl hP hS hz
  exact lv_lconst B.1.1 B.1.2.1 hd hv (h l E p e s m args below meth c ls H locs B b hl hP hS hz)
theorem q_iadd {x y : Int32} (hd : decode mi.1 pc = .ok (.iadd, 1)) (h : VQ mi R BX QX n cells slots (pc + 1) L (.int (x + y) :: st) F) : VQ mi R BX QX n cells slots pc L (.int y :: .int x :: st) F := by
  intro l E p e s m args below meth c ls H locs B b hl hP hS hz
  exact lv_iadd B.1.1 B.1.2.1 hd (h l E p e s m args below meth c ls H locs B b hl hP hS hz)
theorem q_isub {x y : Int32} (hd : decode mi.1 pc = .ok (.isub, 1)) (h : VQ mi R BX QX n cells slots (pc + 1) L (.int (x - y) :: st) F) : VQ mi R BX QX n cells slots pc L (.int y :: .int x :: st) F := by
  intro l E p e s m args below meth c ls H locs B b hl hP hS hz
  exact lv_isub B.1.1 B.1.2.1 hd (h l E p e s m args below meth c ls H locs B b hl hP hS hz)
theorem q_imul {x y : Int32} (hd : decode mi.1 pc = .ok (.imul, 1)) (h : VQ mi R BX QX n cells slots (pc + 1) L (.int (x * y) :: st) F) : VQ mi R BX QX n cells slots pc L (.int y :: .int x :: st) F := by
  intro l E p e s m args below meth c ls H locs B b hl hP hS hz
  exact lv_imul B.1.1 B.1.2.1 hd (h l E p e s m args below meth c ls H locs B b hl hP hS hz)
theorem q_iand {x y : Int32} (hd : decode mi.1 pc = .ok (.iand, 1)) (h : VQ mi R BX QX n cells slots (pc + 1) L (.int (x &&& y) :: st) F) : VQ mi R BX QX n cells slots pc L (.int y :: .int x :: st) F := by
  intro l E p e s m args below meth c ls H locs B b hl hP hS hz
  exact lv_iand B.1.1 B.1.2.1 hd (h l E p e s m args below meth c ls H locs B b hl hP hS hz)
theorem q_ior {x y : Int32} (hd : decode mi.1 pc = .ok (.ior, 1)) (h : VQ mi R BX QX n cells slots (pc + 1) L (.int (x ||| y) :: st) F) : VQ mi R BX QX n cells slots pc L (.int y :: .int x :: st) F := by
  intro l E p e s m args below meth c ls H locs B b hl hP hS hz
  exact lv_ior B.1.1 B.1.2.1 hd (h l E p e s m args below meth c ls H locs B b hl hP hS hz)
theorem q_ixor {x y : Int32} (hd : decode mi.1 pc = .ok (.ixor, 1)) (h : VQ mi R BX QX n cells slots (pc + 1) L (.int (x ^^^ y) :: st) F) : VQ mi R BX QX n cells slots pc L (.int y :: .int x :: st) F := by
  intro l E p e s m args below meth c ls H locs B b hl hP hS hz
  exact lv_ixor B.1.1 B.1.2.1 hd (h l E p e s m args below meth c ls H locs B b hl hP hS hz)
theorem q_ishl {x y : Int32} (hd : decode mi.1 pc = .ok (.ishl, 1)) (h : VQ mi R BX QX n cells slots (pc + 1) L (.int (x <<< (y &&& 31)) :: st) F) : VQ mi R BX QX n cells slots pc L (.int y :: .int x :: st) F := by
  intro l E p e s m args below meth c ls H locs B b hl hP hS hz
  exact lv_ishl B.1.1 B.1.2.1 hd (h l E p e s m args below meth c ls H locs B b hl hP hS hz)
theorem q_ishr {x y : Int32} (hd : decode mi.1 pc = .ok (.ishr, 1)) (h : VQ mi R BX QX n cells slots (pc + 1) L (.int (x >>> (y &&& 31)) :: st) F) : VQ mi R BX QX n cells slots pc L (.int y :: .int x :: st) F := by
  intro l E p e s m args below meth c ls H locs B b hl hP hS hz
  exact lv_ishr B.1.1 B.1.2.1 hd (h l E p e s m args below meth c ls H locs B b hl hP hS hz)
theorem q_iushr {x y : Int32} (hd : decode mi.1 pc = .ok (.iushr, 1)) (h : VQ mi R BX QX n cells slots (pc + 1) L (.int ((x.toUInt32 >>> (y.toUInt32 &&& Int32.toUInt32 31)).toInt32) :: st) F) : VQ mi R BX QX n cells slots pc L (.int y :: .int x :: st) F := by
  intro l E p e s m args below meth c ls H locs B b hl hP hS hz
  exact lv_iushr B.1.1 B.1.2.1 hd rfl (h l E p e s m args below meth c ls H locs B b hl hP hS hz)
theorem q_ladd {x y : Int64} (hd : decode mi.1 pc = .ok (.ladd, 1)) (h : VQ mi R BX QX n cells slots (pc + 1) L (.long (x + y) :: st) F) : VQ mi R BX QX n cells slots pc L (.long y :: .long x :: st) F := by
  intro l E p e s m args below meth c ls H locs B b hl hP hS hz
  exact lv_ladd B.1.1 B.1.2.1 hd (h l E p e s m args below meth c ls H locs B b hl hP hS hz)
theorem q_lsub {x y : Int64} (hd : decode mi.1 pc = .ok (.lsub, 1)) (h : VQ mi R BX QX n cells slots (pc + 1) L (.long (x - y) :: st) F) : VQ mi R BX QX n cells slots pc L (.long y :: .long x :: st) F := by
  intro l E p e s m args below meth c ls H locs B b hl hP hS hz
  exact lv_lsub B.1.1 B.1.2.1 hd (h l E p e s m args below meth c ls H locs B b hl hP hS hz)
theorem q_idiv {x y : Int32} (hy : ¬ y = 0) (hd : decode mi.1 pc = .ok (.idiv, 1)) (h : VQ mi R BX QX n cells slots (pc + 1) L (.int (x / y) :: st) F) : VQ mi R BX QX n cells slots pc L (.int y :: .int x :: st) F := by
  intro l E p e s m args below meth c ls H locs B b hl hP hS hz
  exact lv_idiv B.1.1 B.1.2.1 hd hy (h l E p e s m args below meth c ls H locs B b hl hP hS hz)
theorem q_irem {x y : Int32} (hy : ¬ y = 0) (hd : decode mi.1 pc = .ok (.irem, 1)) (h : VQ mi R BX QX n cells slots (pc + 1) L (.int (x - x / y * y) :: st) F) : VQ mi R BX QX n cells slots pc L (.int y :: .int x :: st) F := by
  intro l E p e s m args below meth c ls H locs B b hl hP hS hz
  exact lv_irem B.1.1 B.1.2.1 hd hy (h l E p e s m args below meth c ls H locs B b hl hP hS hz)
theorem q_ineg {x : Int32} (hd : decode mi.1 pc = .ok (.ineg, 1)) (h : VQ mi R BX QX n cells slots (pc + 1) L (.int (-x) :: st) F) : VQ mi R BX QX n cells slots pc L (.int x :: st) F := by
  intro l E p e s m args below meth c ls H locs B b hl hP hS hz
  exact lv_ineg B.1.1 B.1.2.1 hd (h l E p e s m args below meth c ls H locs B b hl hP hS hz)
theorem q_i2l {x : Int32} (hd : decode mi.1 pc = .ok (.i2l, 1)) (h : VQ mi R BX QX n cells slots (pc + 1) L (.long x.toInt64 :: st) F) : VQ mi R BX QX n cells slots pc L (.int x :: st) F := by
  intro l E p e s m args below meth c ls H locs B b hl hP hS hz
  exact lv_i2l B.1.1 B.1.2.1 hd rfl (h l E p e s m args below meth c ls H locs B b hl hP hS hz)
theorem q_l2i {x : Int64} (hd : decode mi.1 pc = .ok (.l2i, 1)) (h : VQ mi R BX QX n cells slots (pc + 1) L (.int x.toInt32 :: st) F) : VQ mi R BX QX n cells slots pc L (.long x :: st) F := by
  intro l E p e s m args below meth c ls H locs B b hl hP hS hz
  exact lv_l2i B.1.1 B.1.2.1 hd rfl (h l E p e s m args below meth c ls H locs B b hl hP hS hz)
theorem q_i2b {x : Int32} (hd : decode mi.1 pc = .ok (.i2b, 1)) (h : VQ mi R BX QX n cells slots (pc + 1) L (.int x.toInt8.toInt32 :: st) F) : VQ mi R BX QX n cells slots pc L (.int x :: st) F := by
  intro l E p e s m args below meth c ls H locs B b hl hP hS hz
  exact lv_i2b B.1.1 B.1.2.1 hd rfl (h l E p e s m args below meth c ls H locs B b hl hP hS hz)
theorem q_i2c {x : Int32} (hd : decode mi.1 pc = .ok (.i2c, 1)) (h : VQ mi R BX QX n cells slots (pc + 1) L (.int (x.toUInt32 % 65536).toInt32 :: st) F) : VQ mi R BX QX n cells slots pc L (.int x :: st) F := by
  intro l E p e s m args below meth c ls H locs B b hl hP hS hz
  exact lv_i2c B.1.1 B.1.2.1 hd rfl (h l E p e s m args below meth c ls H locs B b hl hP hS hz)
theorem q_lcmp {x y : Int64} (hd : decode mi.1 pc = .ok (.lcmp, 1)) (h : VQ mi R BX QX n cells slots (pc + 1) L (.int (lg_cmp x y) :: st) F) : VQ mi R BX QX n cells slots pc L (.long y :: .long x :: st) F := by
  intro l E p e s m args below meth c ls H locs B b hl hP hS hz
  exact W.lcmp B.1.1 B.1.2.1 hd (h l E p e s m args below meth c ls H locs B b hl hP hS hz)
theorem q_dup_int {x : Int32} (hd : decode mi.1 pc = .ok (.dup, 1)) (h : VQ mi R BX QX n cells slots (pc + 1) L (.int x :: .int x :: st) F) : VQ mi R BX QX n cells slots pc L (.int x :: st) F := by
  intro l E p e s m args below meth c ls H locs B b hl hP hS hz
  exact lv_dup B.1.1 B.1.2.1 hd rfl (h l E p e s m args below meth c ls H locs B b hl hP hS hz)
theorem q_pop_int {x : Int32} (hd : decode mi.1 pc = .ok (.pop, 1)) (h : VQ mi R BX QX n cells slots (pc + 1) L st F) : VQ mi R BX QX n cells slots pc L (.int x :: st) F := by
  intro l E p e s m args below meth c ls H locs B b hl hP hS hz
  exact lv_pop B.1.1 B.1.2.1 hd rfl (h l E p e s m args below meth c ls H locs B b hl hP hS hz)
theorem q_dup_ref {x : Nat} (hd : decode mi.1 pc = .ok (.dup, 1)) (h : VQ mi R BX QX n cells slots (pc + 1) L (.ref x :: .ref x :: st) F) : VQ mi R BX QX n cells slots pc L (.ref x :: st) F := by
  intro l E p e s m args below meth c ls H locs B b hl hP hS hz
  exact lv_dup B.1.1 B.1.2.1 hd rfl (h l E p e s m args below meth c ls H locs B b hl hP hS hz)
theorem q_pop_ref {x : Nat} (hd : decode mi.1 pc = .ok (.pop, 1)) (h : VQ mi R BX QX n cells slots (pc + 1) L st F) : VQ mi R BX QX n cells slots pc L (.ref x :: st) F := by
  intro l E p e s m args below meth c ls H locs B b hl hP hS hz
  exact lv_pop B.1.1 B.1.2.1 hd rfl (h l E p e s m args below meth c ls H locs B b hl hP hS hz)
theorem q_dup2_ri {x : Int32} {y : Nat} (hd : decode mi.1 pc = .ok (.dup2, 1)) (h : VQ mi R BX QX n cells slots (pc + 1) L (.int x :: .ref y :: .int x :: .ref y :: st) F) : VQ mi R BX QX n cells slots pc L (.int x :: .ref y :: st) F := by
  intro l E p e s m args below meth c ls H locs B b hl hP hS hz
  exact lv_dup2_11 B.1.1 B.1.2.1 hd rfl rfl (h l E p e s m args below meth c ls H locs B b hl hP hS hz)
theorem q_iload_n {k : Fin 4} {i : Nat} {x : Int32} (j : Nat) (hj : L[j]? = some (i, .int x)) (hi : (k : Nat) = i) (hd : decode mi.1 pc = .ok (.iload_n k, 1)) (h : VQ mi R BX QX n cells slots (pc + 1) L (.int x :: st) F) : VQ mi R BX QX n cells slots pc L st F := by
  intro l E p e s m args below meth c ls H locs B b hl hP hS hz
  exact lv_iload_n B.1.1 B.1.2.1 hd hi (lv_at hl j (by rw [List.getElem?_map, hj]; rfl)) (h l E p e s m args below meth c ls H locs B b hl hP hS hz)
theorem q_iload {i : Nat} {x : Int32} (j : Nat) (hj : L[j]? = some (i, .int x)) (hd : decode mi.1 pc = .ok (.iload i, 2)) (h : VQ mi R BX QX n cells slots (pc + 2) L (.int x :: st) F) : VQ mi R BX QX n cells slots pc L st F := by
  intro l E p e s m args below meth c ls H locs B b hl hP hS hz
  exact lv_iload B.1.1 B.1.2.1 hd (lv_at hl j (by rw [List.getElem?_map, hj]; rfl)) (h l E p e s m args below meth c ls H locs B b hl hP hS hz)
theorem q_lload_n {k : Fin 4} {i : Nat} {x : Int64} (j : Nat) (hj : L[j]? = some (i, .long x)) (hi : (k : Nat) = i) (hd : decode mi.1 pc = .ok (.lload_n k, 1)) (h : VQ mi R BX QX n cells slots (pc + 1) L (.long x :: st) F) : VQ mi R BX QX n cells slots pc L st F := by
  intro l E p e s m args below meth c ls H locs B b hl hP hS hz
  exact lv_lload_n B.1.1 B.1.2.1 hd hi (lv_at hl j (by rw [List.getElem?_map, hj]; rfl)) (h l E p e s m args below meth c ls H locs B b hl hP hS hz)
theorem q_lload {i : Nat} {x : Int64} (j : Nat) (hj : L[j]? = some (i, .long x)) (hd : decode mi.1 pc = .ok (.lload i, 2)) (h : VQ mi R BX QX n cells slots (pc + 2) L (.long x :: st) F) : VQ mi R BX QX n cells slots pc L st F := by
  intro l E p e s m args below meth c ls H locs B b hl hP hS hz
  exact lv_lload B.1.1 B.1.2.1 hd (lv_at hl j (by rw [List.getElem?_map, hj]; rfl)) (h l E p e s m args below meth c ls H locs B b hl hP hS hz)
theorem q_aload_n {k : Fin 4} {i : Nat} {x : Nat} (j : Nat) (hj : L[j]? = some (i, .ref x)) (hi : (k : Nat) = i) (hd : decode mi.1 pc = .ok (.aload_n k, 1)) (h : VQ mi R BX QX n cells slots (pc + 1) L (.ref x :: st) F) : VQ mi R BX QX n cells slots pc L st F := by
  intro l E p e s m args below meth c ls H locs B b hl hP hS hz
  exact lv_aload_n B.1.1 B.1.2.1 hd hi (lv_at hl j (by rw [List.getElem?_map, hj]; rfl)) (h l E p e s m args below meth c ls H locs B b hl hP hS hz)
theorem q_aload {i : Nat} {x : Nat} (j : Nat) (hj : L[j]? = some (i, .ref x)) (hd : decode mi.1 pc = .ok (.aload i, 2)) (h : VQ mi R BX QX n cells slots (pc + 2) L (.ref x :: st) F) : VQ mi R BX QX n cells slots pc L st F := by
  intro l E p e s m args below meth c ls H locs B b hl hP hS hz
  exact lv_aload B.1.1 B.1.2.1 hd (lv_at hl j (by rw [List.getElem?_map, hj]; rfl)) (h l E p e s m args below meth c ls H locs B b hl hP hS hz)
theorem cvv_cat (E : EV) (v : Value) : (cvv E v).category = v.category := by cases v <;> rfl
theorem cvl_f1 (E : EV) (i : Nat) (L : List (Nat × Value)) : (L.map (cvl E)).filter (fun q => !(q.1 == i) && !(q.1 + 1 == i && q.2.category == 2)) = (L.filter (fun q => !(q.1 == i) && !(q.1 + 1 == i && q.2.category == 2))).map (cvl E) := by
  rw [List.filter_map]
  congr 1
  apply List.filter_congr
  intro q _
  simp only [Function.comp, cvl, cvv_cat]
theorem cvl_f2 (E : EV) (i : Nat) (L : List (Nat × Value)) : (L.map (cvl E)).filter (fun q => !(q.1 == i) && (!(q.1 == i + 1) && !(q.1 + 1 == i && q.2.category == 2))) = (L.filter (fun q => !(q.1 == i) && (!(q.1 == i + 1) && !(q.1 + 1 == i && q.2.category == 2)))).map (cvl E) := by
  rw [List.filter_map]
  congr 1
  apply List.filter_congr
  intro q _
  simp only [Function.comp, cvl, cvv_cat]
theorem q_istore_n {k : Fin 4} {i : Nat} {x : Int32} {L' : List (Nat × Value)} (hi : i < mi.2.1) (hL : (i, Value.int x) :: L.filter (fun q => !(q.1 == i) && !(q.1 + 1 == i && q.2.category == 2)) = L') (hk : (k : Nat) = i) (hd : decode mi.1 pc = .ok (.istore_n k, 1)) (h : VQ mi R BX QX n cells slots (pc + 1) L' st F) : VQ mi R BX QX n cells slots pc L (.int x :: st) F := by
  intro l E p e s m args below meth c ls H locs B b hl hP hS hz
  refine lv_istore_n (lv' := L'.map (cvl E)) B.1.1 B.1.2.1 hd hk hl hi ?_ (fun ls' hl' => h l E p e s m args below meth c ls' H locs B b hl' hP hS hz)
  rw [cvl_f1, ← hL]
  rfl
theorem q_istore {i : Nat} {x : Int32} {L' : List (Nat × Value)} (hi : i < mi.2.1) (hL : (i, Value.int x) :: L.filter (fun q => !(q.1 == i) && !(q.1 + 1 == i && q.2.category == 2)) = L') (hd : decode mi.1 pc = .ok (.istore i, 2)) (h : VQ mi R BX QX n cells slots (pc + 2) L' st F) : VQ mi R BX QX n cells slots pc L (.int x :: st) F := by
  intro l E p e s m args below meth c ls H locs B b hl hP hS hz
  refine lv_istore (lv' := L'.map (cvl E)) B.1.1 B.1.2.1 hd hl hi ?_ (fun ls' hl' => h l E p e s m args below meth c ls' H locs B b hl' hP hS hz)
  rw [cvl_f1, ← hL]
  rfl
theorem q_lstore_n {k : Fin 4} {i : Nat} {x : Int64} {L' : List (Nat × Value)} (hi : i + 1 < mi.2.1) (hL : (i, Value.long x) :: L.filter (fun q => !(q.1 == i) && (!(q.1 == i + 1) && !(q.1 + 1 == i && q.2.category == 2))) = L') (hk : (k : Nat) = i) (hd : decode mi.1 pc = .ok (.lstore_n k, 1)) (h : VQ mi R BX QX n cells slots (pc + 1) L' st F) : VQ mi R BX QX n cells slots pc L (.long x :: st) F := by
  intro l E p e s m args below meth c ls H locs B b hl hP hS hz
  refine lv_lstore_n (lv' := L'.map (cvl E)) B.1.1 B.1.2.1 hd hk hl hi ?_ (fun ls' hl' => h l E p e s m args below meth c ls' H locs B b hl' hP hS hz)
  rw [cvl_f2, ← hL]
  rfl
theorem q_lstore {i : Nat} {x : Int64} {L' : List (Nat × Value)} (hi : i + 1 < mi.2.1) (hL : (i, Value.long x) :: L.filter (fun q => !(q.1 == i) && (!(q.1 == i + 1) && !(q.1 + 1 == i && q.2.category == 2))) = L') (hd : decode mi.1 pc = .ok (.lstore i, 2)) (h : VQ mi R BX QX n cells slots (pc + 2) L' st F) : VQ mi R BX QX n cells slots pc L (.long x :: st) F := by
  intro l E p e s m args below meth c ls H locs B b hl hP hS hz
  refine lv_lstore (lv' := L'.map (cvl E)) B.1.1 B.1.2.1 hd hl hi ?_ (fun ls' hl' => h l E p e s m args below meth c ls' H locs B b hl' hP hS hz)
  rw [cvl_f2, ← hL]
  rfl
theorem q_astore_n {k : Fin 4} {i : Nat} {x : Nat} {L' : List (Nat × Value)} (hi : i < mi.2.1) (hL : (i, Value.ref x) :: L.filter (fun q => !(q.1 == i) && !(q.1 + 1 == i && q.2.category == 2)) = L') (hk : (k : Nat) = i) (hd : decode mi.1 pc = .ok (.astore_n k, 1)) (h : VQ mi R BX QX n cells slots (pc + 1) L' st F) : VQ mi R BX QX n cells slots pc L (.ref x :: st) F := by
  intro l E p e s m args below meth c ls H locs B b hl hP hS hz
  refine lv_astore_n (lv' := L'.map (cvl E)) B.1.1 B.1.2.1 hd hk hl hi ?_ (fun ls' hl' => h l E p e s m args below meth c ls' H locs B b hl' hP hS hz)
  rw [cvl_f1, ← hL]
  rfl
theorem q_astore {i : Nat} {x : Nat} {L' : List (Nat × Value)} (hi : i < mi.2.1) (hL : (i, Value.ref x) :: L.filter (fun q => !(q.1 == i) && !(q.1 + 1 == i && q.2.category == 2)) = L') (hd : decode mi.1 pc = .ok (.astore i, 2)) (h : VQ mi R BX QX n cells slots (pc + 2) L' st F) : VQ mi R BX QX n cells slots pc L (.ref x :: st) F := by
  intro l E p e s m args below meth c ls H locs B b hl hP hS hz
  refine lv_astore (lv' := L'.map (cvl E)) B.1.1 B.1.2.1 hd hl hi ?_ (fun ls' hl' => h l E p e s m args below meth c ls' H locs B b hl' hP hS hz)
  rw [cvl_f1, ← hL]
  rfl
theorem q_iinc {i : Nat} {k : Int} {x v : Int32} {L' : List (Nat × Value)} (j : Nat) (hj : L[j]? = some (i, .int x)) (hv : x + Int32.ofInt k = v) (hi : i < mi.2.1) (hL : (i, Value.int v) :: L.filter (fun q => !(q.1 == i) && !(q.1 + 1 == i && q.2.category == 2)) = L') (hd : decode mi.1 pc = .ok (.iinc i k, 3)) (h : VQ mi R BX QX n cells slots (pc + 3) L' st F) : VQ mi R BX QX n cells slots pc L st F := by
  intro l E p e s m args below meth c ls H locs B b hl hP hS hz
  refine lv_iinc (k := j) (v := v) (lv' := L'.map (cvl E)) B.1.1 B.1.2.1 hd hl (by rw [List.getElem?_map, hj]; rfl) hv hi ?_ (fun ls' hl' => h l E p e s m args below meth c ls' H locs B b hl' hP hS hz)
  rw [cvl_f1, ← hL]
  rfl
theorem q_goto {off : Int} {tgt : Nat} (ht : (pc : Int) + off = (tgt : Int)) (hd : decode mi.1 pc = .ok (.goto off, 3)) (h : VQ mi R BX QX n cells slots tgt L st F) : VQ mi R BX QX n cells slots pc L st F := by
  intro l E p e s m args below meth c ls H locs B b hl hP hS hz
  exact lv_goto B.1.1 B.1.2.1 hd ht (h l E p e s m args below meth c ls H locs B b hl hP hS hz)
theorem i_nle {x y : Int32} (h : ¬ y ≤ x) : x < y := by rw [Int32.lt_iff_toInt_lt]; rw [Int32.le_iff_toInt_le] at h; omega
theorem i_nlt {x y : Int32} (h : ¬ x < y) : y ≤ x := by rw [Int32.le_iff_toInt_le]; rw [Int32.lt_iff_toInt_lt] at h; omega
theorem i_lenlt {x y : Int32} (h : y ≤ x) : ¬ x < y := by rw [Int32.lt_iff_toInt_lt]; rw [Int32.le_iff_toInt_le] at h; omega
theorem q_icmp_eq {x y : Int32} {off : Int} {tgt : Nat} (ht : (pc : Int) + off = (tgt : Int)) (hd : decode mi.1 pc = .ok (.if_icmp .eq off, 3)) (h1 : x = y → VQ mi R BX QX n cells slots tgt L st F) (h2 : ¬ x = y → VQ mi R BX QX n cells slots (pc + 3) L st F) : VQ mi R BX QX n cells slots pc L (.int y :: .int x :: st) F := by
  intro l E p e s m args below meth c ls H locs B b hl hP hS hz
  exact lv_icmp_eq B.1.1 B.1.2.1 hd ht (fun q => h1 q l E p e s m args below meth c ls H locs B b hl hP hS hz) (fun q => h2 q l E p e s m args below meth c ls H locs B b hl hP hS hz)
theorem q_icmp_ne {x y : Int32} {off : Int} {tgt : Nat} (ht : (pc : Int) + off = (tgt : Int)) (hd : decode mi.1 pc = .ok (.if_icmp .ne off, 3)) (h1 : ¬ x = y → VQ mi R BX QX n cells slots tgt L st F) (h2 : x = y → VQ mi R BX QX n cells slots (pc + 3) L st F) : VQ mi R BX QX n cells slots pc L (.int y :: .int x :: st) F := by
  intro l E p e s m args below meth c ls H locs B b hl hP hS hz
  exact lv_icmp_ne B.1.1 B.1.2.1 hd ht (fun q => h1 q l E p e s m args below meth c ls H locs B b hl hP hS hz) (fun q => h2 q l E p e s m args below meth c ls H locs B b hl hP hS hz)
theorem q_icmp_lt {x y : Int32} {off : Int} {tgt : Nat} (ht : (pc : Int) + off = (tgt : Int)) (hd : decode mi.1 pc = .ok (.if_icmp .lt off, 3)) (h1 : x < y → VQ mi R BX QX n cells slots tgt L st F) (h2 : ¬ x < y → VQ mi R BX QX n cells slots (pc + 3) L st F) : VQ mi R BX QX n cells slots pc L (.int y :: .int x :: st) F := by
  intro l E p e s m args below meth c ls H locs B b hl hP hS hz
  exact lv_icmp_lt B.1.1 B.1.2.1 hd ht (fun q => h1 q l E p e s m args below meth c ls H locs B b hl hP hS hz) (fun q => h2 q l E p e s m args below meth c ls H locs B b hl hP hS hz)
theorem q_icmp_ge {x y : Int32} {off : Int} {tgt : Nat} (ht : (pc : Int) + off = (tgt : Int)) (hd : decode mi.1 pc = .ok (.if_icmp .ge off, 3)) (h1 : ¬ x < y → VQ mi R BX QX n cells slots tgt L st F) (h2 : x < y → VQ mi R BX QX n cells slots (pc + 3) L st F) : VQ mi R BX QX n cells slots pc L (.int y :: .int x :: st) F := by
  intro l E p e s m args below meth c ls H locs B b hl hP hS hz
  exact lv_icmp_ge B.1.1 B.1.2.1 hd ht (fun q => h1 (i_lenlt q) l E p e s m args below meth c ls H locs B b hl hP hS hz) (fun q => h2 (i_nle q) l E p e s m args below meth c ls H locs B b hl hP hS hz)
theorem q_icmp_gt {x y : Int32} {off : Int} {tgt : Nat} (ht : (pc : Int) + off = (tgt : Int)) (hd : decode mi.1 pc = .ok (.if_icmp .gt off, 3)) (h1 : y < x → VQ mi R BX QX n cells slots tgt L st F) (h2 : ¬ y < x → VQ mi R BX QX n cells slots (pc + 3) L st F) : VQ mi R BX QX n cells slots pc L (.int y :: .int x :: st) F := by
  intro l E p e s m args below meth c ls H locs B b hl hP hS hz
  exact lv_icmp_gt B.1.1 B.1.2.1 hd ht (fun q => h1 q l E p e s m args below meth c ls H locs B b hl hP hS hz) (fun q => h2 q l E p e s m args below meth c ls H locs B b hl hP hS hz)
theorem q_icmp_le {x y : Int32} {off : Int} {tgt : Nat} (ht : (pc : Int) + off = (tgt : Int)) (hd : decode mi.1 pc = .ok (.if_icmp .le off, 3)) (h1 : ¬ y < x → VQ mi R BX QX n cells slots tgt L st F) (h2 : y < x → VQ mi R BX QX n cells slots (pc + 3) L st F) : VQ mi R BX QX n cells slots pc L (.int y :: .int x :: st) F := by
  intro l E p e s m args below meth c ls H locs B b hl hP hS hz
  exact lv_icmp_le B.1.1 B.1.2.1 hd ht (fun q => h1 (i_lenlt q) l E p e s m args below meth c ls H locs B b hl hP hS hz) (fun q => h2 (i_nle q) l E p e s m args below meth c ls H locs B b hl hP hS hz)
theorem q_if_eq {x : Int32} {off : Int} {tgt : Nat} (ht : (pc : Int) + off = (tgt : Int)) (hd : decode mi.1 pc = .ok (.ifCond .eq off, 3)) (h1 : x = 0 → VQ mi R BX QX n cells slots tgt L st F) (h2 : ¬ x = 0 → VQ mi R BX QX n cells slots (pc + 3) L st F) : VQ mi R BX QX n cells slots pc L (.int x :: st) F := by
  intro l E p e s m args below meth c ls H locs B b hl hP hS hz
  exact lv_if_eq B.1.1 B.1.2.1 hd ht (fun q => h1 q l E p e s m args below meth c ls H locs B b hl hP hS hz) (fun q => h2 q l E p e s m args below meth c ls H locs B b hl hP hS hz)
theorem q_if_ne {x : Int32} {off : Int} {tgt : Nat} (ht : (pc : Int) + off = (tgt : Int)) (hd : decode mi.1 pc = .ok (.ifCond .ne off, 3)) (h1 : ¬ x = 0 → VQ mi R BX QX n cells slots tgt L st F) (h2 : x = 0 → VQ mi R BX QX n cells slots (pc + 3) L st F) : VQ mi R BX QX n cells slots pc L (.int x :: st) F := by
  intro l E p e s m args below meth c ls H locs B b hl hP hS hz
  exact lv_if_ne B.1.1 B.1.2.1 hd ht (fun q => h1 q l E p e s m args below meth c ls H locs B b hl hP hS hz) (fun q => h2 q l E p e s m args below meth c ls H locs B b hl hP hS hz)
theorem q_if_lt {x : Int32} {off : Int} {tgt : Nat} (ht : (pc : Int) + off = (tgt : Int)) (hd : decode mi.1 pc = .ok (.ifCond .lt off, 3)) (h1 : x < 0 → VQ mi R BX QX n cells slots tgt L st F) (h2 : ¬ x < 0 → VQ mi R BX QX n cells slots (pc + 3) L st F) : VQ mi R BX QX n cells slots pc L (.int x :: st) F := by
  intro l E p e s m args below meth c ls H locs B b hl hP hS hz
  exact lv_if_lt B.1.1 B.1.2.1 hd ht (fun q => h1 q l E p e s m args below meth c ls H locs B b hl hP hS hz) (fun q => h2 q l E p e s m args below meth c ls H locs B b hl hP hS hz)
theorem q_if_ge {x : Int32} {off : Int} {tgt : Nat} (ht : (pc : Int) + off = (tgt : Int)) (hd : decode mi.1 pc = .ok (.ifCond .ge off, 3)) (h1 : ¬ x < 0 → VQ mi R BX QX n cells slots tgt L st F) (h2 : x < 0 → VQ mi R BX QX n cells slots (pc + 3) L st F) : VQ mi R BX QX n cells slots pc L (.int x :: st) F := by
  intro l E p e s m args below meth c ls H locs B b hl hP hS hz
  exact lv_if_ge B.1.1 B.1.2.1 hd ht (fun q => h1 (i_lenlt q) l E p e s m args below meth c ls H locs B b hl hP hS hz) (fun q => h2 (i_nle q) l E p e s m args below meth c ls H locs B b hl hP hS hz)
theorem q_if_gt {x : Int32} {off : Int} {tgt : Nat} (ht : (pc : Int) + off = (tgt : Int)) (hd : decode mi.1 pc = .ok (.ifCond .gt off, 3)) (h1 : 0 < x → VQ mi R BX QX n cells slots tgt L st F) (h2 : ¬ 0 < x → VQ mi R BX QX n cells slots (pc + 3) L st F) : VQ mi R BX QX n cells slots pc L (.int x :: st) F := by
  intro l E p e s m args below meth c ls H locs B b hl hP hS hz
  exact lv_if_gt B.1.1 B.1.2.1 hd ht (fun q => h1 q l E p e s m args below meth c ls H locs B b hl hP hS hz) (fun q => h2 q l E p e s m args below meth c ls H locs B b hl hP hS hz)
theorem q_if_le {x : Int32} {off : Int} {tgt : Nat} (ht : (pc : Int) + off = (tgt : Int)) (hd : decode mi.1 pc = .ok (.ifCond .le off, 3)) (h1 : ¬ 0 < x → VQ mi R BX QX n cells slots tgt L st F) (h2 : 0 < x → VQ mi R BX QX n cells slots (pc + 3) L st F) : VQ mi R BX QX n cells slots pc L (.int x :: st) F := by
  intro l E p e s m args below meth c ls H locs B b hl hP hS hz
  exact lv_if_le B.1.1 B.1.2.1 hd ht (fun q => h1 (i_lenlt q) l E p e s m args below meth c ls H locs B b hl hP hS hz) (fun q => h2 (i_nle q) l E p e s m args below meth c ls H locs B b hl hP hS hz)
end
