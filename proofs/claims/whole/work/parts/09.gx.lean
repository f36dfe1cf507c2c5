def GX (BX : BXT) (R : Room) (QX : Mem → (Nat ⊕ Option Value) → QXT) (mi : MI) (cells slots pc : Nat) (L : List (Nat × Value)) (st : List Value) (M : Mem) (o : RS) : Prop :=
  ∀ M' ρ, o = some (M', ρ) → VQ mi R BX (QX M' ρ) NN cells slots pc L st (cel M)
section
variable {BX : BXT} {R : Room} {QX : Mem → (Nat ⊕ Option Value) → QXT} {mi : MI} {cells slots pc : Nat} {L : List (Nat × Value)} {st : List Value} {M : Mem} {o A B : RS}
theorem GX.none : GX BX R QX mi cells slots pc L st M none := fun _ _ e => by cases e
theorem GX.pick {L' : List (Nat × Value)} (ks : List Nat) (hk : lv_pick L ks = L') (h : GX BX R QX mi cells slots pc L' st M o) : GX BX R QX mi cells slots pc L st M o := fun M' ρ e => VQ.drop (h M' ρ e) ks hk
theorem GX.widen {k j : Nat} (h1 : cells ≤ k) (h2 : slots ≤ j) (h : GX BX R QX mi k j pc L st M o) : GX BX R QX mi cells slots pc L st M o := fun M' ρ e => VQ.widen h1 h2 (h M' ρ e)
theorem GX.chk {b : Bool} (h : b = true → GX BX R QX mi cells slots pc L st M o) : GX BX R QX mi cells slots pc L st M (chk b o) := fun M' ρ e => h (chk_t e).1 M' ρ (chk_t e).2
theorem x_iconst {k : Int} {v : Int32} (hv : Int32.ofInt k = v) (hd : decode mi.1 pc = .ok (.iconst k, 1)) (h : GX BX R QX mi cells slots (pc + 1) L (.int v :: st) M o) : GX BX R QX mi cells slots pc L st M o := fun M' ρ e => q_iconst hv hd (h M' ρ e)
theorem x_bipush {k : Int} {v : Int32} (hv : (Int8.ofInt k).toInt32 = v) (hd : decode mi.1 pc = .ok (.bipush k, 2)) (h : GX BX R QX mi cells slots (pc + 2) L (.int v :: st) M o) : GX BX R QX mi cells slots pc L st M o := fun M' ρ e => q_bipush hv hd (h M' ρ e)
theorem x_sipush {k : Int} {v : Int32} (hv : (Int16.ofInt k).toInt32 = v) (hd : decode mi.1 pc = .ok (.sipush k, 3)) (h : GX BX R QX mi cells slots (pc + 3) L (.int v :: st) M o) : GX BX R QX mi cells slots pc L st M o := fun M' ρ e => q_sipush hv hd (h M' ρ e)
theorem x_lconst {k : Fin 2} {v : Int64} (hv : Int64.ofNat (k : Nat) = v) (hd : decode mi.1 pc = .ok (.lconst k, 1)) (h : GX BX R QX mi cells slots (pc + 1) L (.long v :: st) M o) : GX BX R QX mi cells slots pc L st M o := fun M' ρ e => q_lconst hv hd (h M' ρ e)
theorem x_iadd {x y : Int32} (hd : decode mi.1 pc = .ok (.iadd, 1)) (h : GX BX R QX mi cells slots (pc + 1) L (.int (x + y) :: st) M o) : GX BX R QX mi cells slots pc L (.int y :: .int x :: st) M o := fun M' ρ e => q_iadd hd (h M' ρ e)
theorem x_isub {x y : Int32} (hd : decode mi.1 pc = .ok (.isub, 1)) (h : GX BX R QX mi cells slots (pc + 1) L (.int (x - y) :: st) M o) : GX BX R QX mi cells slots pc L (.int y :: .int x :: st) M o := fun M' ρ e => q_isub hd (h M' ρ e)
theorem x_iand {x y : Int32} (hd : decode mi.1 pc = .ok (.iand, 1)) (h : GX BX R QX mi cells slots (pc + 1) L (.int (x &&& y) :: st) M o) : GX BX R QX mi cells slots pc L (.int y :: .int x :: st) M o := fun M' ρ e => q_iand hd (h M' ρ e)
theorem x_i2l {x : Int32} (hd : decode mi.1 pc = .ok (.i2l, 1)) (h : GX BX R QX mi cells slots (pc + 1) L (.long x.toInt64 :: st) M o) : GX BX R QX mi cells slots pc L (.int x :: st) M o := fun M' ρ e => q_i2l hd (h M' ρ e)
theorem x_lcmp {x y : Int64} (hd : decode mi.1 pc = .ok (.lcmp, 1)) (h : GX BX R QX mi cells slots (pc + 1) L (.int (lg_cmp x y) :: st) M o) : GX BX R QX mi cells slots pc L (.long y :: .long x :: st) M o := fun M' ρ e => q_lcmp hd (h M' ρ e)
theorem x_iload_n {k : Fin 4} {i : Nat} {x : Int32} (j : Nat) (hj : L[j]? = some (i, .int x)) (hi : (k : Nat) = i) (hd : decode mi.1 pc = .ok (.iload_n k, 1)) (h : GX BX R QX mi cells slots (pc + 1) L (.int x :: st) M o) : GX BX R QX mi cells slots pc L st M o := fun M' ρ e => q_iload_n j hj hi hd (h M' ρ e)
theorem x_iload {i : Nat} {x : Int32} (j : Nat) (hj : L[j]? = some (i, .int x)) (hd : decode mi.1 pc = .ok (.iload i, 2)) (h : GX BX R QX mi cells slots (pc + 2) L (.int x :: st) M o) : GX BX R QX mi cells slots pc L st M o := fun M' ρ e => q_iload j hj hd (h M' ρ e)
theorem x_lload_n {k : Fin 4} {i : Nat} {x : Int64} (j : Nat) (hj : L[j]? = some (i, .long x)) (hi : (k : Nat) = i) (hd : decode mi.1 pc = .ok (.lload_n k, 1)) (h : GX BX R QX mi cells slots (pc + 1) L (.long x :: st) M o) : GX BX R QX mi cells slots pc L st M o := fun M' ρ e => q_lload_n j hj hi hd (h M' ρ e)
theorem x_lload {i : Nat} {x : Int64} (j : Nat) (hj : L[j]? = some (i, .long x)) (hd : decode mi.1 pc = .ok (.lload i, 2)) (h : GX BX R QX mi cells slots (pc + 2) L (.long x :: st) M o) : GX BX R QX mi cells slots pc L st M o := fun M' ρ e => q_lload j hj hd (h M' ρ e)
theorem x_aload_n {k : Fin 4} {i : Nat} {x : Nat} (j : Nat) (hj : L[j]? = some (i, .ref x)) (hi : (k : Nat) = i) (hd : decode mi.1 pc = .ok (.aload_n k, 1)) (h : GX BX R QX mi cells slots (pc + 1) L (.ref x :: st) M o) : GX BX R QX mi cells slots pc L st M o := fun M' ρ e => q_aload_n j hj hi hd (h M' ρ e)
theorem x_aload {i : Nat} {x : Nat} (j : Nat) (hj : L[j]? = some (i, .ref x)) (hd : decode mi.1 pc = .ok (.aload i, 2)) (h : GX BX R QX mi cells slots (pc + 2) L (.ref x :: st) M o) : GX BX R QX mi cells slots pc L st M o := fun M' ρ e => q_aload j hj hd (h M' ρ e)
theorem x_istore_n {k : Fin 4} {i : Nat} {x : Int32} {L' : List (Nat × Value)} (hi : i < mi.2.1) (hL : (i, Value.int x) :: L.filter (fun q => !(q.1 == i) && !(q.1 + 1 == i && q.2.category == 2)) = L') (hk : (k : Nat) = i) (hd : decode mi.1 pc = .ok (.istore_n k, 1)) (h : GX BX R QX mi cells slots (pc + 1) L' st M o) : GX BX R QX mi cells slots pc L (.int x :: st) M o := fun M' ρ e => q_istore_n hi hL hk hd (h M' ρ e)
theorem x_istore {i : Nat} {x : Int32} {L' : List (Nat × Value)} (hi : i < mi.2.1) (hL : (i, Value.int x) :: L.filter (fun q => !(q.1 == i) && !(q.1 + 1 == i && q.2.category == 2)) = L') (hd : decode mi.1 pc = .ok (.istore i, 2)) (h : GX BX R QX mi cells slots (pc + 2) L' st M o) : GX BX R QX mi cells slots pc L (.int x :: st) M o := fun M' ρ e => q_istore hi hL hd (h M' ρ e)
theorem x_lstore_n {k : Fin 4} {i : Nat} {x : Int64} {L' : List (Nat × Value)} (hi : i + 1 < mi.2.1) (hL : (i, Value.long x) :: L.filter (fun q => !(q.1 == i) && (!(q.1 == i + 1) && !(q.1 + 1 == i && q.2.category == 2))) = L') (hk : (k : Nat) = i) (hd : decode mi.1 pc = .ok (.lstore_n k, 1)) (h : GX BX R QX mi cells slots (pc + 1) L' st M o) : GX BX R QX mi cells slots pc L (.long x :: st) M o := fun M' ρ e => q_lstore_n hi hL hk hd (h M' ρ e)
theorem x_lstore {i : Nat} {x : Int64} {L' : List (Nat × Value)} (hi : i + 1 < mi.2.1) (hL : (i, Value.long x) :: L.filter (fun q => !(q.1 == i) && (!(q.1 == i + 1) && !(q.1 + 1 == i && q.2.category == 2))) = L') (hd : decode mi.1 pc = .ok (.lstore i, 2)) (h : GX BX R QX mi cells slots (pc + 2) L' st M o) : GX BX R QX mi cells slots pc L (.long x :: st) M o := fun M' ρ e => q_lstore hi hL hd (h M' ρ e)
theorem x_astore_n {k : Fin 4} {i : Nat} {x : Nat} {L' : List (Nat × Value)} (hi : i < mi.2.1) (hL : (i, Value.ref x) :: L.filter (fun q => !(q.1 == i) && !(q.1 + 1 == i && q.2.category == 2)) = L') (hk : (k : Nat) = i) (hd : decode mi.1 pc = .ok (.astore_n k, 1)) (h : GX BX R QX mi cells slots (pc + 1) L' st M o) : GX BX R QX mi cells slots pc L (.ref x :: st) M o := fun M' ρ e => q_astore_n hi hL hk hd (h M' ρ e)
theorem x_astore {i : Nat} {x : Nat} {L' : List (Nat × Value)} (hi : i < mi.2.1) (hL : (i, Value.ref x) :: L.filter (fun q => !(q.1 == i) && !(q.1 + 1 == i && q.2.category == 2)) = L') (hd : decode mi.1 pc = .ok (.astore i, 2)) (h : GX BX R QX mi cells slots (pc + 2) L' st M o) : GX BX R QX mi cells slots pc L (.ref x :: st) M o := fun M' ρ e => q_astore hi hL hd (h M' ρ e)
theorem x_iinc {i : Nat} {k : Int} {x v : Int32} {L' : List (Nat × Value)} (j : Nat) (hj : L[j]? = some (i, .int x)) (hv : x + Int32.ofInt k = v) (hi : i < mi.2.1) (hL : (i, Value.int v) :: L.filter (fun q => !(q.1 == i) && !(q.1 + 1 == i && q.2.category == 2)) = L') (hd : decode mi.1 pc = .ok (.iinc i k, 3)) (h : GX BX R QX mi cells slots (pc + 3) L' st M o) : GX BX R QX mi cells slots pc L st M o := fun M' ρ e => q_iinc j hj hv hi hL hd (h M' ρ e)
theorem x_goto {off : Int} {tgt : Nat} (ht : (pc : Int) + off = (tgt : Int)) (hd : decode mi.1 pc = .ok (.goto off, 3)) (h : GX BX R QX mi cells slots tgt L st M o) : GX BX R QX mi cells slots pc L st M o := fun M' ρ e => q_goto ht hd (h M' ρ e)
theorem x_icmp_eq {x y : Int32} {off : Int} {tgt : Nat} (ht : (pc : Int) + off = (tgt : Int)) (hd : decode mi.1 pc = .ok (.if_icmp .eq off, 3)) (h1 : x = y → GX BX R QX mi cells slots tgt L st M A) (h2 : ¬ x = y → GX BX R QX mi cells slots (pc + 3) L st M B) : GX BX R QX mi cells slots pc L (.int y :: .int x :: st) M (if x = y then A else B) := fun M' ρ e => q_icmp_eq ht hd (fun c => h1 c M' ρ (by rw [if_pos c] at e; exact e)) (fun c => h2 c M' ρ (by rw [if_neg c] at e; exact e))
theorem x_icmp_ne {x y : Int32} {off : Int} {tgt : Nat} (ht : (pc : Int) + off = (tgt : Int)) (hd : decode mi.1 pc = .ok (.if_icmp .ne off, 3)) (h1 : ¬ x = y → GX BX R QX mi cells slots tgt L st M A) (h2 : x = y → GX BX R QX mi cells slots (pc + 3) L st M B) : GX BX R QX mi cells slots pc L (.int y :: .int x :: st) M (if x = y then B else A) := fun M' ρ e => q_icmp_ne ht hd (fun c => h1 c M' ρ (by rw [if_neg c] at e; exact e)) (fun c => h2 c M' ρ (by rw [if_pos c] at e; exact e))
theorem x_icmp_lt {x y : Int32} {off : Int} {tgt : Nat} (ht : (pc : Int) + off = (tgt : Int)) (hd : decode mi.1 pc = .ok (.if_icmp .lt off, 3)) (h1 : x < y → GX BX R QX mi cells slots tgt L st M A) (h2 : ¬ x < y → GX BX R QX mi cells slots (pc + 3) L st M B) : GX BX R QX mi cells slots pc L (.int y :: .int x :: st) M (if x < y then A else B) := fun M' ρ e => q_icmp_lt ht hd (fun c => h1 c M' ρ (by rw [if_pos c] at e; exact e)) (fun c => h2 c M' ρ (by rw [if_neg c] at e; exact e))
theorem x_icmp_ge {x y : Int32} {off : Int} {tgt : Nat} (ht : (pc : Int) + off = (tgt : Int)) (hd : decode mi.1 pc = .ok (.if_icmp .ge off, 3)) (h1 : ¬ x < y → GX BX R QX mi cells slots tgt L st M A) (h2 : x < y → GX BX R QX mi cells slots (pc + 3) L st M B) : GX BX R QX mi cells slots pc L (.int y :: .int x :: st) M (if x < y then B else A) := fun M' ρ e => q_icmp_ge ht hd (fun c => h1 c M' ρ (by rw [if_neg c] at e; exact e)) (fun c => h2 c M' ρ (by rw [if_pos c] at e; exact e))
theorem x_icmp_gt {x y : Int32} {off : Int} {tgt : Nat} (ht : (pc : Int) + off = (tgt : Int)) (hd : decode mi.1 pc = .ok (.if_icmp .gt off, 3)) (h1 : y < x → GX BX R QX mi cells slots tgt L st M A) (h2 : ¬ y < x → GX BX R QX mi cells slots (pc + 3) L st M B) : GX BX R QX mi cells slots pc L (.int y :: .int x :: st) M (if y < x then A else B) := fun M' ρ e => q_icmp_gt ht hd (fun c => h1 c M' ρ (by rw [if_pos c] at e; exact e)) (fun c => h2 c M' ρ (by rw [if_neg c] at e; exact e))
theorem x_icmp_le {x y : Int32} {off : Int} {tgt : Nat} (ht : (pc : Int) + off = (tgt : Int)) (hd : decode mi.1 pc = .ok (.if_icmp .le off, 3)) (h1 : ¬ y < x → GX BX R QX mi cells slots tgt L st M A) (h2 : y < x → GX BX R QX mi cells slots (pc + 3) L st M B) : GX BX R QX mi cells slots pc L (.int y :: .int x :: st) M (if y < x then B else A) := fun M' ρ e => q_icmp_le ht hd (fun c => h1 c M' ρ (by rw [if_neg c] at e; exact e)) (fun c => h2 c M' ρ (by rw [if_pos c] at e; exact e))
theorem x_if_eq {x : Int32} {off : Int} {tgt : Nat} (ht : (pc : Int) + off = (tgt : Int)) (hd : decode mi.1 pc = .ok (.ifCond .eq off, 3)) (h1 : x = 0 → GX BX R QX mi cells slots tgt L st M A) (h2 : ¬ x = 0 → GX BX R QX mi cells slots (pc + 3) L st M B) : GX BX R QX mi cells slots pc L (.int x :: st) M (if x = 0 then A else B) := fun M' ρ e => q_if_eq ht hd (fun c => h1 c M' ρ (by rw [if_pos c] at e; exact e)) (fun c => h2 c M' ρ (by rw [if_neg c] at e; exact e))
theorem x_if_ne {x : Int32} {off : Int} {tgt : Nat} (ht : (pc : Int) + off = (tgt : Int)) (hd : decode mi.1 pc = .ok (.ifCond .ne off, 3)) (h1 : ¬ x = 0 → GX BX R QX mi cells slots tgt L st M A) (h2 : x = 0 → GX BX R QX mi cells slots (pc + 3) L st M B) : GX BX R QX mi cells slots pc L (.int x :: st) M (if x = 0 then B else A) := fun M' ρ e => q_if_ne ht hd (fun c => h1 c M' ρ (by rw [if_neg c] at e; exact e)) (fun c => h2 c M' ρ (by rw [if_pos c] at e; exact e))
theorem x_if_lt {x : Int32} {off : Int} {tgt : Nat} (ht : (pc : Int) + off = (tgt : Int)) (hd : decode mi.1 pc = .ok (.ifCond .lt off, 3)) (h1 : x < 0 → GX BX R QX mi cells slots tgt L st M A) (h2 : ¬ x < 0 → GX BX R QX mi cells slots (pc + 3) L st M B) : GX BX R QX mi cells slots pc L (.int x :: st) M (if x < 0 then A else B) := fun M' ρ e => q_if_lt ht hd (fun c => h1 c M' ρ (by rw [if_pos c] at e; exact e)) (fun c => h2 c M' ρ (by rw [if_neg c] at e; exact e))
theorem x_if_ge {x : Int32} {off : Int} {tgt : Nat} (ht : (pc : Int) + off = (tgt : Int)) (hd : decode mi.1 pc = .ok (.ifCond .ge off, 3)) (h1 : ¬ x < 0 → GX BX R QX mi cells slots tgt L st M A) (h2 : x < 0 → GX BX R QX mi cells slots (pc + 3) L st M B) : GX BX R QX mi cells slots pc L (.int x :: st) M (if x < 0 then B else A) := fun M' ρ e => q_if_ge ht hd (fun c => h1 c M' ρ (by rw [if_neg c] at e; exact e)) (fun c => h2 c M' ρ (by rw [if_pos c] at e; exact e))
theorem x_if_gt {x : Int32} {off : Int} {tgt : Nat} (ht : (pc : Int) + off = (tgt : Int)) (hd : decode mi.1 pc = .ok (.ifCond .gt off, 3)) (h1 : 0 < x → GX BX R QX mi cells slots tgt L st M A) (h2 : ¬ 0 < x → GX BX R QX mi cells slots (pc + 3) L st M B) : GX BX R QX mi cells slots pc L (.int x :: st) M (if 0 < x then A else B) := fun M' ρ e => q_if_gt ht hd (fun c => h1 c M' ρ (by rw [if_pos c] at e; exact e)) (fun c => h2 c M' ρ (by rw [if_neg c] at e; exact e))
theorem x_if_le {x : Int32} {off : Int} {tgt : Nat} (ht : (pc : Int) + off = (tgt : Int)) (hd : decode mi.1 pc = .ok (.ifCond .le off, 3)) (h1 : ¬ 0 < x → GX BX R QX mi cells slots tgt L st M A) (h2 : 0 < x → GX BX R QX mi cells slots (pc + 3) L st M B) : GX BX R QX mi cells slots pc L (.int x :: st) M (if 0 < x then B else A) := fun M' ρ e => q_if_le ht hd (fun c => h1 c M' ρ (by rw [if_neg c] at e; exact e)) (fun c => h2 c M' ρ (by rw [if_pos c] at e; exact e))
theorem x_lald {a n : Nat} {i : Int32} (hk : kd a = (22, n)) (hd : decode mi.1 pc = .ok (.laload, 1)) (h : inb i n = true → GX BX R QX mi cells slots (pc + 1) L (.long (gl M a (ix i)) :: st) M o) : GX BX R QX mi cells slots pc L (.int i :: .ref a :: st) M (chk (inb i n) o) := by
  refine GX.chk fun hi => ?_
  intro M' ρ e l E p e' s m args below meth c ls H locs B b hl hP hS hz
  have ha : a < NN := kd_lt hk (by decide)
  have hg := wld_get (E := E) (F := cel M) ha
  rw [cel_l hk] at hg
  show W p l e' _ s m args below meth c H locs cells slots _ (F0 m pc ls (.int i :: .ref (ph E a) :: st.map (cvv E)))
  rw [ph_lt E (nn1 ha)]
  exact va_lald (f := M.2.1 a) B.1.1 B.1.2.1 B.2.2.2.1.1 hP a 2 hg rfl (inb_iff.mp hi) hd (h hi M' ρ e l E p e' s m args below meth c ls H locs B b hl hP hS hz)
theorem x_last {a n : Nat} {i : Int32} {v : Int64} (hk : kd a = (22, n)) (hd : decode mi.1 pc = .ok (.lastore, 1)) (h : inb i n = true → GX BX R QX mi cells slots (pc + 1) L st (sl M a (ix i) v) o) : GX BX R QX mi cells slots pc L (.long v :: .int i :: .ref a :: st) M (chk (inb i n) o) := by
  refine GX.chk fun hi => ?_
  intro M' ρ e l E p e' s m args below meth c ls H locs B b hl hP hS hz
  have ha : a < NN := kd_lt hk (by decide)
  have hg := wld_get (E := E) (F := cel M) ha
  rw [cel_l hk] at hg
  have hset : (wld E NN (cel M)).set a (E.1 + a, .inl (E.2.2.1 2, n, .inr (.inl (vp_updL (M.2.1 a) i.toNatClampNeg v)))) = wld E NN (cel (sl M a (ix i) v)) := by
    have := wld_set (E := E) (F := cel M) ha (.inl (2, n, .inr (.inl (vp_updL (M.2.1 a) i.toNatClampNeg v))))
    rw [wld_ext (fun b _ => cel_sl_arr hk b)] at this
    exact this
  show W p l e' _ s m args below meth c H locs cells slots _ (F0 m pc ls (.long v :: .int i :: .ref (ph E a) :: st.map (cvv E)))
  rw [ph_lt E (nn1 ha)]
  refine va_last (f := M.2.1 a) B.1.1 B.1.2.1 B.2.2.2.1.1 hP (wld_D E NN (cel M)) hS a 2 hg rfl (inb_iff.mp hi) hd (fun H1 locs1 hP1 hD1 hS1 => ?_)
  rw [hset] at hP1
  exact h hi M' ρ e l E p e' s m args below meth c ls H1 locs1 B b hl hP1 hS1 (fun q => absurd q (Nat.lt_irrefl _))
theorem x_tabI {dflt lo hi off : Int} {offs : Array Int} {len tgt : Nat} {x : Int32} (k : Int32) (ht : (pc : Int) + off = (tgt : Int)) (h1 : ¬ k.toInt < lo) (h2 : ¬ hi < k.toInt) (ho : offs[(k.toInt - lo).toNat]? = some off) (hd : decode mi.1 pc = .ok (.tableswitch dflt lo hi offs, len))
    (h : GX BX R QX mi cells slots tgt L st M A) (h' : ¬ x = k → GX BX R QX mi cells slots pc L (.int x :: st) M B) : GX BX R QX mi cells slots pc L (.int x :: st) M (if x = k then A else B) := by
  intro M' ρ e
  by_cases hx : x = k
  · rw [if_pos hx] at e
    subst hx
    intro l E p e' s m args below meth c ls H locs B b hl hP hS hz
    exact lv_tableIn B.1.1 B.1.2.1 hd h1 h2 ho ht (h M' ρ e l E p e' s m args below meth c ls H locs B b hl hP hS hz)
  · rw [if_neg hx] at e
    exact h' hx M' ρ e
theorem x_tabD {dflt lo hi : Int} {offs : Array Int} {len tgt : Nat} {x : Int32} (ht : (pc : Int) + dflt = (tgt : Int)) (hx : x.toInt < lo ∨ hi < x.toInt) (hd : decode mi.1 pc = .ok (.tableswitch dflt lo hi offs, len))
    (h : GX BX R QX mi cells slots tgt L st M o) : GX BX R QX mi cells slots pc L (.int x :: st) M o := by
  intro M' ρ e l E p e' s m args below meth c ls H locs B b hl hP hS hz
  exact lv_tableOut B.1.1 B.1.2.1 hd hx ht (h M' ρ e l E p e' s m args below meth c ls H locs B b hl hP hS hz)
theorem x_tabE {dflt lo hi off : Int} {offs : Array Int} {len tgt : Nat} {x : Int32} (ht : (pc : Int) + off = (tgt : Int)) (h1 : ¬ x.toInt < lo) (h2 : ¬ hi < x.toInt) (ho : offs[(x.toInt - lo).toNat]? = some off) (hd : decode mi.1 pc = .ok (.tableswitch dflt lo hi offs, len))
    (h : GX BX R QX mi cells slots tgt L st M o) : GX BX R QX mi cells slots pc L (.int x :: st) M o := by
  intro M' ρ e l E p e' s m args below meth c ls H locs B b hl hP hS hz
  exact lv_tableIn B.1.1 B.1.2.1 hd h1 h2 ho ht (h M' ρ e l E p e' s m args below meth c ls H locs B b hl hP hS hz)
theorem x_laldL {a n j : Nat} {i : Int32} (hk : kd a = (22, n)) (hi : inb i n = true) (hj : ix i = j) (hd : decode mi.1 pc = .ok (.laload, 1)) (h : GX BX R QX mi cells slots (pc + 1) L (.long (gl M a j) :: st) M o) : GX BX R QX mi cells slots pc L (.int i :: .ref a :: st) M o := by
  have q := x_lald (i := i) (o := o) hk hd (fun _ => by rw [hj]; exact h)
  rw [chk_true hi] at q
  exact q
theorem x_lastL {a n j : Nat} {i : Int32} {v : Int64} (hk : kd a = (22, n)) (hi : inb i n = true) (hj : ix i = j) (hd : decode mi.1 pc = .ok (.lastore, 1)) (h : GX BX R QX mi cells slots (pc + 1) L st (sl M a j v) o) : GX BX R QX mi cells slots pc L (.long v :: .int i :: .ref a :: st) M o := by
  have q := x_last (i := i) (v := v) (o := o) hk hd (fun _ => by rw [hj]; exact h)
  rw [chk_true hi] at q
  exact q
theorem GX.wr {k : Mem → RS} (h : ∀ M1, GX BX R QX mi cells slots pc L st M1 (k M1)) : GX BX R QX mi cells slots pc L st M (wr M k) := h M
theorem x_tabZ {dflt lo hi : Int} {offs : Array Int} {len tgt : Nat} {x : Int32} (lv : List Int32) (hx : ∀ k ∈ lv, ¬ x = k) (ht : (pc : Int) + dflt = (tgt : Int)) (hd : decode mi.1 pc = .ok (.tableswitch dflt lo hi offs, len)) (hsz : (offs.size : Int) = hi - lo + 1) (hof : ∀ i, i < offs.size → (lo + (i : Int)) ∈ lv.map Int32.toInt ∨ offs[i]? = some dflt)
    (h : GX BX R QX mi cells slots tgt L st M o) : GX BX R QX mi cells slots pc L (.int x :: st) M o := by
  by_cases h1 : x.toInt < lo ∨ hi < x.toInt
  · exact x_tabD ht h1 hd h
  · rcases hof (x.toInt - lo).toNat (by omega) with h2 | h2
    · rw [show lo + ((x.toInt - lo).toNat : Int) = x.toInt by omega] at h2
      obtain ⟨k, hk, e⟩ := List.mem_map.mp h2
      exact absurd (Int32.toInt_inj.mp e).symm (hx k hk)
    · exact x_tabE ht (fun q => h1 (Or.inl q)) (fun q => h1 (Or.inr q)) h2 hd h
end
/-- an exception handed to the frame: what the handler comes to -/
def XH (BX : BXT) (R : Room) (QX : Mem → (Nat ⊕ Option Value) → QXT) (mi : MI) (cells slots pc : Nat) (L : List (Nat × Value)) (st : List Value) (M1 : Mem) (x : Nat) (o : RS) : Prop :=
  ∀ M' ρ, o = some (M', ρ) → ∀ (l : Launch) (E : EV) (p : Program) (e : Env) (s : State) (m : MethodId) (args : Array Value) (below : List Frame) (meth : Method) (c : Code) (ls : Array Slot) (H : Heap) (locs : List Loc) (q9 : Addr) (ce : Cell),
    Bd mi l E p s m args meth c → BX E s args c → lv_has ls mi.2.1 (L.map (cvl E)) → va_P E.2.1 vwCl (wld E NN (cel M1)) H → va_S (Ab E) s.heap H locs → H[q9]? = some ce → ce.vm = .none → s.vm.findClass (exN x) = some ce.cls →
    vx_W p l e R s m args below meth c H locs cells slots (QX M' ρ E s args below) (F0 m pc ls (st.map (cvv E))) q9
def cI (r : RS) (k : Mem → Int32 → RS) (kx : Mem → Nat → RS) : RS := match r with
  | some (M, .inr (some (.int v))) => k M v
  | some (M, .inl x) => kx M x
  | _ => none
def cL (r : RS) (k : Mem → Int64 → RS) (kx : Mem → Nat → RS) : RS := match r with
  | some (M, .inr (some (.long v))) => k M v
  | some (M, .inl x) => kx M x
  | _ => none
def cV (r : RS) (k : Mem → RS) (kx : Mem → Nat → RS) : RS := match r with
  | some (M, .inr none) => k M
  | some (M, .inl x) => kx M x
  | _ => none
theorem Mok.callR {y : MI} {n index d2 mc2 ms2 : Nat} {R : Room} {own : String} {args : Array Value} {s : State} (h : Mok y n) (ht : ∀ w ∈ TB, w.before args s = true) (hl : Cond.methodLink own index y.2.2.2 ∈ TB) (hd : d2 + 1 ≤ R.frames ∧ 100 * d2 + 100 ≤ R.locals) :
    CallB R s args own index y.2.2.2 y.1 y.2.1 y.2.2.1 (wsOf y) (rmOf d2 mc2 ms2) mc2 ms2 n := by
  refine callB_of n ht (fun w hw => ?_) rfl rfl rfl (ht _ h.2.1) (ht _ hl) h.1.1 ⟨hd.1, ?_⟩
  · rcases List.mem_cons.mp hw with rfl | hw
    · exact tb_good _ h.2.2
    · exact tb_good _ hw
  · show 8 + (y.2.1 + 11) + 100 * d2 ≤ R.locals
    have := h.1.2
    omega
section
variable {BX : BXT} {R : Room} {QX : Mem → (Nat ⊕ Option Value) → QXT} {mi y : MI} {cells slots pc d2 mc2 ms2 idx n : Nat} {L : List (Nat × Value)} {rest As : List Value} {M : Mem} {r : RS}
theorem runVX {ci N a : Nat} {C : String} {T : u_T} {M1 : Mem} {ρ1 : Nat ⊕ Option Value} {st0 : List Value} (hC : Cls ci C T N) (hk : kd a = (ci, N)) (hyC : y.2.2.2.cls = C) (hm : MokV y n) (hn : As.length = n) (hlink : Cond.methodLink mi.2.2.2.cls idx y.2.2.2 ∈ TB) (hd2 : d2 + 1 ≤ R.frames ∧ 100 * d2 + 100 ≤ R.locals) (hmc : cells + mc2 ≤ R.cells ∧ slots + ms2 ≤ R.slots) (hcat : (rest.map fun v => v.category).sum ≤ 8) (hst : st0 = As.reverse ++ .ref a :: rest)
    (hd : decode mi.1 pc = .ok (.invokevirtual idx, 3)) (hK : CT d2 y NN NN mc2 ms2 (.ref a :: As) (cel M) (rho ρ1) (cel M1)) {l : Launch} {E : EV} {p : Program} {e : Env} {s : State} {m : MethodId} {args : Array Value} {below : List Frame} {meth : Method} {c : Code} {ls : Array Slot} {H : Heap} {locs : List Loc}
    (B : Bd mi l E p s m args meth c) (hl : lv_has ls mi.2.1 (L.map (cvl E))) (hP : va_P E.2.1 vwCl (wld E NN (cel M)) H) (hS : va_S (Ab E) s.heap H locs) :
    vx_Run p l e R s m args below meth c H locs cells slots mc2 ms2 (F0 m pc ls (st0.map (cvv E))) (rest.map (cvv E)) (Cq E NN (cel M1) (rho ρ1) ((Value.ref (E.1 + a) :: As.map (cvv E)).toArray)) (Cx E NN (cel M1) (rho ρ1)) (Ab E) := by
  have ha : a < NN := kd_lt hk (by have := hC.1.2.1; omega)
  have hg := wld_get (E := E) (F := cel M) ha
  rw [cel_obj hk hC.1.2.1] at hg
  subst hyC
  have hp1 := cp_pre (av := .ref a :: As) B.2.2.2.1 B.2.2.2.2.1 B.2.2.2.2.2.2 hP hS
  have e1 : ((Value.ref a :: As).map (cvv E)).toArray = (Value.ref (E.1 + a) :: As.map (cvv E)).toArray := by
    show (Value.ref (ph E a) :: As.map (cvv E)).toArray = _
    rw [ph_lt E (nn1 ha)]
  rw [e1] at hp1
  refine vx_runV (As := As.map (cvv E)) (b := E.1 + a) (C := y.2.2.2.cls) (nL := mi.2.1) ⟨B.1.1, B.1.2.1, B.1.2.2.1, B.2.1, B.2.2.1⟩ (hK l E B.2.2.2.2.2.1) ⟨hm.1.callR B.2.2.1 hlink hd2, B.2.2.1 _ hm.2.1, B.2.2.1 _ hm.2.2⟩ ⟨Cp.blind, va_recv B.2.2.2.1.1 hP hC.1.1 hg, hp1⟩ rfl ?_ ?_ ?_ ?_ hd hmc
  · rw [List.length_map]; exact hn
  · exact hl.1
  · show st0.map (cvv E) = _
    rw [hst, List.map_append, List.map_reverse, List.map_cons]
    show _ ++ Value.ref (ph E a) :: _ = _
    rw [ph_lt E (nn1 ha)]
  · show 2 * 0 + ((rest.map (cvv E)).map fun v => v.category).sum ≤ 8
    rw [cat_sum]
    omega
theorem x_callVI {ci N a : Nat} {C : String} {T : u_T} {k : Mem → Int32 → RS} {kx : Mem → Nat → RS} {st0 : List Value} (hC : Cls ci C T N) (hk : kd a = (ci, N)) (hyC : y.2.2.2.cls = C) (hm : MokV y n) (hn : As.length = n) (hlink : Cond.methodLink mi.2.2.2.cls idx y.2.2.2 ∈ TB) (hd2 : d2 + 1 ≤ R.frames ∧ 100 * d2 + 100 ≤ R.locals) (hmc : cells + mc2 ≤ R.cells ∧ slots + ms2 ≤ R.slots) (hcat : (rest.map fun v => v.category).sum ≤ 8) (hst : st0 = As.reverse ++ .ref a :: rest)
    (hd : decode mi.1 pc = .ok (.invokevirtual idx, 3)) (hK : CTO d2 y mc2 ms2 (.ref a :: As) M r) (hx : ∀ M1 x, XH BX R QX mi (cells + mc2) (slots + ms2) pc L rest M1 x (kx M1 x)) (h : ∀ M1 v, GX BX R QX mi (cells + mc2) (slots + ms2) (pc + 3) L (.int v :: rest) M1 (k M1 v)) : GX BX R QX mi cells slots pc L st0 M (cI r k kx) := by
  intro M' ρ e l E p e' s m args below meth c ls H locs B b hl hP hS hz
  unfold cI at e
  split at e
  · rename_i M1 v
    exact call_ret (r := some (.int v)) (runVX (ρ1 := .inr (some (.int v))) hC hk hyC hm hn hlink hd2 hmc hcat hst hd (hK M1 _ rfl) B hl hP hS) hS (fun H1 locs1 hP1 hS1 => h M1 v M' ρ e l E p e' s m args below meth c ls H1 locs1 B b hl hP1 hS1 (fun q => absurd q (Nat.lt_irrefl _)))
  · rename_i M1 x
    exact call_thr (X0 := exN x) (runVX (ρ1 := .inl x) hC hk hyC hm hn hlink hd2 hmc hcat hst hd (hK M1 _ rfl) B hl hP hS) hS (fun H1 locs1 q9 ce hP1 hS1 h1 h2 h3 => hx M1 x M' ρ e l E p e' s m args below meth c ls H1 locs1 q9 ce B b hl hP1 hS1 h1 h2 h3)
  · cases e
theorem x_callVL {ci N a : Nat} {C : String} {T : u_T} {k : Mem → Int64 → RS} {kx : Mem → Nat → RS} {st0 : List Value} (hC : Cls ci C T N) (hk : kd a = (ci, N)) (hyC : y.2.2.2.cls = C) (hm : MokV y n) (hn : As.length = n) (hlink : Cond.methodLink mi.2.2.2.cls idx y.2.2.2 ∈ TB) (hd2 : d2 + 1 ≤ R.frames ∧ 100 * d2 + 100 ≤ R.locals) (hmc : cells + mc2 ≤ R.cells ∧ slots + ms2 ≤ R.slots) (hcat : (rest.map fun v => v.category).sum ≤ 8) (hst : st0 = As.reverse ++ .ref a :: rest)
    (hd : decode mi.1 pc = .ok (.invokevirtual idx, 3)) (hK : CTO d2 y mc2 ms2 (.ref a :: As) M r) (hx : ∀ M1 x, XH BX R QX mi (cells + mc2) (slots + ms2) pc L rest M1 x (kx M1 x)) (h : ∀ M1 v, GX BX R QX mi (cells + mc2) (slots + ms2) (pc + 3) L (.long v :: rest) M1 (k M1 v)) : GX BX R QX mi cells slots pc L st0 M (cL r k kx) := by
  intro M' ρ e l E p e' s m args below meth c ls H locs B b hl hP hS hz
  unfold cL at e
  split at e
  · rename_i M1 v
    exact call_ret (r := some (.long v)) (runVX (ρ1 := .inr (some (.long v))) hC hk hyC hm hn hlink hd2 hmc hcat hst hd (hK M1 _ rfl) B hl hP hS) hS (fun H1 locs1 hP1 hS1 => h M1 v M' ρ e l E p e' s m args below meth c ls H1 locs1 B b hl hP1 hS1 (fun q => absurd q (Nat.lt_irrefl _)))
  · rename_i M1 x
    exact call_thr (X0 := exN x) (runVX (ρ1 := .inl x) hC hk hyC hm hn hlink hd2 hmc hcat hst hd (hK M1 _ rfl) B hl hP hS) hS (fun H1 locs1 q9 ce hP1 hS1 h1 h2 h3 => hx M1 x M' ρ e l E p e' s m args below meth c ls H1 locs1 q9 ce B b hl hP1 hS1 h1 h2 h3)
  · cases e
theorem x_callVV {ci N a : Nat} {C : String} {T : u_T} {k : Mem → RS} {kx : Mem → Nat → RS} {st0 : List Value} (hC : Cls ci C T N) (hk : kd a = (ci, N)) (hyC : y.2.2.2.cls = C) (hm : MokV y n) (hn : As.length = n) (hlink : Cond.methodLink mi.2.2.2.cls idx y.2.2.2 ∈ TB) (hd2 : d2 + 1 ≤ R.frames ∧ 100 * d2 + 100 ≤ R.locals) (hmc : cells + mc2 ≤ R.cells ∧ slots + ms2 ≤ R.slots) (hcat : (rest.map fun v => v.category).sum ≤ 8) (hst : st0 = As.reverse ++ .ref a :: rest)
    (hd : decode mi.1 pc = .ok (.invokevirtual idx, 3)) (hK : CTO d2 y mc2 ms2 (.ref a :: As) M r) (hx : ∀ M1 x, XH BX R QX mi (cells + mc2) (slots + ms2) pc L rest M1 x (kx M1 x)) (h : ∀ M1, GX BX R QX mi (cells + mc2) (slots + ms2) (pc + 3) L rest M1 (k M1)) : GX BX R QX mi cells slots pc L st0 M (cV r k kx) := by
  intro M' ρ e l E p e' s m args below meth c ls H locs B b hl hP hS hz
  unfold cV at e
  split at e
  · rename_i M1
    exact call_ret (r := none) (runVX (ρ1 := .inr none) hC hk hyC hm hn hlink hd2 hmc hcat hst hd (hK M1 _ rfl) B hl hP hS) hS (fun H1 locs1 hP1 hS1 => h M1 M' ρ e l E p e' s m args below meth c ls H1 locs1 B b hl hP1 hS1 (fun q => absurd q (Nat.lt_irrefl _)))
  · rename_i M1 x
    exact call_thr (X0 := exN x) (runVX (ρ1 := .inl x) hC hk hyC hm hn hlink hd2 hmc hcat hst hd (hK M1 _ rfl) B hl hP hS) hS (fun H1 locs1 q9 ce hP1 hS1 h1 h2 h3 => hx M1 x M' ρ e l E p e' s m args below meth c ls H1 locs1 q9 ce B b hl hP1 hS1 h1 h2 h3)
  · cases e
theorem XH.none {M1 : Mem} {x : Nat} {st : List Value} : XH BX R QX mi cells slots pc L st M1 x none := fun _ _ e => by cases e
end
/-- a method with a table of handlers -/
def BXh (hh : List (Nat × Nat × Nat × Nat)) : BXT := fun _ _ _ c => c.exceptionTable.toList = tableOf hh
def QMm (mc ms : Nat) : Mem → (Nat ⊕ Option Value) → QXT := fun M' ρ => QM NN (cel M') (rho ρ) mc ms
abbrev GH (hh : List (Nat × Nat × Nat × Nat)) (d mc ms : Nat) := GX (BXh hh) (rmOf d mc ms) (QMm mc ms)
def wsH (mi : MI) (hh : List (Nat × Nat × Nat × Nat)) : List Cond := .codeWith mi.2.2.2 mi.1 mi.2.1 mi.2.2.1 hh :: TB
def CTH (d : Nat) (mi : MI) (hh : List (Nat × Nat × Nat × Nat)) (mc ms : Nat) (av : List Value) (M : Mem) (o : RS) : Prop :=
  ∀ M' ρ, o = some (M', ρ) → ∀ (l : Launch) (E : EV), l.stackTraces = false → vx_Met l mi.2.2.2 (wsH mi hh) (rmOf d mc ms) (Cp E NN (cel M) av) (Cq E NN (cel M') (rho ρ)) (Cx E NN (cel M') (rho ρ)) mc ms (Ab E)
section
variable {hh : List (Nat × Nat × Nat × Nat)} {mi : MI} {d mc ms cells slots pc : Nat} {L : List (Nat × Value)} {st : List Value} {M : Mem} {o : RS}
theorem CTH.of {av : List Value} (hy : plainName mi.2.2.2.cls = true) (hlen : (lg_sl av).length ≤ mi.2.1) (h : GH hh d mc ms mi 0 0 0 (lv_args 0 av) [] M o) : CTH d mi hh mc ms av M o := by
  intro M' ρ e l E hst
  refine vx_ofWH (cc := mi.1) (maxL := mi.2.1) (ret := mi.2.2.1) (hh := hh) hy rfl ?_
  intro p e9 s m args below meth c s₁ B hml hv
  obtain ⟨rfl, hP, hT, hO, hz, hb⟩ := hv
  have hts := atoms_spec (ws := wsH mi hh) B.pre
  have htab := vx_table (x := mi.2.2.2) B (hts _ List.mem_cons_self)
  have hl := lv_entry (av.map (cvv E)) (n := mi.2.1) (by rw [lg_sl_cv]; exact hlen)
  rw [lg_entry_eq]
  generalize (lg_sl (av.map (cvv E)) ++ List.replicate (mi.2.1 - (lg_sl (av.map (cvv E))).length) Slot.unset).toArray = ls at hl ⊢
  rw [lv_args_cv] at hl
  exact h M' ρ e l E p e9 s m _ below meth c ls s.heap [] ⟨⟨B.exec, B.bytes, hml, B.returns, B.notSynchronized, (name_of_methodNamed B.named B.method).1⟩, findClass_of_methodNamed B.named, fun w hw => hts w (List.mem_cons_of_mem _ hw), hT, hO, hst, hb⟩ htab hl hP va_S.rf hz
theorem h_ireturn {v : Int32} (hr : mi.2.2.1 = some .int) (hc : cells ≤ mc) (hs : slots ≤ ms) (hd : decode mi.1 pc = .ok (.ireturn, 1)) : GH hh d mc ms mi cells slots pc L [.int v] M (some (M, .inr (some (.int v)))) := by
  intro M' ρ e l E p e' s m args below meth c ls H locs B b hl hP hS hz
  cases e
  refine W.widen hc hs (vx_ret ?_)
  exact W.iret B.1.1 B.1.2.1 (B.1.2.2.2.1.trans hr) (fun t ht _ => ⟨⟨_, rfl, rfl⟩, by rw [ht]; exact hP, fun q => absurd q (Nat.lt_irrefl _), hS.F ht⟩) hS.2.2 hd B.1.2.2.2.2.1
/-- the handler: it keeps the exception in a local, and answers a constant -/
theorem h_hand {k : Nat} {M1 : Mem} {v : Int32} {kc : Int} (pre : List ExceptionTableEntry) (x : ExceptionTableEntry) (suf : List ExceptionTableEntry) (hsplit : tableOf hh = pre ++ x :: suf) (hpass : ∀ z ∈ pre, covers z pc = false ∨ (z.catchType ≠ 0 ∧ ∃ nm, Cond.classLink mi.2.2.2.cls z.catchType nm ∈ TB ∧ ((exN k = iaeN ∧ nm = nseN) ∨ (exN k = nseN ∧ nm = iaeN)))) (hx : covers x pc = true) (h0 : x.catchType ≠ 0)
    (hlink : Cond.classLink mi.2.2.2.cls x.catchType (exN k) ∈ TB) {j i : Nat} (hi : i < mi.2.1) (hast : (∃ q : Fin 4, (q : Nat) = i ∧ decode mi.1 x.handlerPc = .ok (.astore_n q, 1) ∧ j = x.handlerPc + 1) ∨ (decode mi.1 x.handlerPc = .ok (.astore i, 2) ∧ j = x.handlerPc + 2)) (hco : decode mi.1 j = .ok (.iconst kc, 1)) (hv : Int32.ofInt kc = v) (hre : decode mi.1 (j + 1) = .ok (.ireturn, 1)) (hr : mi.2.2.1 = some .int) (hc : cells ≤ mc) (hs : slots ≤ ms) :
    XH (BXh hh) (rmOf d mc ms) (QMm mc ms) mi cells slots pc L st M1 k (some (M1, .inr (some (.int v)))) := by
  intro M' ρ e l E p e' s m args below meth c ls H locs q9 ce B b hl hP hS h1 h2 h3
  cases e
  have hcast : (Cond.castable (exN k) (exN k)).before args s = true := by
    unfold exN
    split
    · exact va_Nw.use rfl B.2.2.2.1.2.2.2.2.1.2.1
    · exact va_Nw.use rfl B.2.2.2.1.2.2.2.2.1.1
  have hend : ∀ ls' : Array Slot, W p l e' (rmOf d mc ms) s m args below meth c H locs cells slots (QMm mc ms M1 (.inr (some (.int v))) E s args below) (F0 m j ls' []) := by
    intro ls'
    refine lv_iconst B.1.1 B.1.2.1 hco hv ?_
    refine W.widen hc hs (vx_ret ?_)
    exact W.iret B.1.1 B.1.2.1 (B.1.2.2.2.1.trans hr) (fun t ht _ => ⟨⟨_, rfl, rfl⟩, by rw [ht]; exact hP, fun q => absurd q (Nat.lt_irrefl _), hS.F ht⟩) hS.2.2 hre B.1.2.2.2.2.1
  refine vx_catch B.2.1 pre x suf ((show c.exceptionTable.toList = tableOf hh from b).trans hsplit) (fun z hz => ?_) hx h0 (B.2.2.1 _ hlink) hcast h1 h2 h3 ?_
  · rcases hpass z hz with q | ⟨q1, nm, q2, q3⟩
    · exact Or.inl q
    · refine Or.inr ⟨q1, nm, B.2.2.1 _ q2, ?_⟩
      rcases q3 with ⟨q4, rfl⟩ | ⟨q4, rfl⟩
      · rw [q4]; exact B.2.2.2.1.2.2.2.2.2.1.1
      · rw [q4]; exact B.2.2.2.1.2.2.2.2.2.1.2
  · rcases hast with ⟨q, hq, hdq, rfl⟩ | ⟨hdq, rfl⟩
    · exact lv_astore_n B.1.1 B.1.2.1 hdq hq hl hi rfl (fun ls' _ => hend ls')
    · exact lv_astore B.1.1 B.1.2.1 hdq hl hi rfl (fun ls' _ => hend ls')
end
