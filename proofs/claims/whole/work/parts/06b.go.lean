def exNs : List String := ["java/lang/RuntimeException", "java/lang/Exception"]
section
variable {mi : MI} {d mc ms cells slots pc : Nat} {L : List (Nat × Value)} {st : List Value} {M : Mem} {o : RS}
theorem g_ldc {idx : Nat} {v : Int32} (hw : Cond.constant mi.2.2.2.cls idx v ∈ TB) (hd : decode mi.1 pc = .ok (.ldc idx, 2)) (h : GO mi d mc ms cells slots (pc + 2) L (.int v :: st) M o) : GO mi d mc ms cells slots pc L st M o := by
  intro M' ρ e l E p e' s m args below meth c ls H locs B b hl hP hS hz
  exact lv_ldc B.1.1 B.1.2.1 B.2.1 (B.2.2.1 _ hw) hd (h M' ρ e l E p e' s m args below meth c ls H locs B b hl hP hS hz)
theorem g_ldc_w {idx : Nat} {v : Int32} (hw : Cond.constant mi.2.2.2.cls idx v ∈ TB) (hd : decode mi.1 pc = .ok (.ldc_w idx, 3)) (h : GO mi d mc ms cells slots (pc + 3) L (.int v :: st) M o) : GO mi d mc ms cells slots pc L st M o := by
  intro M' ρ e l E p e' s m args below meth c ls H locs B b hl hP hS hz
  exact lv_ldcw B.1.1 B.1.2.1 B.2.1 (B.2.2.1 _ hw) hd (h M' ρ e l E p e' s m args below meth c ls H locs B b hl hP hS hz)
theorem g_ldc2 {idx : Nat} {v : Int64} (hw : Cond.constantLong mi.2.2.2.cls idx v ∈ TB) (hd : decode mi.1 pc = .ok (.ldc2_w idx, 3)) (h : GO mi d mc ms cells slots (pc + 3) L (.long v :: st) M o) : GO mi d mc ms cells slots pc L st M o := by
  intro M' ρ e l E p e' s m args below meth c ls H locs B b hl hP hS hz
  exact lv_ldc2 B.1.1 B.1.2.1 B.2.1 (B.2.2.1 _ hw) hd (h M' ρ e l E p e' s m args below meth c ls H locs B b hl hP hS hz)
theorem g_ldcS {idx j : Nat} (hq : (mi.2.2.2.cls, idx, j) ∈ SRl) (hd : decode mi.1 pc = .ok (.ldc idx, 2)) (h : GO mi d mc ms cells slots (pc + 2) L (.ref (1000 + j) :: st) M o) : GO mi d mc ms cells slots pc L st M o := by
  intro M' ρ e l E p e' s m args below meth c ls H locs B b hl hP hS hz
  refine va_ldcS B.1.1 B.1.2.1 B.2.1 (B.2.2.2.1.2.2.2.1 _ hq) hd ?_
  have := h M' ρ e l E p e' s m args below meth c ls H locs B b hl hP hS hz
  have e1 : ph E (1000 + j) = E.2.2.2.1 j := by unfold ph; rw [if_neg (by omega), Nat.add_sub_cancel_left]
  show W p l e' _ s m args below meth c H locs cells slots _ (F0 m (pc + 2) ls (.ref (E.2.2.2.1 j) :: st.map (cvv E)))
  rw [← e1]
  exact this
theorem g_tabI {dflt lo hi off : Int} {offs : Array Int} {len tgt : Nat} {x : Int32} {A B : RS} (k : Int32) (ht : (pc : Int) + off = (tgt : Int)) (h1 : ¬ k.toInt < lo) (h2 : ¬ hi < k.toInt) (ho : offs[(k.toInt - lo).toNat]? = some off) (hd : decode mi.1 pc = .ok (.tableswitch dflt lo hi offs, len))
    (h : GO mi d mc ms cells slots tgt L st M A) (h' : ¬ x = k → GO mi d mc ms cells slots pc L (.int x :: st) M B) : GO mi d mc ms cells slots pc L (.int x :: st) M (if x = k then A else B) := by
  intro M' ρ e
  by_cases hx : x = k
  · rw [if_pos hx] at e
    subst hx
    intro l E p e' s m args below meth c ls H locs B b hl hP hS hz
    exact lv_tableIn B.1.1 B.1.2.1 hd h1 h2 ho ht (h M' ρ e l E p e' s m args below meth c ls H locs B b hl hP hS hz)
  · rw [if_neg hx] at e
    exact h' hx M' ρ e
theorem g_tabD {dflt lo hi : Int} {offs : Array Int} {len tgt : Nat} {x : Int32} (ht : (pc : Int) + dflt = (tgt : Int)) (hx : x.toInt < lo ∨ hi < x.toInt) (hd : decode mi.1 pc = .ok (.tableswitch dflt lo hi offs, len))
    (h : GO mi d mc ms cells slots tgt L st M o) : GO mi d mc ms cells slots pc L (.int x :: st) M o := by
  intro M' ρ e l E p e' s m args below meth c ls H locs B b hl hP hS hz
  exact lv_tableOut B.1.1 B.1.2.1 hd hx ht (h M' ρ e l E p e' s m args below meth c ls H locs B b hl hP hS hz)
/-- a place of the table that goes where the default goes -/
theorem g_tabE {dflt lo hi off : Int} {offs : Array Int} {len tgt : Nat} {x : Int32} (ht : (pc : Int) + off = (tgt : Int)) (h1 : ¬ x.toInt < lo) (h2 : ¬ hi < x.toInt) (ho : offs[(x.toInt - lo).toNat]? = some off) (hd : decode mi.1 pc = .ok (.tableswitch dflt lo hi offs, len))
    (h : GO mi d mc ms cells slots tgt L st M o) : GO mi d mc ms cells slots pc L (.int x :: st) M o := by
  intro M' ρ e l E p e' s m args below meth c ls H locs B b hl hP hS hz
  exact lv_tableIn B.1.1 B.1.2.1 hd h1 h2 ho ht (h M' ρ e l E p e' s m args below meth c ls H locs B b hl hP hS hz)
theorem cat_sum (E : EV) (st : List Value) : ((st.map (cvv E)).map fun v => v.category).sum = (st.map fun v => v.category).sum := by
  rw [List.map_map]
  have : ((fun v => Value.category v) ∘ cvv E) = fun v => Value.category v := by funext v; exact cvv_cat E v
  rw [this]
theorem g_mmax {idx : Nat} {x y : Int32} (hw : Cond.methodLink mi.2.2.2.cls idx Lib.Math.max.name ∈ TB) (hs : Cond.static Lib.Math.max.name ∈ TB) (hi : Cond.initialized "java/lang/Math" ∈ TB) (hco : Cond.code Lib.Math.max.name Lib.Math.max.code 2 (some .int) ∈ TB) (hdd : 1 ≤ d) (hc : cells ≤ mc ∧ slots ≤ ms) (hcat : (st.map fun v => v.category).sum ≤ 80) (hd : decode mi.1 pc = .ok (.invokestatic idx, 3))
    (h : GO mi d mc ms cells slots (pc + 3) L (.int (if x < y then y else x) :: st) M o) : GO mi d mc ms cells slots pc L (.int y :: .int x :: st) M o := by
  intro M' ρ e l E p e' s m args below meth c ls H locs B b hl hP hS hz
  refine va_mmax B.1.1 B.1.2.1 (by rw [B.1.2.2.1]; exact hl.1.symm) B.2.1 (B.2.2.1 _ hw) (B.2.2.1 _ hs) (B.2.2.1 _ hi) (B.2.2.1 _ hco) hdd ?_ hc.1 hc.2 hd (h M' ρ e l E p e' s m args below meth c ls H locs B b hl hP hS hz)
  rw [cat_sum]
  show _ ≤ 100 * d
  omega
theorem g_mmin {idx : Nat} {x y : Int32} (hw : Cond.methodLink mi.2.2.2.cls idx Lib.Math.min.name ∈ TB) (hs : Cond.static Lib.Math.min.name ∈ TB) (hi : Cond.initialized "java/lang/Math" ∈ TB) (hco : Cond.code Lib.Math.min.name Lib.Math.min.code 2 (some .int) ∈ TB) (hdd : 1 ≤ d) (hc : cells ≤ mc ∧ slots ≤ ms) (hcat : (st.map fun v => v.category).sum ≤ 80) (hd : decode mi.1 pc = .ok (.invokestatic idx, 3))
    (h : GO mi d mc ms cells slots (pc + 3) L (.int (if y < x then y else x) :: st) M o) : GO mi d mc ms cells slots pc L (.int y :: .int x :: st) M o := by
  intro M' ρ e l E p e' s m args below meth c ls H locs B b hl hP hS hz
  refine va_mmin B.1.1 B.1.2.1 (by rw [B.1.2.2.1]; exact hl.1.symm) B.2.1 (B.2.2.1 _ hw) (B.2.2.1 _ hs) (B.2.2.1 _ hi) (B.2.2.1 _ hco) hdd ?_ hc.1 hc.2 hd (h M' ρ e l E p e' s m args below meth c ls H locs B b hl hP hS hz)
  rw [cat_sum]
  show _ ≤ 100 * d
  omega
theorem g_mabs {idx : Nat} {x : Int32} (hw : Cond.methodLink mi.2.2.2.cls idx Lib.Math.abs.name ∈ TB) (hs : Cond.static Lib.Math.abs.name ∈ TB) (hi : Cond.initialized "java/lang/Math" ∈ TB) (hco : Cond.code Lib.Math.abs.name Lib.Math.abs.code 1 (some .int) ∈ TB) (hdd : 1 ≤ d) (hc : cells ≤ mc ∧ slots ≤ ms) (hcat : (st.map fun v => v.category).sum ≤ 80) (hd : decode mi.1 pc = .ok (.invokestatic idx, 3))
    (h : GO mi d mc ms cells slots (pc + 3) L (.int (if 0 ≤ x then x else 0 - x) :: st) M o) : GO mi d mc ms cells slots pc L (.int x :: st) M o := by
  intro M' ρ e l E p e' s m args below meth c ls H locs B b hl hP hS hz
  refine va_mabs B.1.1 B.1.2.1 (by rw [B.1.2.2.1]; exact hl.1.symm) B.2.1 (B.2.2.1 _ hw) (B.2.2.1 _ hs) (B.2.2.1 _ hi) (B.2.2.1 _ hco) hdd ?_ hc.1 hc.2 hd (h M' ρ e l E p e' s m args below meth c ls H locs B b hl hP hS hz)
  rw [cat_sum]
  show _ ≤ 100 * d
  omega
theorem g_aald {a n t b : Nat} {i : Int32} {f : Nat → Option Nat} {ty : FieldType} (hce : cel M a = .inl (t, n, .inr (.inr (.inr (.inr f))))) (ha : a < NN) (ht : ∀ E, (tysOf E)[t]? = some (E.2.2.1 t, ty)) (hrk : refKind ty = true) (hf : f (ix i) = some b) (hd : decode mi.1 pc = .ok (.aaload, 1)) (hi : inb i n = true) (h : GO mi d mc ms cells slots (pc + 1) L (.ref b :: st) M o) : GO mi d mc ms cells slots pc L (.int i :: .ref a :: st) M o := by
  intro M' ρ e l E p e' s m args below meth c ls H locs B b0 hl hP hS hz
  have hg := wld_get (E := E) (F := cel M) ha
  rw [hce] at hg
  have hin := inb_iff.mp hi
  have hlt : i.toNatClampNeg < n := Nat.not_le.mp fun q => hin (Or.inr q)
  show W p l e' _ s m args below meth c H locs cells slots _ (F0 m pc ls (.int i :: .ref (ph E a) :: st.map (cvv E)))
  rw [ph_lt E (nn1 ha)]
  have hv : va_rf ((f i.toNatClampNeg).map (ph E)) = .ref (ph E b) := by
    have : f i.toNatClampNeg = some b := hf
    rw [this]; rfl
  refine W.aald (v := va_rf ((f i.toNatClampNeg).map (ph E))) (ty := ty) B.1.1 B.1.2.1 (hP a _ hg) ((B.2.2.2.1.1.2 t _ (ht E)).1 n (fun j => va_rf ((f j).map (ph E)))) hrk (fun q => by cases q) (by show ¬ (i < 0 ∨ (arrV _ _ _).slots.size ≤ _); rw [arrV_size]; exact hin) (by show (arrV _ _ _).slots[_]? = _; rw [arrV_read _ _ hlt]) rfl rfl hd ?_
  rw [hv]
  exact h M' ρ e l E p e' s m args below meth c ls H locs B b0 hl hP hS hz
theorem g_throw {k ik ic : Nat} {X : String} (hX : exN k = X) (hfit : Bundle.fit X = true) (hk : Cond.classLink mi.2.2.2.cls ik X ∈ TB) (hini : Cond.initialized X ∈ TB) (h1 : ∀ w ∈ (vx_at0 mi.2.2.2.cls ic X exNs).filter goodWord, w ∈ TB)
    (h2 : ∀ w ∈ (vx_at0 mi.2.2.2.cls ic X exNs).filter (fun w => !goodWord w), w ∈ ([.castable X X, .declares ⟨"java/lang/RuntimeException", "<init>", "()V"⟩, .declares ⟨"java/lang/Exception", "<init>", "()V"⟩, .declares ⟨"java/lang/Throwable", "<init>", "()V"⟩] : List Cond)) (h3 : ∀ w ∈ Cond.classLink mi.2.2.2.cls ik X :: Cond.initialized X :: vx_at0 mi.2.2.2.cls ic X exNs, vx_ot w = true)
    (hc : cells + 1 ≤ mc) (hs : slots + 6 ≤ ms) (hdd : 6 ≤ d) (d0 : decode mi.1 pc = .ok (.new ik, 3)) (d3 : decode mi.1 (pc + 3) = .ok (.dup, 1)) (d4 : decode mi.1 (pc + 4) = .ok (.invokespecial ic, 3)) (d7 : decode mi.1 (pc + 7) = .ok (.athrow, 1)) : GO mi d mc ms cells slots pc L [] M (some (M, .inl k)) := by
  subst hX
  intro M' ρ e l E p e' s m args below meth c ls H locs B b hl hP hS hz
  cases e
  have hcast : ∀ (args : Array Value), (Cond.castable (exN k) (exN k)).before args s = true := by
    intro args
    unfold exN
    split
    · exact va_Nw.use rfl B.2.2.2.1.2.2.2.2.1.2.1
    · exact va_Nw.use rfl B.2.2.2.1.2.2.2.2.1.1
  have hdec : ∀ q ∈ ["java/lang/RuntimeException", "java/lang/Exception", "java/lang/Throwable"], (Cond.declares ⟨q, "<init>", "()V"⟩).before args s = true := fun q hq => va_Nw.use rfl (B.2.2.2.1.2.2.2.2.2.2 q hq)
  refine vx_throw0 (cls := exN k) (names := exNs) (ik := ik) (ic := ic) (A := Ab E) B.1.1 B.1.2.1 B.2.2.2.2.2.1 B.2.1 hfit (by decide) (B.2.2.1 _ hk) (B.2.2.1 _ hini) (vx_hat (fun w hw => B.2.2.1 w (h1 w hw)) h2 (vx_c (hcast args) (vx_c (hdec _ (by decide)) (vx_c (hdec _ (by decide)) (vx_c (hdec _ (by decide)) vx_n)))))
    h3 B.2.2.2.2.1.2.1.1 B.2.2.2.2.1.2.1.2 hS (by rw [B.1.2.2.1]; exact hl.1) d0 d3 d4 d7 (fun x hx => absurd hx (fun hx => b x hx)) ?_ ?_ hc hs B.1.2.2.2.2.1 ?_ hS.2.2 hc hs
  · show 2 + 3 < d
    omega
  · show 0 + (13 * (2 + 1) + 42) ≤ 100 * d
    omega
  · intro t ht hsz hq
    refine ⟨rfl, hP.kept (fun k x hx => hq x.1 (hP k x hx).lt), fun q => absurd q (Nat.lt_irrefl _), Nat.le_trans hS.1 hsz, fun q h1 h2 => (hq q (Nat.lt_of_lt_of_le h1 hS.1)).trans (hS.2.1 q h1 h2)⟩
end
