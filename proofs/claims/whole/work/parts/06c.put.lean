def wr (M : Mem) (k : Mem → RS) : RS := k M
theorem GO.wr {mi : MI} {d mc ms cells slots pc : Nat} {L : List (Nat × Value)} {st : List Value} {M : Mem} {k : Mem → RS} (h : ∀ M1, GO mi d mc ms cells slots pc L st M1 (k M1)) : GO mi d mc ms cells slots pc L st M (wr M k) := h M
theorem chk_true {b : Bool} {k : RS} (h : b = true) : chk b k = k := by unfold chk; rw [if_pos h]
section
variable {mi : MI} {d mc ms cells slots pc : Nat} {L : List (Nat × Value)} {st : List Value} {M : Mem} {o : RS}
theorem g_aldL {a n j : Nat} {i : Int32} (hk : kd a = (20, n)) (hi : inb i n = true) (hj : ix i = j) (hd : decode mi.1 pc = .ok (.iaload, 1)) (h : GO mi d mc ms cells slots (pc + 1) L (.int (gi M a j) :: st) M o) : GO mi d mc ms cells slots pc L (.int i :: .ref a :: st) M o := by
  have q := g_ald (i := i) (o := o) hk hd (fun _ => by rw [hj]; exact h)
  rw [chk_true hi] at q
  exact q
theorem g_baldL {a n j : Nat} {i : Int32} (hk : kd a = (21, n)) (hi : inb i n = true) (hj : ix i = j) (hd : decode mi.1 pc = .ok (.baload, 1)) (h : GO mi d mc ms cells slots (pc + 1) L (.int (gi M a j) :: st) M o) : GO mi d mc ms cells slots pc L (.int i :: .ref a :: st) M o := by
  have q := g_bald (i := i) (o := o) hk hd (fun _ => by rw [hj]; exact h)
  rw [chk_true hi] at q
  exact q
theorem g_laldL {a n j : Nat} {i : Int32} (hk : kd a = (22, n)) (hi : inb i n = true) (hj : ix i = j) (hd : decode mi.1 pc = .ok (.laload, 1)) (h : GO mi d mc ms cells slots (pc + 1) L (.long (gl M a j) :: st) M o) : GO mi d mc ms cells slots pc L (.int i :: .ref a :: st) M o := by
  have q := g_lald (i := i) (o := o) hk hd (fun _ => by rw [hj]; exact h)
  rw [chk_true hi] at q
  exact q
theorem g_astL {a n j : Nat} {i : Int32} {v : Int32} (hk : kd a = (20, n)) (hi : inb i n = true) (hj : ix i = j) (hd : decode mi.1 pc = .ok (.iastore, 1)) (h : GO mi d mc ms cells slots (pc + 1) L st (si M a j v) o) : GO mi d mc ms cells slots pc L (.int v :: .int i :: .ref a :: st) M o := by
  have q := g_ast (i := i) (v := v) (o := o) hk hd (fun _ => by rw [hj]; exact h)
  rw [chk_true hi] at q
  exact q
theorem g_lastL {a n j : Nat} {i : Int32} {v : Int64} (hk : kd a = (22, n)) (hi : inb i n = true) (hj : ix i = j) (hd : decode mi.1 pc = .ok (.lastore, 1)) (h : GO mi d mc ms cells slots (pc + 1) L st (sl M a j v) o) : GO mi d mc ms cells slots pc L (.long v :: .int i :: .ref a :: st) M o := by
  have q := g_last (i := i) (v := v) (o := o) hk hd (fun _ => by rw [hj]; exact h)
  rw [chk_true hi] at q
  exact q
end
def isB (a : Nat) : Bool := a == 24
def vaB (a : Nat) : Bool := a == 89
def ruB1 (a : Nat) : Bool := a == 32 || a == 35
def ruB2 (a : Nat) : Bool := a == 14 || a == 35
theorem isA_dom (b : Bool) : isA b ∈ [3, 24] := by cases b <;> decide
theorem vaA_dom (b : Bool) : vaA b ∈ [88, 89] := by cases b <;> decide
theorem ruA_dom (b c : Bool) : ruA b c ∈ [11, 14, 32, 35] := by cases b <;> cases c <;> decide
theorem isA_isB : ∀ a ∈ [3, 24], isA (isB a) = a := by decide
theorem vaA_vaB : ∀ a ∈ [88, 89], vaA (vaB a) = a := by decide
theorem ruA_ruB : ∀ a ∈ [11, 14, 32, 35], ruA (ruB1 a) (ruB2 a) = a := by decide
def FU : Nat := 100000
def FR : Nat := 10
theorem kw_68 {i : Int32} (h : inb i 8 = true) : kd (68 + ix i) = (20, 9) := by
  have h2 : ix i < 8 := by have := inb_iff.mp h; unfold vp_in at this; unfold ix; omega
  generalize ix i = j at h2
  revert j; decide
theorem kw_77 {i : Int32} (h : inb i 9 = true) : kd (77 + ix i) = (22, 512) := by
  have h2 : ix i < 9 := by have := inb_iff.mp h; unfold vp_in at this; unfold ix; omega
  generalize ix i = j at h2
  revert j; decide
theorem kwS {i : Int32} {n : Nat} (h : inb i n = true) (hn : n ≤ 16) : ix i < 16 := by
  have := inb_iff.mp h; unfold vp_in at this; unfold ix; omega
theorem kl_88_89 : ∀ a ∈ [88, 89], (kd a).2 ≤ 16 := by decide
theorem cel_obj_sb {M M1 : Mem} {a ci N k b : Nat} {g : (Nat → Bool) → Nat → Nat} (h : kd a = (ci, N)) (hc : ci < 20) (hr : rfs ci k = some g) (e1 : M1.1 = M.1) (e2 : M1.2.1 = M.2.1) (h1 : g M1.2.2 a = b)
    (h2 : ∀ a' ci' k' g', (∃ N', kd a' = (ci', N')) → rfs ci' k' = some g' → (a' ≠ a ∨ k' ≠ k) → g' M1.2.2 a' = g' M.2.2 a') (x : Nat) : va_up (cel M) a (.inr (ci, (flds ci M a).set k (.ref b))) x = cel M1 x := by
  have key : ∀ a' ci' k', (∃ N', kd a' = (ci', N')) → (a' ≠ a ∨ k' ≠ k) → fv ci' k' M1 a' = fv ci' k' M a' := by
    intro a' ci' k' hk hne
    unfold fv
    cases hq : rfs ci' k' with
    | none => simp only; rw [e1]
    | some g' => simp only; rw [h2 a' ci' k' g' hk hq hne]
  unfold va_up
  by_cases hb : x = a
  · rw [if_pos hb]
    subst hb
    rw [cel_obj h hc]
    congr 2
    apply List.ext_getElem?
    intro j
    unfold flds
    rw [List.getElem?_map, List.getElem?_set, List.getElem?_map]
    by_cases hj : k = j
    · subst hj
      rw [if_pos rfl]
      by_cases hl : k < nf ci
      · rw [if_pos (by simpa using hl), List.getElem?_range hl]
        simp only [Option.map_some]
        unfold fv
        rw [hr]
        simp only
        rw [h1]
      · rw [if_neg (by simpa using hl), List.getElem?_eq_none (by simpa using hl)]
        rfl
    · rw [if_neg hj]
      cases hq : (List.range (nf ci))[j]? with
      | none => rfl
      | some j2 =>
        have hj2 : j2 = j := by
          obtain ⟨h1, h2⟩ := List.getElem?_eq_some_iff.mp hq
          rw [List.getElem_range] at h2
          exact h2.symm
        subst hj2
        simp only [Option.map_some]
        rw [key x ci j2 ⟨N, h⟩ (Or.inr (fun q => hj q.symm))]
  · rw [if_neg hb]
    unfold cel
    have e3 : flds (kd x).1 M1 x = flds (kd x).1 M x := by
      unfold flds
      apply List.map_congr_left
      intro j _
      exact key x _ j ⟨(kd x).2, rfl⟩ (Or.inl hb)
    rw [e1, e2, e3]
theorem sb_free {M : Mem} {j a k ci : Nat} {v : Bool} (hu : ∀ a' N', kd a' = (ci, N') → a' = a) (hj : ∀ ci' k' g', rfs ci' k' = some g' → (ci' ≠ ci ∨ k' ≠ k) → ∀ b x, g' (fun y => if y = j then v else b y) x = g' b x) :
    ∀ a' ci' k' g', (∃ N', kd a' = (ci', N')) → rfs ci' k' = some g' → (a' ≠ a ∨ k' ≠ k) → g' (sb M j v).2.2 a' = g' M.2.2 a' := by
  intro a' ci' k' g' ⟨N', hk⟩ hg hne
  refine hj ci' k' g' hg ?_ _ _
  by_cases hc : ci' = ci
  · subst hc
    rcases hne with h | h
    · exact absurd (hu a' N' hk) h
    · exact Or.inr h
  · exact Or.inl hc
theorem kd_uni {ci a : Nat} (h : ∀ i, i < NN → (kd i).1 = ci → i = a) (hc : ci < 99) : ∀ a' N', kd a' = (ci, N') → a' = a := by
  intro a' N' hk
  refine h a' (kd_lt hk hc) ?_
  rw [hk]
section
variable {mi : MI} {d mc ms cells slots pc idx : Nat} {L : List (Nat × Value)} {st : List Value} {M : Mem} {o : RS}
theorem fit_obj {E : EV} {a : Nat} {C : String} : fits (.object C) (cvv E (.ref a)) = true := rfl
theorem nar_obj {E : EV} {a : Nat} {C : String} : narrow (.object C) (cvv E (.ref a)) = cvv E (.ref a) := rfl
theorem g_mmaxl {idx : Nat} {x y : Int64} (hw : Cond.methodLink mi.2.2.2.cls idx Lib.MathLoose.max_long.x ∈ TB) (hs : Cond.static Lib.MathLoose.max_long.x ∈ TB) (hi : Cond.initialized "java/lang/Math" ∈ TB) (hco : Cond.code Lib.MathLoose.max_long.x Lib.MathLoose.max_long.code 4 (some .long) ∈ TB) (hdd : 1 ≤ d) (hc : cells ≤ mc ∧ slots ≤ ms) (hcat : (st.map fun v => v.category).sum ≤ 80) (hd : decode mi.1 pc = .ok (.invokestatic idx, 3))
    (h : GO mi d mc ms cells slots (pc + 3) L (.long (if y < x then x else y) :: st) M o) : GO mi d mc ms cells slots pc L (.long y :: .long x :: st) M o := by
  intro M' ρ e l E p e' s m args below meth c ls H locs B b hl hP hS hz
  refine va_mmax_long B.1.1 B.1.2.1 (by rw [B.1.2.2.1]; exact hl.1.symm) B.2.1 (B.2.2.1 _ hw) (B.2.2.1 _ hs) (B.2.2.1 _ hi) (B.2.2.1 _ hco) hdd ?_ hc.1 hc.2 hd (h M' ρ e l E p e' s m args below meth c ls H locs B b hl hP hS hz)
  rw [cat_sum]
  show _ ≤ 100 * d
  omega
theorem g_mminl {idx : Nat} {x y : Int64} (hw : Cond.methodLink mi.2.2.2.cls idx Lib.MathLoose.min_long.x ∈ TB) (hs : Cond.static Lib.MathLoose.min_long.x ∈ TB) (hi : Cond.initialized "java/lang/Math" ∈ TB) (hco : Cond.code Lib.MathLoose.min_long.x Lib.MathLoose.min_long.code 4 (some .long) ∈ TB) (hdd : 1 ≤ d) (hc : cells ≤ mc ∧ slots ≤ ms) (hcat : (st.map fun v => v.category).sum ≤ 80) (hd : decode mi.1 pc = .ok (.invokestatic idx, 3))
    (h : GO mi d mc ms cells slots (pc + 3) L (.long (if y < x then y else x) :: st) M o) : GO mi d mc ms cells slots pc L (.long y :: .long x :: st) M o := by
  intro M' ρ e l E p e' s m args below meth c ls H locs B b hl hP hS hz
  refine va_mmin_long B.1.1 B.1.2.1 (by rw [B.1.2.2.1]; exact hl.1.symm) B.2.1 (B.2.2.1 _ hw) (B.2.2.1 _ hs) (B.2.2.1 _ hi) (B.2.2.1 _ hco) hdd ?_ hc.1 hc.2 hd (h M' ρ e l E p e' s m args below meth c ls H locs B b hl hP hS hz)
  rw [cat_sum]
  show _ ≤ 100 * d
  omega
theorem g_acopy {a b n : Nat} {j : Int32} (hkb : kd b = (20, n)) (hka : kd a = (20, n)) (hj : j = Int32.ofNat n) (hn : n < 2 ^ 31) (hw : Cond.methodLink mi.2.2.2.cls idx arraycopyName ∈ TB) (hnat : Cond.native arraycopyName ∈ TB) (hs : Cond.static arraycopyName ∈ TB) (hi : Cond.initialized "java/lang/System" ∈ TB) (hdd : 1 ≤ d) (hcat : (st.map fun v => v.category).sum ≤ 60) (hd : decode mi.1 pc = .ok (.invokestatic idx, 3))
    (h : GO mi d mc ms cells slots (pc + 3) L st (scp M b 0 a 0 n) o) : GO mi d mc ms cells slots pc L (.int j :: .int 0 :: .ref a :: .int 0 :: .ref b :: st) M o := by
  subst hj
  intro M' ρ e l E p e' s m args below meth c ls H locs B b9 hl hP hS hz
  have ha : a < NN := kd_lt hka (by decide)
  have hb : b < NN := kd_lt hkb (by decide)
  have hga := wld_get (E := E) (F := cel M) ha
  have hgb := wld_get (E := E) (F := cel M) hb
  rw [cel_i hka] at hga
  rw [cel_i hkb] at hgb
  have hnn : (Int32.ofNat n).toNatClampNeg = n := nI_clamp hn
  have hset : (wld E NN (cel M)).set a (E.1 + a, .inl (E.2.2.1 0, n, .inl (va_cpy (M.1 b) (M.1 a) 0 0 n))) = wld E NN (cel (scp M b 0 a 0 n)) := by
    have := wld_set (E := E) (F := cel M) ha (.inl (0, n, .inl (va_cpy (M.1 b) (M.1 a) 0 0 n)))
    rw [wld_ext (fun b _ => cel_scp hka b)] at this
    exact this
  show W p l e' _ s m args below meth c H locs cells slots _ (F0 m pc ls (.int (Int32.ofNat n) :: .int 0 :: .ref (ph E a) :: .int 0 :: .ref (ph E b) :: st.map (cvv E)))
  rw [ph_lt E (nn1 ha), ph_lt E (nn1 hb)]
  refine va_copyi (ty := .int) (f := M.1 b) (g := M.1 a) B.1.1 B.1.2.1 (by rw [B.1.2.2.1]; exact hl.1.symm) B.2.1 (B.2.2.1 _ hw) (B.2.2.1 _ hnat) (B.2.2.1 _ hs) (B.2.2.1 _ hi) B.2.2.2.1.1 hP (wld_D E NN (cel M)) hS b a 0 0 hgb hga rfl rfl rfl (by decide) (by decide) (nI_pos hn) ?_ ?_ (fun _ _ => rfl) hdd ?_ hd (fun H1 locs1 hP1 hD1 hS1 => ?_)
  · rw [hnn]; exact Nat.le_of_eq (Nat.zero_add n)
  · rw [hnn]; exact Nat.le_of_eq (Nat.zero_add n)
  · rw [cat_sum]
    have : nativeFrameWords "java/lang/System" "arraycopy" 5 + 11 ≤ 40 := by decide
    show _ ≤ 100 * d
    omega
  · rw [hnn] at hP1
    have e0 : (0 : Int32).toNatClampNeg = 0 := by decide
    rw [e0, hset] at hP1
    exact h M' ρ e l E p e' s m args below meth c ls H1 locs1 B b9 hl hP1 hS1 (fun q => absurd q (Nat.lt_irrefl _))
theorem g_tabH {dflt lo hi off : Int} {offs : Array Int} {len tgt : Nat} {x k : Int32} (hx : x = k) (ht : (pc : Int) + off = (tgt : Int)) (h1 : ¬ k.toInt < lo) (h2 : ¬ hi < k.toInt) (ho : offs[(k.toInt - lo).toNat]? = some off) (hd : decode mi.1 pc = .ok (.tableswitch dflt lo hi offs, len))
    (h : GO mi d mc ms cells slots tgt L st M o) : GO mi d mc ms cells slots pc L (.int x :: st) M o := by
  rw [hx]
  exact g_tabE ht h1 h2 ho hd h
theorem g_tabZ {dflt lo hi : Int} {offs : Array Int} {len tgt : Nat} {x : Int32} (lv : List Int32) (hx : ∀ k ∈ lv, ¬ x = k) (ht : (pc : Int) + dflt = (tgt : Int)) (hd : decode mi.1 pc = .ok (.tableswitch dflt lo hi offs, len)) (hsz : (offs.size : Int) = hi - lo + 1) (hof : ∀ i, i < offs.size → (lo + (i : Int)) ∈ lv.map Int32.toInt ∨ offs[i]? = some dflt)
    (h : GO mi d mc ms cells slots tgt L st M o) : GO mi d mc ms cells slots pc L (.int x :: st) M o := by
  by_cases h1 : x.toInt < lo ∨ hi < x.toInt
  · exact g_tabD ht h1 hd h
  · rcases hof (x.toInt - lo).toNat (by omega) with h2 | h2
    · rw [show lo + ((x.toInt - lo).toNat : Int) = x.toInt by omega] at h2
      obtain ⟨k, hk, e⟩ := List.mem_map.mp h2
      exact absurd (Int32.toInt_inj.mp e).symm (hx k hk)
    · exact g_tabE ht (fun q => h1 (Or.inl q)) (fun q => h1 (Or.inr q)) h2 hd h
end
section
variable {mi : MI} {d mc ms cells slots pc idx : Nat} {L : List (Nat × Value)} {st : List Value} {M : Mem} {o : RS}
theorem g_putR_X11_draft {a : Nat} (ha : a ∈ [3, 24]) (hw : Cond.fieldLink mi.2.2.2.cls idx (TX11 8).1 (TX11 8).2.1 (TX11 8).2.2.1 ∈ TB) (hd : decode mi.1 pc = .ok (.putfield idx, 3)) (h : GO mi d mc ms cells slots (pc + 3) L st (sb M 1 (isB a)) o) : GO mi d mc ms cells slots pc L (.ref a :: .ref 0 :: st) M o := by
  refine g_put (k := 8) (ty := .object "SonsLot$Island") (M1 := sb M 1 (isB a)) clX11 kd_0 (by decide) rfl (by decide +kernel) (fun _ => rfl) (fun _ => rfl) (cel_obj_sb kd_0 (by decide) rfl rfl rfl ?_ (sb_free (kd_uni (ci := 11) (a := 0) (by decide) (by decide)) ?_)) hw hd h
  · exact isA_isB a ha
  · intro ci' k' g' hg hne b x
    unfold rfs at hg
    split at hg <;> cases hg <;> first | rfl | (exfalso; simp at hne)
theorem g_putR_X3_island {a : Nat} (ha : a ∈ [3, 24]) (hw : Cond.fieldLink mi.2.2.2.cls idx (TX3 1).1 (TX3 1).2.1 (TX3 1).2.2.1 ∈ TB) (hd : decode mi.1 pc = .ok (.putfield idx, 3)) (h : GO mi d mc ms cells slots (pc + 3) L st (sb M 0 (isB a)) o) : GO mi d mc ms cells slots pc L (.ref a :: .ref 22 :: st) M o := by
  refine g_put (k := 1) (ty := .object "SonsLot$Island") (M1 := sb M 0 (isB a)) clX3 kd_22 (by decide) rfl (by decide +kernel) (fun _ => rfl) (fun _ => rfl) (cel_obj_sb kd_22 (by decide) rfl rfl rfl ?_ (sb_free (kd_uni (ci := 3) (a := 22) (by decide) (by decide)) ?_)) hw hd h
  · exact isA_isB a ha
  · intro ci' k' g' hg hne b x
    unfold rfs at hg
    split at hg <;> cases hg <;> first | rfl | (exfalso; simp at hne)
theorem g_putR_X5_island {a : Nat} (ha : a ∈ [3, 24]) (hw : Cond.fieldLink mi.2.2.2.cls idx (TX5 1).1 (TX5 1).2.1 (TX5 1).2.2.1 ∈ TB) (hd : decode mi.1 pc = .ok (.putfield idx, 3)) (h : GO mi d mc ms cells slots (pc + 3) L st (sb M 2 (isB a)) o) : GO mi d mc ms cells slots pc L (.ref a :: .ref 17 :: st) M o := by
  refine g_put (k := 1) (ty := .object "SonsLot$Island") (M1 := sb M 2 (isB a)) clX5 kd_17 (by decide) rfl (by decide +kernel) (fun _ => rfl) (fun _ => rfl) (cel_obj_sb kd_17 (by decide) rfl rfl rfl ?_ (sb_free (kd_uni (ci := 5) (a := 17) (by decide) (by decide)) ?_)) hw hd h
  · exact isA_isB a ha
  · intro ci' k' g' hg hne b x
    unfold rfs at hg
    split at hg <;> cases hg <;> first | rfl | (exfalso; simp at hne)
theorem g_putR_X12_values {a : Nat} (ha : a ∈ [88, 89]) (hw : Cond.fieldLink mi.2.2.2.cls idx (TX12 2).1 (TX12 2).2.1 (TX12 2).2.2.1 ∈ TB) (hd : decode mi.1 pc = .ok (.putfield idx, 3)) (h : GO mi d mc ms cells slots (pc + 3) L st (sb M 5 (vaB a)) o) : GO mi d mc ms cells slots pc L (.ref a :: .ref 87 :: st) M o := by
  refine g_put (k := 2) (ty := .array (.object "java/lang/String")) (M1 := sb M 5 (vaB a)) clX12 kd_87 (by decide) rfl (by decide +kernel) (fun _ => rfl) (fun _ => rfl) (cel_obj_sb kd_87 (by decide) rfl rfl rfl ?_ (sb_free (kd_uni (ci := 12) (a := 87) (by decide) (by decide)) ?_)) hw hd h
  · exact vaA_vaB a ha
  · intro ci' k' g' hg hne b x
    unfold rfs at hg
    split at hg <;> cases hg <;> first | rfl | (exfalso; simp at hne)
theorem g_putR_X5_rule {a : Nat} (ha : a ∈ [11, 14, 32, 35]) (hw : Cond.fieldLink mi.2.2.2.cls idx (TX5 2).1 (TX5 2).2.1 (TX5 2).2.2.1 ∈ TB) (hd : decode mi.1 pc = .ok (.putfield idx, 3)) (h : GO mi d mc ms cells slots (pc + 3) L st (sb (sb M 3 (ruB1 a)) 4 (ruB2 a)) o) : GO mi d mc ms cells slots pc L (.ref a :: .ref 17 :: st) M o := by
  refine g_put (k := 2) (ty := .object "SonsLot$Rule") (M1 := sb (sb M 3 (ruB1 a)) 4 (ruB2 a)) clX5 kd_17 (by decide) rfl (by decide +kernel) (fun _ => rfl) (fun _ => rfl) (cel_obj_sb kd_17 (by decide) rfl rfl rfl ?_ ?_) hw hd h
  · exact ruA_ruB a ha
  · intro a' ci' k' g' hk hg hne
    refine (sb_free (M := sb M 3 (ruB1 a)) (kd_uni (ci := 5) (a := 17) (by decide) (by decide)) (k := 2) ?_ a' ci' k' g' hk hg hne).trans (sb_free (M := M) (kd_uni (ci := 5) (a := 17) (by decide) (by decide)) (k := 2) ?_ a' ci' k' g' hk hg hne)
    · intro ci' k' g' hg hne b x
      unfold rfs at hg
      split at hg <;> cases hg <;> first | rfl | (exfalso; simp at hne)
    · intro ci' k' g' hg hne b x
      unfold rfs at hg
      split at hg <;> cases hg <;> first | rfl | (exfalso; simp at hne)
end
theorem th1_k : Cond.classLink RX11 154 "java/util/NoSuchElementException" ∈ TB := tbm (k := 1112) (by decide +kernel) (by decide +kernel)
theorem th1_i : Cond.initialized "java/util/NoSuchElementException" ∈ TB := tbm (k := 137) (by decide +kernel) (by decide +kernel)
theorem th1_a : ∀ w ∈ (vx_at0 RX11 156 "java/util/NoSuchElementException" exNs).filter goodWord, w ∈ TB := fun w hw => List.mem_filter.mpr ⟨(by decide +kernel : ∀ w ∈ (vx_at0 RX11 156 "java/util/NoSuchElementException" exNs).filter goodWord, w ∈ lw_tbl) w hw, (List.mem_filter.mp hw).2⟩
theorem th1_b : ∀ w ∈ (vx_at0 RX11 156 "java/util/NoSuchElementException" exNs).filter (fun w => !goodWord w), w ∈ ([.castable "java/util/NoSuchElementException" "java/util/NoSuchElementException", .declares ⟨"java/lang/RuntimeException", "<init>", "()V"⟩, .declares ⟨"java/lang/Exception", "<init>", "()V"⟩, .declares ⟨"java/lang/Throwable", "<init>", "()V"⟩] : List Cond) := by decide +kernel
theorem th1_c : ∀ w ∈ Cond.classLink RX11 154 "java/util/NoSuchElementException" :: Cond.initialized "java/util/NoSuchElementException" :: vx_at0 RX11 156 "java/util/NoSuchElementException" exNs, vx_ot w = true := by decide +kernel
theorem g_throw1 {y : MI} {d mc ms cells slots pc : Nat} {L : List (Nat × Value)} {M : Mem} (hy : y.2.2.2.cls = RX11) (hc : cells + 1 ≤ mc) (hs : slots + 6 ≤ ms) (hdd : 6 ≤ d) (d0 : decode y.1 pc = .ok (.new 154, 3)) (d3 : decode y.1 (pc + 3) = .ok (.dup, 1)) (d4 : decode y.1 (pc + 4) = .ok (.invokespecial 156, 3)) (d7 : decode y.1 (pc + 7) = .ok (.athrow, 1)) : GO y d mc ms cells slots pc L [] M (some (M, .inl 1)) := g_throw (k := 1) (X := "java/util/NoSuchElementException") rfl (by decide) (by rw [hy]; exact th1_k) th1_i (by rw [hy]; exact th1_a) (by rw [hy]; exact th1_b) (by rw [hy]; exact th1_c) hc hs hdd d0 d3 d4 d7
theorem th2_k : Cond.classLink RX11 79 "java/lang/IllegalArgumentException" ∈ TB := tbm (k := 784) (by decide +kernel) (by decide +kernel)
theorem th2_i : Cond.initialized "java/lang/IllegalArgumentException" ∈ TB := tbm (k := 131) (by decide +kernel) (by decide +kernel)
theorem th2_a : ∀ w ∈ (vx_at0 RX11 81 "java/lang/IllegalArgumentException" exNs).filter goodWord, w ∈ TB := fun w hw => List.mem_filter.mpr ⟨(by decide +kernel : ∀ w ∈ (vx_at0 RX11 81 "java/lang/IllegalArgumentException" exNs).filter goodWord, w ∈ lw_tbl) w hw, (List.mem_filter.mp hw).2⟩
theorem th2_b : ∀ w ∈ (vx_at0 RX11 81 "java/lang/IllegalArgumentException" exNs).filter (fun w => !goodWord w), w ∈ ([.castable "java/lang/IllegalArgumentException" "java/lang/IllegalArgumentException", .declares ⟨"java/lang/RuntimeException", "<init>", "()V"⟩, .declares ⟨"java/lang/Exception", "<init>", "()V"⟩, .declares ⟨"java/lang/Throwable", "<init>", "()V"⟩] : List Cond) := by decide +kernel
theorem th2_c : ∀ w ∈ Cond.classLink RX11 79 "java/lang/IllegalArgumentException" :: Cond.initialized "java/lang/IllegalArgumentException" :: vx_at0 RX11 81 "java/lang/IllegalArgumentException" exNs, vx_ot w = true := by decide +kernel
theorem g_throw2 {y : MI} {d mc ms cells slots pc : Nat} {L : List (Nat × Value)} {M : Mem} (hy : y.2.2.2.cls = RX11) (hc : cells + 1 ≤ mc) (hs : slots + 6 ≤ ms) (hdd : 6 ≤ d) (d0 : decode y.1 pc = .ok (.new 79, 3)) (d3 : decode y.1 (pc + 3) = .ok (.dup, 1)) (d4 : decode y.1 (pc + 4) = .ok (.invokespecial 81, 3)) (d7 : decode y.1 (pc + 7) = .ok (.athrow, 1)) : GO y d mc ms cells slots pc L [] M (some (M, .inl 2)) := g_throw (k := 2) (X := "java/lang/IllegalArgumentException") rfl (by decide) (by rw [hy]; exact th2_k) th2_i (by rw [hy]; exact th2_a) (by rw [hy]; exact th2_b) (by rw [hy]; exact th2_c) hc hs hdd d0 d3 d4 d7
