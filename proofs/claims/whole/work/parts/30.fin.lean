theorem lk_97 : Cond.methodLink RL 97 yX11_init ∈ TB := tbm (k := 142) (by decide +kernel) (by decide +kernel)
theorem lk_100 : Cond.methodLink RL 100 yX12_init ∈ TB := tbm (k := 1422) (by decide +kernel) (by decide +kernel)
theorem lk_8 : Cond.classLink RL 8 RX11 ∈ TB := tbm (k := 140) (by decide +kernel) (by decide +kernel)
theorem lk_98 : Cond.classLink RL 98 RX12 ∈ TB := tbm (k := 1420) (by decide +kernel) (by decide +kernel)
theorem linX11 : Cond.instantiable RX11 10 ∈ TB := tbm (k := 141) (by decide +kernel) (by decide +kernel)
theorem lznX11 : Cond.initialized RX11 ∈ TB := tbm (k := 115) (by decide +kernel) (by decide +kernel)
theorem linX12 : Cond.instantiable RX12 60 ∈ TB := tbm (k := 1421) (by decide +kernel) (by decide +kernel)
theorem lznX12 : Cond.initialized RX12 ∈ TB := tbm (k := 127) (by decide +kernel) (by decide +kernel)
theorem law_start {b N : Nat} {xs : Nat → Int32} {M' : Mem} {ρ : Nat ⊕ Option Value} (h : flaw N xs 600 M0 0 = some (M', ρ)) : VQ miLaw room_1 (BXL b N xs) (QXL M' ρ) 0 0 0 0 [(0, .ref (1000 + 33))] [] (lay [] (cel M0)) := by
  refine VQ.ext (G := lay [(0, .inr (11, [.null, .null, .null, .null, .null, .null, .null, .null, .null, .int 0]))] (cel M0)) ?_ (fun x hx => (lay_cons_ne (Nat.ne_of_lt hx)).symm)
  refine c_new tyX11 tyX11_ok clX11 (by decide) rfl (fun E j hj => by rw [show (([.null, .null, .null, .null, .null, .null, .null, .null, .null, .int 0] : List Value).map (cvv E)) = [.null, .null, .null, .null, .null, .null, .null, .null, .null, .int 0] from rfl]; exact (by decide : ∀ j, j < 10 → defaultValue (tyX11 j) = vp_V [.null, .null, .null, .null, .null, .null, .null, .null, .null, .int 0] j) j hj) lk_8 linX11 lznX11 (by decide) (by decide) dL_law_0 ?_
  refine q_dup_ref dL_law_3 ?_
  refine c_callI (y := miX11_init) (As := []) (rest := [.ref 0]) moX11_init rfl (Or.inl lk_97) (by decide) (by decide) (by decide) rfl dL_law_4 K_0 ?_
  refine q_astore_n (L' := [(1, .ref 0), (0, .ref (1000 + 33))]) (by decide) rfl rfl dL_law_7 ?_
  refine VQ.ext (G := lay [(87, .inr (12, [.null, .null, .null, .int 0, .null, .null, .null, .null, .null, .null, .null, .null, .null, .null, .null, .null, .int 0, .int 0, .int 0, .int 0, .int 0, .int 0, .int 0, .int 0, .int 0, .int 0, .int 0, .null, .null, .null, .null, .int 0, .int 0, .int 0, .int 0, .int 0, .int 0, .int 0, .int 0, .int 0, .null, .null, .int 0, .int 0, .null, .null, .null, .null, .null, .null, .null, .int 0, .int 0, .int 0, .null, .null, .null, .null, .null, .null]))] (cel M0)) ?_ (fun x hx => (lay_cons_ne (Nat.ne_of_lt hx)).symm)
  refine c_new tyX12 tyX12_ok clX12 (by decide) rfl (fun E j hj => by rw [show (([.null, .null, .null, .int 0, .null, .null, .null, .null, .null, .null, .null, .null, .null, .null, .null, .null, .int 0, .int 0, .int 0, .int 0, .int 0, .int 0, .int 0, .int 0, .int 0, .int 0, .int 0, .null, .null, .null, .null, .int 0, .int 0, .int 0, .int 0, .int 0, .int 0, .int 0, .int 0, .int 0, .null, .null, .int 0, .int 0, .null, .null, .null, .null, .null, .null, .null, .int 0, .int 0, .int 0, .null, .null, .null, .null, .null, .null] : List Value).map (cvv E)) = [.null, .null, .null, .int 0, .null, .null, .null, .null, .null, .null, .null, .null, .null, .null, .null, .null, .int 0, .int 0, .int 0, .int 0, .int 0, .int 0, .int 0, .int 0, .int 0, .int 0, .int 0, .null, .null, .null, .null, .int 0, .int 0, .int 0, .int 0, .int 0, .int 0, .int 0, .int 0, .int 0, .null, .null, .int 0, .int 0, .null, .null, .null, .null, .null, .null, .null, .int 0, .int 0, .int 0, .null, .null, .null, .null, .null, .null] from rfl]; exact (by decide : ∀ j, j < 60 → defaultValue (tyX12 j) = vp_V [.null, .null, .null, .int 0, .null, .null, .null, .null, .null, .null, .null, .null, .null, .null, .null, .null, .int 0, .int 0, .int 0, .int 0, .int 0, .int 0, .int 0, .int 0, .int 0, .int 0, .int 0, .null, .null, .null, .null, .int 0, .int 0, .int 0, .int 0, .int 0, .int 0, .int 0, .int 0, .int 0, .null, .null, .int 0, .int 0, .null, .null, .null, .null, .null, .null, .null, .int 0, .int 0, .int 0, .null, .null, .null, .null, .null, .null] j) j hj) lk_98 linX12 lznX12 (by decide) (by decide) dL_law_8 ?_
  refine q_dup_ref dL_law_11 ?_
  refine c_callI (y := miX12_init) (As := []) (rest := [.ref 87]) moX12_init rfl (Or.inl lk_100) (by decide) (by decide) (by decide) rfl dL_law_12 K_87 ?_
  refine q_astore_n (L' := [(2, .ref 87), (1, .ref 0), (0, .ref (1000 + 33))]) (by decide) rfl rfl dL_law_15 ?_
  refine q_iconst (v := 1) (by decide) dL_law_16 ?_
  refine c_newa (t := 2) (N := 1) (ty := .long) (a0 := .inr (.inl (fun _ => 0))) (by decide) rfl rfl (fun _ => rfl) (fun _ => rfl) (fun _ _ h => h) (fun _ => rfl) ac2 (by decide) (by decide) (by decide) (by decide) (by decide) dL_law_17 ?_
  refine q_astore_n (L' := [(3, .ref 121), (2, .ref 87), (1, .ref 0), (0, .ref (1000 + 33))]) (by decide) rfl rfl dL_law_19 ?_
  refine q_iconst (v := 0) (by decide) dL_law_20 ?_
  refine q_istore (L' := [(4, .int 0), (3, .ref 121), (2, .ref 87), (1, .ref 0), (0, .ref (1000 + 33))]) (by decide) rfl dL_law_21 ?_
  refine VQ.ext (G := cel M0) ?_ (fun x _ => rfl)
  refine VQ.drop (L' := [(0, .ref (1000 + 33)), (1, .ref 0), (2, .ref 87), (3, .ref 121), (4, .int 0)]) ?_ [4, 3, 2, 1, 0] rfl
  exact Slaw b N xs 600 _ _ (by decide) (by decide) M0 0 M' ρ h
theorem whole_start {p : Program} {e : Env} {s : State} {m : MethodId} {below : List Frame} {meth : Method} {c : Code} (l : Launch) (hlt : l.stackTraces = false) (hnm : meth.name = "law") {b L : Nat} {xs : Nat → Int32} (hL : L ≤ 3072) (C0 : lw_At p s m meth c b L xs) : W p l e room_1 s m #[Value.ref b] below meth c s.heap [] 0 0 (lw_Z below #[Value.ref b] s) (entryFrame m ([Value.ref b] : List Value).toArray 8) := by
  obtain ⟨hx, hb, hr, hml, hown, hts, hX, hbl, hlocks, hgv⟩ := id C0
  obtain ⟨E, hE1, hT, hO, hE2⟩ := start_E hts hgv
  obtain ⟨M', hM⟩ := pure_law L xs hL
  have hl := lv_entry ([.ref b]) (n := 8) (Nat.le_of_ble_eq_true rfl)
  rw [lg_entry_eq]
  generalize (lg_sl ([.ref b]) ++ List.replicate (8 - (lg_sl ([.ref b])).length) Slot.unset).toArray = ls at hl ⊢
  have hl : lv_has ls 8 [(0, .ref b)] := hl
  have hl2 : lv_has ls 8 (([(0, .ref (1000 + 33))] : List (Nat × Value)).map (cvl E)) := by
    show lv_has ls 8 [(0, .ref (ph E (1000 + 33)))]
    rw [ph_s, hE2]
    exact hl
  have k := law_start (b := b) hM l E p e s m #[Value.ref b] below meth c ls s.heap [] ⟨⟨hx, hb, hml, hr, hlocks, hnm⟩, hown, fun w hw => hts w (tb_lw w hw), hT, hO, hlt, by rw [hE1]; exact Nat.le_refl _⟩ ⟨hX, hbl, hE1, hE2, rfl⟩ hl2 (fun k q h => by rw [wld_at] at h; rw [if_neg (by omega)] at h; cases h) va_S.rf (fun _ => by rw [hE1]; rfl)
  intro T hT9 X
  obtain ⟨t, a1, b1⟩ := k T hT9 X
  exact ⟨t, a1, b1 rfl⟩
set_option maxHeartbeats 4000000 in
theorem lw_walk (l : Launch) (hlt : l.stackTraces = false) (b : Addr) (xs : List Int32) : MetFree l x (headSpec (Jvm.Cond.code x code maxLocals ret :: tables_1) room_1) (lw_P b xs) (fun _ _ _ _ _ => True) lw_Q := by
  refine MetFree.of_bodyS (code := code) (maxLocals := maxLocals) (ret := ret) (by decide) ?_ ?_
  · intro args s m h hn
    obtain ⟨meth, c, h1, h2, h3, h4, h5, h6, -, -⟩ := Cond.code_spec hn (atoms_spec (ws := Jvm.Cond.code x code maxLocals ret :: tables_1) h _ List.mem_cons_self)
    exact ⟨meth, c, h1, h2, h3, h4, h5, h6⟩
  · intro p e s m args below meth c s₁ B hml0 hP _
    obtain ⟨rfl, hx, hbd, hgv⟩ := hP
    obtain ⟨scr, harrAt, hlist, hof, hsmall⟩ := hx
    obtain ⟨hcb, hkn, -, -⟩ := State.arrayAt?_spec harrAt
    have hown : s.vm.findClass R_law = some m.cls := findClass_of_methodNamed B.named
    have hts0 : ∀ c ∈ (Jvm.Cond.code x code maxLocals ret :: tables_1), c.before #[Value.ref b] s = true := atoms_spec (ws := Jvm.Cond.code x code maxLocals ret :: tables_1) B.pre
    have hts : ∀ w ∈ lw_tbl, w.before #[Value.ref b] s = true := k2_hts_sels lw_privs (fun w hw => hts0 w (List.mem_cons_of_mem _ hw)) lw_privs_ok
    have hml : c.maxLocals = 8 := B.maxLocals_eq (hts0 _ List.mem_cons_self)
    have X₀ : Stand p l e room_1 s m #[Value.ref b] below meth c s₁ [] 0 0 := Stand.of_body B
    have hh0 : s₁.heap = s.heap := by rw [B.state]; rfl
    have hsz : scr.slots.size = xs.length := by rw [← Array.length_toList, hlist, List.length_map]
    have hval : ∀ j : Nat, j < xs.length → scr.slots[j]? = some (.int (xs.getD j 0)) := fun j hj => by
      rw [← Array.getElem?_toList, hlist]
      simp [hj]
    have hbl : b < s.heap.size := (Array.getElem?_eq_some_iff.mp hcb).1
    have hX : va_X b xs.length (fun j => xs.getD j 0) s s.heap := ⟨scr, hcb, hof, hkn, hsz, hval⟩
    have K : W p l e room_1 s m #[Value.ref b] below meth c s₁.heap [] 0 0 (lw_Z below #[Value.ref b] s) (entryFrame m ([Value.ref b] : List Value).toArray 8) := by
      rw [hh0]
      exact whole_start l hlt (name_of_methodNamed B.named B.method).1 hbd ⟨B.exec, B.bytes, B.returns, hml, hown, hts, hX, hbl, B.notSynchronized, hgv⟩
    obtain ⟨t, a1, o, b1, b2, b3⟩ := K s₁ rfl X₀
    exact ⟨t, o, a1, b1, b2, b3⟩
theorem lw_pre_spec {args : Array Value} {s : State} (h : (Jvm.Cond.and given_1 narrow_1).before args s = true) (hr : rest_1_c.before args s = true) : ∃ (b : Addr) (xs : List Int32), lw_P b xs args s := by
  have hs := flat_of_before _ h
  have hq := flat_of_before _ hr
  have hc : (Cond.count 1).before args s = true := hs _ (by decide +kernel)
  have harr : (Cond.arrayOf (.arg 0) .int).before args s = true := hs _ (by decide +kernel)
  have hle : (Cond.le (.length (.arg 0)) (.int 3072)).before args s = true := hs _ (by decide +kernel)
  have hlen : (Cond.isInt (.length (.arg 0))).before args s = true := hq _ (by decide +kernel)
  have hall : (Cond.all (.arg 0) (.isInt (.elem (.arg 0) (.index 0)))).before args s = true := hq _ (by decide +kernel)
  obtain ⟨b, xs, hb, hx⟩ := State.ints_of_pre rfl harr hlen hall
  have hsm : xs.length < 2 ^ 31 := hx.choose_spec.2.2.2
  have hev : (Term.length (.arg 0)).eval args s none [] s = some (.int xs.length.toInt32) := hx.length_eval hb
  have hv := Cond.le_ints hev (show (Term.int 3072).eval args s none [] s = some (.int 3072) from rfl)
  have hd : xs.length.toInt32 ≤ 3072 := by
    simpa [Cond.before, Cond.holds, hv] using hle
  have hN : xs.length ≤ 3072 := (Int32.ofNat_le_ofNat hsm (by decide)).mp (show Int32.ofNat xs.length ≤ Int32.ofNat 3072 from hd)
  exact ⟨b, xs, Cond.one_arg hc (show args[0]? = some (.ref b) from hb), hx, hN, h⟩
theorem lw_comes (l : Launch) (hlt : l.stackTraces = false) : Comes l x (Jvm.Cond.code x code maxLocals ret :: tables_1) room_1 (fun tb e args s => Calls_1 tb e args s ∧ rest_1 tb e args s ∧ Pre_1 tb e args s)
    (fun _ _ args s o t => lw_Q args s o t) := by
  intro p e ha hc hk s m args below hf hfit hheap happ hpre
  obtain ⟨b, xs, hP⟩ := lw_pre_spec hpre.2.2 hpre.2.1
  obtain ⟨k, o, h1, h2, h3, hQ⟩ := lw_walk l hlt b xs p e ha hc hk s m args below hf ((Spec.applies_iff_loose hf).mp happ).1 hP trivial
  exact ⟨k, o, h1, h2, h3, hQ⟩
theorem lw_frame {s t : State} {o : Outcome} {args : Array Value} (h : Framed s o t [] 601024 7293034) :
    Framed s o t (fieldLocs frame_1_writes args s ++ arrayLocs frame_1_arrays args s ++ staticLocs frame_1_statics s) 601024 7293034 := h
theorem lw_limb (L : Cond) (hL : ∀ (args : Array Value) (s t : State), L.after args s (.returned (some (.int 1))) t = true) :
    ArmFor flags0 classFile x code maxLocals ret World_1 tables_1 room_1 Calls_1 rest_1 Pre_1
      (fun tb e a s o t => postC L tb e a s o t ∧ Framed s o t (fieldLocs frame_1_writes a s ++ arrayLocs frame_1_arrays a s ++ staticLocs frame_1_statics s) 601024 7293034) := by
  intro l hfl _ _ p e ha hc hk s m args below hf hfit hheap happ hpre
  have hlt : l.stackTraces = false := by unfold Launch.stackTraces; rw [hfl]; decide
  obtain ⟨k, o, h1, h2, h3, rfl, hF⟩ := lw_comes l hlt p e ha hc hk s m args below hf hfit hheap happ hpre
  exact ⟨k, _, h1, h2, h3, hL args s _, lw_frame hF⟩
theorem i_vc : Claimed_1_1 ∧ Claimed_1_2 := ⟨lw_limb limb_1_1 (fun args s t => by simp [limb_1_1, Cond.after, Cond.holds, Cond.value]), lw_limb limb_1_2 (fun args s t => Cond.after_iff.mpr (by
  first | (rw [show limb_1_2 = Cond.eq .result (.int 1) from rfl, Cond.eq_ints (x := 1) (y := 1) rfl rfl]; simp; done) | (simp [limb_1_2, Cond.value, Term.eval]; done)))⟩

