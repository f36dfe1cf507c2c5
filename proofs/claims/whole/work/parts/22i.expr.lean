-- ===== both sides read a rule: operands in a row =====
theorem FU_s : ∃ f, FU = f + 1 := ⟨99999, rfl⟩
section
variable {T : Nat → Nat} {n z nv A wi sa : Nat} {C0 R0 : Mem} {M : Mem} {j k p : Nat} {L : List RSt}
theorem r_mkE (X : Ctx T n z nv A wi sa C0 R0) (h : ExR T n wi sa R0 M j L) {c : Nat} {C : Int32} (hC : C = nI c) (hc : sgn c = c ∧ 40 ≤ c ∧ c ≤ 61) : fX12_isMarked M C = okI M (if syA T n (ps T n j) = c then 1 else 0) := r_mkd hC hc X.1.1 X.1.2.1 (h.tx X) h.2.2.1.1 h.2.2.1.2
theorem r_isE (X : Ctx T n z nv A wi sa C0 R0) (h : ExR T n wi sa R0 M j L) {k : Nat} (hk : k < 16) : fX12_is k M = okI M (if syA T n (ps T n j) = wcd (some k) then 1 else 0) := r_isw hk (ps_le j) X.1.1 (h.tx X) h.2.2.1.1 h.2.2.1.2
theorem loop_both (X : Ctx T n z nv A wi sa C0 R0) {m j0 : Nat} {isop : Nat → Prop} {o : Nat → Nat} (ho : ∀ y, isop y → y ≠ 0 ∧ o y ≤ 8 ∧ o y ≠ 2) {cop rop : Mem → RS} {F : Nat → Mem → Nat → RS} {G : Nat → Mem → RS}
    (hOp : ∀ Mc Mr j L, ExC T n A C0 Mc j L → ExR T n wi sa R0 Mr j L → j ≤ z → L.length ≤ j → Out T n z nv A wi sa C0 R0 m j L (cop Mc) (rop Mr))
    (hF : ∀ f M i j L, ExC T n A C0 M j L → i < 700 → isop (syA T n (ps T n j)) → F (f + 1) M i = bV (fX5_advance M) (fun M3 => bV (cop M3) (fun M5 => bV (fX6_add (ruA (gb M5 3) (gb M5 4)) M5 (encC (2, o (syA T n (ps T n j))))) (fun M7 => F f M7 (i + 1)))))
    (hFn : ∀ f M i j L, ExC T n A C0 M j L → ¬ isop (syA T n (ps T n j)) → F (f + 1) M i = okV M)
    (hFx : ∀ f M i, gi M 17 6 ≠ 0 → F (f + 1) M i = okV M)
    (hG : ∀ f M j L, ExR T n wi sa R0 M j L → isop (syA T n (ps T n j)) → G (f + 1) M = bV (fX12_stepOn M) (fun M9 => bV (rop M9) (fun M11 => bV (fX12_lay M11 (encR (2, o (syA T n (ps T n j))))) (fun M13 => G f M13))))
    (hGn : ∀ f M j L, ExR T n wi sa R0 M j L → ¬ isop (syA T n (ps T n j)) → G (f + 1) M = okV M)
    (hGx : ∀ f M, gi M 87 23 ≠ 0 → G (f + 1) M = okV M) (hL : L.length ≤ j0) :
    ∀ d j, z - j ≤ d → ∀ f f', d + 1 < f → d + 1 < f' → ∀ Mc Mr i S, ExC T n A C0 Mc j (L ++ S) → ExR T n wi sa R0 Mr j (L ++ S) → i < j → j0 < j → j ≤ z → S.length + j0 ≤ j → Gd nv (m + 1) S → Out T n z nv A wi sa C0 R0 (m + 1) j0 L (F f Mc i) (G f' Mr) := by
  have h7 := X.z7
  have hz := X.1.2.2.2
  intro d
  induction d with
  | zero =>
    intro j hd f f' hf hf' Mc Mr i S hc hr hi h0 hj hS hG1
    obtain ⟨g, rfl⟩ : ∃ g, f = g + 1 := ⟨f - 1, by omega⟩
    obtain ⟨g', rfl⟩ : ∃ g, f' = g + 1 := ⟨f' - 1, by omega⟩
    have hno : ¬ isop (syA T n (ps T n j)) := fun c => by
      have := j_lt hz hj (ho _ c).1
      omega
    exact Or.inl ⟨Mc, Mr, j, S, hFn g Mc i j _ hc hno, hGn g' Mr j _ hr hno, hc, hr, h0, hj, hS, hG1⟩
  | succ d ih =>
    intro j hd f f' hf hf' Mc Mr i S hc hr hi h0 hj hS hG1
    obtain ⟨g, rfl⟩ : ∃ g, f = g + 1 := ⟨f - 1, by omega⟩
    obtain ⟨g', rfl⟩ : ∃ g, f' = g + 1 := ⟨f' - 1, by omega⟩
    by_cases c : isop (syA T n (ps T n j))
    · have hj1 := j_lt hz hj (ho _ c).1
      have hlen : (L ++ S).length = L.length + S.length := List.length_append
      obtain ⟨Mc1, e1, x1⟩ := c_advE X hc hj1
      obtain ⟨Mr1, e2, x2⟩ := r_advE X hr
      rw [hF g Mc i j _ hc (by omega) c, hG g' Mr j _ hr c, e1, bV_ok, e2, bV_ok]
      rcases hOp Mc1 Mr1 (j + 1) (L ++ S) x1 x2 (by omega) (by omega) with ⟨Mc2, Mr2, j', B, e3, e4, x3, x4, q1, q2, q3, q4⟩ | ⟨Mc2, Mr2, k, p, e3, e4, f1, f2⟩
      · have hlen2 : (L ++ S ++ B).length = L.length + S.length + B.length := by rw [List.length_append, hlen]
        obtain ⟨Mc3, e5, x5⟩ := c_addE (c := (2, o (syA T n (ps T n j)))) X x3 (by omega) rfl
        obtain ⟨Mr3, e6, x6⟩ := r_layE (c := (2, o (syA T n (ps T n j)))) X x4 (by omega) rfl
        rw [e3, bV_ok, x3.ru X, e5, bV_ok, e4, bV_ok, e6, bV_ok]
        have ea : L ++ S ++ B ++ [(2, o (syA T n (ps T n j)))] = L ++ (S ++ B ++ [(2, o (syA T n (ps T n j)))]) := by rw [List.append_assoc, List.append_assoc, List.append_assoc]
        rw [ea] at x5 x6
        have hl3 : (S ++ B ++ [(2, o (syA T n (ps T n j)))]).length = S.length + B.length + 1 := by rw [List.length_append, List.length_append]; rfl
        exact ih j' (by omega) g g' (by omega) (by omega) Mc3 Mr3 (i + 1) _ x5 x6 (by omega) (by omega) q2 (by omega) (Gd.op hG1 q4 (ho _ c).2.1 (ho _ c).2.2)
      · obtain ⟨Mc3, e5, f3⟩ := c_addF X f1 (encC (2, o (syA T n (ps T n j))))
        obtain ⟨g2, rfl⟩ : ∃ g2, g = g2 + 1 := ⟨g - 1, by omega⟩
        obtain ⟨g3, rfl⟩ : ∃ g2, g' = g2 + 1 := ⟨g' - 1, by omega⟩
        have f0 := f2.f f1.2.1.2.2
        rw [e3, bV_ok, f1.ru X, e5, bV_ok, e4, bV_ok, r_layF f0, bV_ok]
        exact Or.inr ⟨Mc3, Mr2, k, p, hFx g2 Mc3 (i + 1) f3.f, hGx g3 Mr2 f0, f3, f2⟩
    · exact Or.inl ⟨Mc, Mr, j, S, hFn g Mc i j _ hc c, hGn g' Mr j _ hr c, hc, hr, h0, hj, hS, hG1⟩
theorem bin_both (X : Ctx T n z nv A wi sa C0 R0) {m : Nat} {isop : Nat → Prop} {o : Nat → Nat} (ho : ∀ y, isop y → y ≠ 0 ∧ o y ≤ 8 ∧ o y ≠ 2) {cop rop : Mem → RS} {F : Nat → Mem → Nat → RS} {G : Nat → Mem → RS}
    (hOp : ∀ Mc Mr j L, ExC T n A C0 Mc j L → ExR T n wi sa R0 Mr j L → j ≤ z → L.length ≤ j → Out T n z nv A wi sa C0 R0 m j L (cop Mc) (rop Mr))
    (hF : ∀ f M i j L, ExC T n A C0 M j L → i < 700 → isop (syA T n (ps T n j)) → F (f + 1) M i = bV (fX5_advance M) (fun M3 => bV (cop M3) (fun M5 => bV (fX6_add (ruA (gb M5 3) (gb M5 4)) M5 (encC (2, o (syA T n (ps T n j))))) (fun M7 => F f M7 (i + 1)))))
    (hFn : ∀ f M i j L, ExC T n A C0 M j L → ¬ isop (syA T n (ps T n j)) → F (f + 1) M i = okV M)
    (hFx : ∀ f M i, gi M 17 6 ≠ 0 → F (f + 1) M i = okV M)
    (hG : ∀ f M j L, ExR T n wi sa R0 M j L → isop (syA T n (ps T n j)) → G (f + 1) M = bV (fX12_stepOn M) (fun M9 => bV (rop M9) (fun M11 => bV (fX12_lay M11 (encR (2, o (syA T n (ps T n j))))) (fun M13 => G f M13))))
    (hGn : ∀ f M j L, ExR T n wi sa R0 M j L → ¬ isop (syA T n (ps T n j)) → G (f + 1) M = okV M)
    (hGx : ∀ f M, gi M 87 23 ≠ 0 → G (f + 1) M = okV M) {Mc Mr : Mem} (hc : ExC T n A C0 Mc j L) (hr : ExR T n wi sa R0 Mr j L) (hj : j ≤ z) (hL : L.length ≤ j) :
    Out T n z nv A wi sa C0 R0 (m + 1) j L (bV (cop Mc) (fun M1 => F FU M1 0)) (bV (rop Mr) (fun M1 => G FU M1)) := by
  have h7 := X.z7
  rcases hOp Mc Mr j L hc hr hj hL with ⟨Mc2, Mr2, j', S, e3, e4, x3, x4, q1, q2, q3, q4⟩ | ⟨Mc2, Mr2, k, p, e3, e4, f1, f2⟩
  · rw [e3, bV_ok, e4, bV_ok]
    exact loop_both X ho hOp hF hFn hFx hG hGn hGx hL (z - j') j' (Nat.le_refl _) FU FU (FU_gt (by omega)) (FU_gt (by omega)) Mc2 Mr2 0 S x3 x4 (by omega) q1 q2 q3 (q4.mono (by omega))
  · obtain ⟨f, hf⟩ := FU_s
    rw [e3, bV_ok, e4, bV_ok, hf]
    exact Or.inr ⟨Mc2, Mr2, k, p, hFx f Mc2 0 f1.f, hGx f Mr2 (f2.f f1.2.1.2.2), f1, f2⟩
/-- an expression's own reader, as a part needs it -/
def Rec (T : Nat → Nat) (n z nv A wi sa : Nat) (C0 R0 : Mem) (m e : Nat) (rc rr : Mem → Int32 → RS) : Prop := (∀ Mc Mr j L, ExC T n A C0 Mc j L → ExR T n wi sa R0 Mr j L → j ≤ z → L.length ≤ j → Out T n z nv A wi sa C0 R0 m j L (rc Mc (nI (e + 1))) (rr Mr (nI (e + 1)))) ∧ ∀ M x, gi M 87 23 ≠ 0 → rr M x = okV M
section
variable {e m : Nat} {rc rr : Mem → Int32 → RS} {Mc Mr : Mem}
theorem prod_both (X : Ctx T n z nv A wi sa C0 R0) (he : e < 6) (hm : 1 ≤ m) (HE : Rec T n z nv A wi sa C0 R0 m e rc rr) (hc : ExC T n A C0 Mc j L) (hr : ExR T n wi sa R0 Mr j L) (hj : j ≤ z) (hL : L.length ≤ j) :
    Out T n z nv A wi sa C0 R0 (m + 1) j L (fX5_readProduct rc Mc (nI e)) (fX12_readProduct rr Mr (nI e)) := by
  refine bin_both X (m := m) (isop := fun y => y = 42 ∨ y = 47) (o := fun y => if y = 42 then 7 else 8) (cop := fun M => fX5_readPart rc M (nI e)) (rop := fun M => fX12_readPart rr M (nI e)) (F := fun f M i => fX5_readProduct_b7 rc f M (nI e) (nI i)) (G := fun f M => fX12_readProduct_b5 rr f M (nI e)) ?_ (fun Mc Mr j L a b c d => part_both X he hm HE.1 HE.2 a b c d) ?_ ?_ ?_ ?_ ?_ ?_ hc hr hj hL
  · intro y hy
    refine ⟨by omega, ?_, ?_⟩
    · split <;> omega
    · split <;> omega
  · intro f M i j L h hi hy
    have := sy_lt (T := T) (n := n) (s := ps T n j)
    rw [fX5_readProduct_b7]
    dsimp only
    unfold fX5_readProduct_b39 fX5_readProduct_b55
    rw [if_pos (ltL 700 hi (by decide)), if_pos h.2.2.1.2.2, h.2.2.1.2.1, nI_p1]
    by_cases c : syA T n (ps T n j) = 42
    · rw [if_pos (eqL 42 c), if_pos (eqL 42 c), if_pos c]
      rfl
    · have c2 := hy.resolve_left c
      rw [if_neg (neL 42 c (by omega) (by decide)), if_pos (eqL 47 c2), if_neg c]
      rw [if_neg (neL 42 c (by omega) (by decide))]
      rfl
  · intro f M i j L h hy
    have := sy_lt (T := T) (n := n) (s := ps T n j)
    rw [fX5_readProduct_b7]
    dsimp only
    rw [if_pos h.2.2.1.2.2, h.2.2.1.2.1, if_neg (neL 42 (fun c => hy (Or.inl c)) (by omega) (by decide)), if_neg (neL 47 (fun c => hy (Or.inr c)) (by omega) (by decide))]
    split <;> rfl
  · intro f M i h0
    rw [fX5_readProduct_b7]
    dsimp only
    rw [if_neg h0]
    split <;> rfl
  · intro f M j L h hy
    rw [fX12_readProduct_b5]
    dsimp only
    unfold fX12_readProduct_b23 fX12_readProduct_b39
    rw [r_mkE X h (c := 42) (C := 42) rfl (by decide), bI_ok]
    by_cases c : syA T n (ps T n j) = 42
    · rw [if_pos c, if_neg n10, r_mkE X h (c := 42) (C := 42) rfl (by decide), bI_ok, if_pos c, if_neg n10, if_pos c]
      rfl
    · have c2 := hy.resolve_left c
      rw [if_neg c, if_pos rfl, r_mkE X h (c := 47) (C := 47) rfl (by decide), bI_ok, if_pos c2, if_neg n10, r_mkE X h (c := 42) (C := 42) rfl (by decide), bI_ok, if_neg c, if_pos rfl, if_neg c]
      rfl
  · intro f M j L h hy
    rw [fX12_readProduct_b5]
    dsimp only
    rw [r_mkE X h (c := 42) (C := 42) rfl (by decide), bI_ok, if_neg (fun c => hy (Or.inl c)), if_pos rfl, r_mkE X h (c := 47) (C := 47) rfl (by decide), bI_ok, if_neg (fun c => hy (Or.inr c)), if_pos rfl]
  · intro f M h0
    rw [fX12_readProduct_b5]
    dsimp only
    rw [r_mk0 h0, bI_ok, if_pos rfl, r_mk0 h0, bI_ok, if_pos rfl]
theorem sum_both (X : Ctx T n z nv A wi sa C0 R0) (he : e < 6) (hm : 1 ≤ m) (HE : Rec T n z nv A wi sa C0 R0 m e rc rr) (hc : ExC T n A C0 Mc j L) (hr : ExR T n wi sa R0 Mr j L) (hj : j ≤ z) (hL : L.length ≤ j) :
    Out T n z nv A wi sa C0 R0 (m + 1 + 1) j L (fX5_readSum rc Mc (nI e)) (fX12_readSum rr Mr (nI e)) := by
  refine bin_both X (m := m + 1) (isop := fun y => y = 43 ∨ y = 45) (o := fun y => if y = 43 then 5 else 6) (cop := fun M => fX5_readProduct rc M (nI e)) (rop := fun M => fX12_readProduct rr M (nI e)) (F := fun f M i => fX5_readSum_b7 rc f M (nI e) (nI i)) (G := fun f M => fX12_readSum_b5 rr f M (nI e)) ?_ (fun Mc Mr j L a b c d => prod_both X he hm HE a b c d) ?_ ?_ ?_ ?_ ?_ ?_ hc hr hj hL
  · intro y hy
    refine ⟨by omega, ?_, ?_⟩
    · split <;> omega
    · split <;> omega
  · intro f M i j L h hi hy
    have := sy_lt (T := T) (n := n) (s := ps T n j)
    rw [fX5_readSum_b7]
    dsimp only
    unfold fX5_readSum_b39 fX5_readSum_b55
    rw [if_pos (ltL 700 hi (by decide)), if_pos h.2.2.1.2.2, h.2.2.1.2.1, nI_p1]
    by_cases c : syA T n (ps T n j) = 43
    · rw [if_pos (eqL 43 c), if_pos (eqL 43 c), if_pos c]
      rfl
    · have c2 := hy.resolve_left c
      rw [if_neg (neL 43 c (by omega) (by decide)), if_pos (eqL 45 c2), if_neg c]
      rw [if_neg (neL 43 c (by omega) (by decide))]
      rfl
  · intro f M i j L h hy
    have := sy_lt (T := T) (n := n) (s := ps T n j)
    rw [fX5_readSum_b7]
    dsimp only
    rw [if_pos h.2.2.1.2.2, h.2.2.1.2.1, if_neg (neL 43 (fun c => hy (Or.inl c)) (by omega) (by decide)), if_neg (neL 45 (fun c => hy (Or.inr c)) (by omega) (by decide))]
    split <;> rfl
  · intro f M i h0
    rw [fX5_readSum_b7]
    dsimp only
    rw [if_neg h0]
    split <;> rfl
  · intro f M j L h hy
    rw [fX12_readSum_b5]
    dsimp only
    unfold fX12_readSum_b23 fX12_readSum_b39
    rw [r_mkE X h (c := 43) (C := 43) rfl (by decide), bI_ok]
    by_cases c : syA T n (ps T n j) = 43
    · rw [if_pos c, if_neg n10, r_mkE X h (c := 43) (C := 43) rfl (by decide), bI_ok, if_pos c, if_neg n10, if_pos c]
      rfl
    · have c2 := hy.resolve_left c
      rw [if_neg c, if_pos rfl, r_mkE X h (c := 45) (C := 45) rfl (by decide), bI_ok, if_pos c2, if_neg n10, r_mkE X h (c := 43) (C := 43) rfl (by decide), bI_ok, if_neg c, if_pos rfl, if_neg c]
      rfl
  · intro f M j L h hy
    rw [fX12_readSum_b5]
    dsimp only
    rw [r_mkE X h (c := 43) (C := 43) rfl (by decide), bI_ok, if_neg (fun c => hy (Or.inl c)), if_pos rfl, r_mkE X h (c := 45) (C := 45) rfl (by decide), bI_ok, if_neg (fun c => hy (Or.inr c)), if_pos rfl]
  · intro f M h0
    rw [fX12_readSum_b5]
    dsimp only
    rw [r_mk0 h0, bI_ok, if_pos rfl, r_mk0 h0, bI_ok, if_pos rfl]
end
end
