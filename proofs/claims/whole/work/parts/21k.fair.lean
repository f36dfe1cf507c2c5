-- ===== the fairest shares: the least worth, the most =====
def fFt (w : Nat → Int) (f : Nat → Option Int) (g p : Nat) (a : Option Int) : Option Int := if bitN g p = 0 then omx a ((f p).map (fun v => if v < w p then v else w p)) else a
def fF (w : Nat → Nat → Int) (P : Nat) : Nat → Nat → Nat → Option Int
  | 0, _, _ => some 9223372036854775807
  | d + 1, h, g => foldN (fFt (w h) (fun p => fF w P d (h + 1) (g ||| 2 ^ p)) g) P 0 none
def okF (o : Option Int) : Prop := ∀ v, o = some v → -9223372036854775807 ≤ v ∧ v ≤ 9223372036854775807
theorem ofF {v : Int} (h : -9223372036854775807 ≤ v ∧ v ≤ 9223372036854775807) : (Int64.ofInt v).toInt = v := Int64.toInt_ofInt_of_le (by omega) (by omega)
theorem omx_or {a b : Option Int} : omx a b = a ∨ omx a b = b := by
  cases a with
  | none => exact Or.inr rfl
  | some x => cases b with
    | none => exact Or.inl rfl
    | some y =>
      show some (if x < y then y else x) = some x ∨ some (if x < y then y else x) = some y
      by_cases c : x < y
      · rw [if_pos c]; exact Or.inr rfl
      · rw [if_neg c]; exact Or.inl rfl
/-- at least l -/
def atL (l : Int) (o : Option Int) : Prop := ∃ v, o = some v ∧ l ≤ v
theorem atL_omx {l : Int} {a b : Option Int} : atL l (omx a b) ↔ atL l a ∨ atL l b := by
  unfold atL
  cases a with
  | none =>
    show (∃ v, b = some v ∧ l ≤ v) ↔ _
    exact ⟨fun z => Or.inr z, fun z => z.elim (fun ⟨_, e, _⟩ => by cases e) id⟩
  | some x => cases b with
    | none =>
      show (∃ v, some x = some v ∧ l ≤ v) ↔ _
      exact ⟨fun z => Or.inl z, fun z => z.elim id (fun ⟨_, e, _⟩ => by cases e)⟩
    | some y =>
      show (∃ v, some (if x < y then y else x) = some v ∧ l ≤ v) ↔ _
      constructor
      · rintro ⟨v, e, hv⟩
        have e := Option.some.inj e
        by_cases c : x < y
        · rw [if_pos c] at e; exact Or.inr ⟨y, rfl, by omega⟩
        · rw [if_neg c] at e; exact Or.inl ⟨x, rfl, by omega⟩
      · rintro (⟨v, e, hv⟩ | ⟨v, e, hv⟩)
        · have e := Option.some.inj e
          refine ⟨_, rfl, ?_⟩
          by_cases c : x < y
          · rw [if_pos c]; omega
          · rw [if_neg c]; omega
        · have e := Option.some.inj e
          refine ⟨_, rfl, ?_⟩
          by_cases c : x < y
          · rw [if_pos c]; omega
          · rw [if_neg c]; omega
theorem atL_min {l w : Int} {o : Option Int} : atL l (o.map (fun v => if v < w then v else w)) ↔ atL l o ∧ l ≤ w := by
  unfold atL
  cases o with
  | none => exact ⟨fun ⟨_, e, _⟩ => (by cases e), fun ⟨⟨_, e, _⟩, _⟩ => (by cases e)⟩
  | some x =>
    show (∃ v, some (if x < w then x else w) = some v ∧ l ≤ v) ↔ _
    constructor
    · rintro ⟨v, e, hv⟩
      have e := Option.some.inj e
      by_cases c : x < w
      · rw [if_pos c] at e; exact ⟨⟨x, rfl, by omega⟩, by omega⟩
      · rw [if_neg c] at e; exact ⟨⟨x, rfl, by omega⟩, by omega⟩
    · rintro ⟨⟨v, e, hv⟩, hl⟩
      have e := Option.some.inj e
      refine ⟨_, rfl, ?_⟩
      by_cases c : x < w
      · rw [if_pos c]; omega
      · rw [if_neg c]; omega
section
variable {w : Nat → Nat → Int} {P : Nat}
theorem fF_at {l : Int} {d h g : Nat} : atL l (fF w P (d + 1) h g) ↔ ∃ p, p < P ∧ bitN g p = 0 ∧ l ≤ w h p ∧ atL l (fF w P d (h + 1) (g ||| 2 ^ p)) := by
  have key := foldN_inv (f := fFt (w h) (fun p => fF w P d (h + 1) (g ||| 2 ^ p)) g) (fun k (a : Option Int) => atL l a ↔ ∃ p, p < k ∧ bitN g p = 0 ∧ l ≤ w h p ∧ atL l (fF w P d (h + 1) (g ||| 2 ^ p))) P 0 none ⟨fun ⟨_, e, _⟩ => (by cases e), fun ⟨p, hp, _⟩ => (by omega)⟩ (by
    intro p a _ hp ha
    unfold fFt
    by_cases c : bitN g p = 0
    · rw [if_pos c, atL_omx, atL_min, ha]
      constructor
      · rintro (⟨q, h1, h2⟩ | ⟨h1, h2⟩)
        · exact ⟨q, by omega, h2⟩
        · exact ⟨p, by omega, c, h2, h1⟩
      · rintro ⟨q, h1, h2, h3, h4⟩
        by_cases e : q = p
        · subst e; exact Or.inr ⟨h4, h3⟩
        · exact Or.inl ⟨q, by omega, h2, h3, h4⟩
    · rw [if_neg c, ha]
      constructor
      · rintro ⟨q, h1, h2⟩; exact ⟨q, by omega, h2⟩
      · rintro ⟨q, h1, h2, h3⟩
        by_cases e : q = p
        · subst e; exact absurd h2 c
        · exact ⟨q, by omega, h2, h3⟩)
  rw [Nat.zero_add] at key
  exact key
theorem fF_ok (hw : ∀ h p, -2147483648 ≤ w h p ∧ w h p ≤ 2147483647) : ∀ d h g v, fF w P d h g = some v → -2147483648 ≤ v ∧ v ≤ 9223372036854775807 := by
  intro d
  induction d with
  | zero => intro h g v e; cases e; decide
  | succ d ih =>
    intro h g v e
    have key := foldN_inv (f := fFt (w h) (fun p => fF w P d (h + 1) (g ||| 2 ^ p)) g) (fun _ (a : Option Int) => ∀ v, a = some v → -2147483648 ≤ v ∧ v ≤ 9223372036854775807) P 0 none (fun v e => by cases e) (by
      intro p a _ _ ha v hv
      unfold fFt at hv
      by_cases c : bitN g p = 0
      · rw [if_pos c] at hv
        rcases omx_or (a := a) (b := (fF w P d (h + 1) (g ||| 2 ^ p)).map (fun v => if v < w h p then v else w h p)) with e | e
        · exact ha v (e.symm.trans hv)
        · have hv := e.symm.trans hv
          cases hf : fF w P d (h + 1) (g ||| 2 ^ p) with
          | none => rw [hf] at hv; cases hv
          | some u =>
            rw [hf] at hv
            have hv : (if u < w h p then u else w h p) = v := Option.some.inj hv
            have := ih (h + 1) (g ||| 2 ^ p) u hf
            have := hw h p
            by_cases c2 : u < w h p
            · rw [if_pos c2] at hv; omega
            · rw [if_neg c2] at hv; omega
      · rw [if_neg c] at hv; exact ha v hv)
    exact key v e
/-- what is found is one of the worths -/
theorem fF_is (hw : ∀ h p, -2147483648 ≤ w h p ∧ w h p ≤ 2147483647) : ∀ d h g v, fF w P (d + 1) h g = some v → ∃ h' p, h' < h + (d + 1) ∧ p < P ∧ w h' p = v := by
  intro d
  induction d with
  | zero =>
    intro h g v e
    have key := foldN_inv (f := fFt (w h) (fun p => fF w P 0 (h + 1) (g ||| 2 ^ p)) g) (fun _ (a : Option Int) => ∀ v, a = some v → ∃ h' p, h' < h + (0 + 1) ∧ p < P ∧ w h' p = v) P 0 none (fun v e => by cases e) (by
      intro p a _ hp ha v hv
      unfold fFt at hv
      by_cases c : bitN g p = 0
      · rw [if_pos c] at hv
        rcases omx_or (a := a) (b := (fF w P 0 (h + 1) (g ||| 2 ^ p)).map (fun v => if v < w h p then v else w h p)) with e | e
        · exact ha v (e.symm.trans hv)
        · have hv := e.symm.trans hv
          have hv : (if (9223372036854775807 : Int) < w h p then 9223372036854775807 else w h p) = v := Option.some.inj hv
          have := hw h p
          rw [if_neg (by omega)] at hv
          exact ⟨h, p, by omega, by omega, hv⟩
      · rw [if_neg c] at hv; exact ha v hv)
    exact key v e
  | succ d ih =>
    intro h g v e
    have key := foldN_inv (f := fFt (w h) (fun p => fF w P (d + 1) (h + 1) (g ||| 2 ^ p)) g) (fun _ (a : Option Int) => ∀ v, a = some v → ∃ h' p, h' < h + (d + 1 + 1) ∧ p < P ∧ w h' p = v) P 0 none (fun v e => by cases e) (by
      intro p a _ hp ha v hv
      unfold fFt at hv
      by_cases c : bitN g p = 0
      · rw [if_pos c] at hv
        rcases omx_or (a := a) (b := (fF w P (d + 1) (h + 1) (g ||| 2 ^ p)).map (fun v => if v < w h p then v else w h p)) with e | e
        · exact ha v (e.symm.trans hv)
        · have hv := e.symm.trans hv
          cases hf : fF w P (d + 1) (h + 1) (g ||| 2 ^ p) with
          | none => rw [hf] at hv; cases hv
          | some u =>
            rw [hf] at hv
            have hv : (if u < w h p then u else w h p) = v := Option.some.inj hv
            by_cases c2 : u < w h p
            · rw [if_pos c2] at hv
              obtain ⟨h', p', h1, h2, h3⟩ := ih (h + 1) (g ||| 2 ^ p) u hf
              exact ⟨h', p', by omega, h2, by omega⟩
            · rw [if_neg c2] at hv
              exact ⟨h, p, by omega, by omega, hv⟩
      · rw [if_neg c] at hv; exact ha v hv)
    exact key v e
/-- plots enough: a way -/
theorem fF_some (hw : ∀ h p, -2147483648 ≤ w h p ∧ w h p ≤ 2147483647) (hP : P ≤ 9) : ∀ d h g, g < 2 ^ P → pcn 10 g + d ≤ P → atL (-2147483648) (fF w P d h g) := by
  intro d
  induction d with
  | zero => intro h g _ _; exact ⟨_, rfl, by decide⟩
  | succ d ih =>
    intro h g hg hd
    have h512 : g < 512 := Nat.lt_of_lt_of_le hg (Nat.pow_le_pow_right (n := 2) (by decide) hP)
    obtain ⟨p, hp, hb⟩ := (pc_free P hP g h512 hg).2 (by omega)
    exact fF_at.mpr ⟨p, hp, hb, (hw h p).1, ih (h + 1) (g ||| 2 ^ p) (or_P hg hp) (by rw [pc_or g h512 p (by omega) hb]; omega)⟩
end
section
variable {M : Mem} {X : WX}
def FW (X : WX) (h g : Nat) : Option Int := fF (bw X) (iP (xI X)) (iH (xI X) - h) h g
def FWt (X : WX) (h g p : Nat) (a : Option Int) : Option Int := fFt (bw X h) (fun p => FW X (h + 1) (g ||| 2 ^ p)) g p a
theorem FW_d {h d g : Nat} (hd : iH (xI X) = h + d) : FW X h g = fF (bw X) (iP (xI X)) d h g := by
  unfold FW
  rw [show iH (xI X) - h = d by omega]
theorem FW_step {h g : Nat} (hh : h < iH (xI X)) : FW X h g = foldN (FWt X h g) (iP (xI X)) 0 none := by
  obtain ⟨d, hd⟩ : ∃ d, iH (xI X) = h + 1 + d := ⟨iH (xI X) - (h + 1), by omega⟩
  have e2 : FWt X h g = fFt (bw X h) (fun p => fF (bw X) (iP (xI X)) d (h + 1) (g ||| 2 ^ p)) g := by
    funext p a
    unfold FWt fFt
    dsimp only
    rw [FW_d hd]
  rw [e2, FW_d (show iH (xI X) = h + (d + 1) by omega)]
  rfl
theorem FW_ok (h g : Nat) : okF (FW X h g) := fun v hv => by
  have := fF_ok (bw_in X) _ _ _ v hv
  omega
theorem eMiF_none {o : Option Int} (ho : okF o) : lg_cmp (eMi o) (-9223372036854775808) = 0 ↔ o = none := by
  rw [lg_cmp_eq]
  cases o with
  | none => exact ⟨fun _ => rfl, fun _ => rfl⟩
  | some v =>
    have hv := ho v rfl
    constructor
    · intro e
      have e := congrArg Int64.toInt e
      have e : (Int64.ofInt v).toInt = (-9223372036854775808 : Int64).toInt := e
      rw [ofF hv, mi_i] at e
      omega
    · intro e; cases e
theorem eMiF_max {a : Option Int} {y : Int} (ha : okF a) (hy : -9223372036854775807 ≤ y ∧ y ≤ 9223372036854775807) : (if Int64.ofInt y < eMi a then eMi a else Int64.ofInt y) = eMi (omx a (some y)) := by
  cases a with
  | none =>
    rw [if_neg (fun c => by
      have c : Int64.ofInt y < -9223372036854775808 := c
      rw [Int64.lt_iff_toInt_lt, mi_i, ofF hy] at c
      omega)]
    rfl
  | some z =>
    have hz := ha z rfl
    show (if Int64.ofInt y < Int64.ofInt z then Int64.ofInt z else Int64.ofInt y) = Int64.ofInt (if z < y then y else z)
    by_cases c : y < z
    · rw [if_pos (by rw [Int64.lt_iff_toInt_lt, ofF hy, ofF hz]; exact c), if_neg (by omega)]
    · rw [if_neg (by rw [Int64.lt_iff_toInt_lt, ofF hy, ofF hz]; exact c)]
      by_cases c2 : z < y
      · rw [if_pos c2]
      · rw [if_neg c2, show y = z by omega]
theorem w64 (w : Int32) : w.toInt64 = Int64.ofInt w.toInt := (Int64.ofInt_int32ToInt w).symm
theorem eMiF_min {v : Int} (hv : -9223372036854775807 ≤ v ∧ v ≤ 9223372036854775807) (w : Int32) : (if Int64.ofInt v < w.toInt64 then Int64.ofInt v else w.toInt64) = Int64.ofInt (if v < w.toInt then v else w.toInt) := by
  have h1 := Int32.le_toInt w
  have h2 := Int32.toInt_lt w
  have hw : -9223372036854775807 ≤ w.toInt ∧ w.toInt ≤ 9223372036854775807 := by omega
  rw [w64]
  by_cases c : v < w.toInt
  · rw [if_pos c, if_pos (by rw [Int64.lt_iff_toInt_lt, ofF hv, ofF hw]; exact c)]
  · rw [if_neg c, if_neg (by rw [Int64.lt_iff_toInt_lt, ofF hv, ofF hw]; exact c)]
def fBW (X : WX) (h g : Nat) : Option Int := if pcn 10 g = h then FW X h g else none
def BTf (M : Mem) (X : WX) (h0 : Nat) : Prop := ∀ h g, h0 ≤ h → h ≤ iH (xI X) → g < 2 ^ iP (xI X) → gl M (77 + h) g = eMi (fBW X h g)
theorem FWt_ok {h g p : Nat} {a : Option Int} (ha : okF a) : okF (FWt X h g p a) := by
  unfold FWt fFt
  by_cases c : bitN g p = 0
  · rw [if_pos c]
    intro v hv
    rcases omx_or (a := a) (b := (FW X (h + 1) (g ||| 2 ^ p)).map (fun v => if v < bw X h p then v else bw X h p)) with e | e
    · exact ha v (e.symm.trans hv)
    · have hv := e.symm.trans hv
      cases hf : FW X (h + 1) (g ||| 2 ^ p) with
      | none => rw [hf] at hv; cases hv
      | some u =>
        rw [hf] at hv
        have hv : (if u < bw X h p then u else bw X h p) = v := Option.some.inj hv
        have := FW_ok (X := X) (h + 1) (g ||| 2 ^ p) u hf
        have := bw_in X h p
        by_cases c2 : u < bw X h p
        · rw [if_pos c2] at hv; omega
        · rw [if_neg c2] at hv; omega
  · rw [if_neg c]; exact ha
theorem canG_F (hPH : iH (xI X) ≤ iP (xI X)) {h g : Nat} : canG X h g ↔ pcn 10 g = h := by
  have e : bq X = iH (xI X) := by unfold bq; rw [if_neg (by omega)]
  unfold canG
  rw [e]
  omega
theorem c_fromF (hX : WOk X) (hPH : iH (xI X) ≤ iP (xI X)) (hw : WTc M X) {h g : Nat} (hb : BTf M X (h + 1)) (hh : h < iH (xI X)) (hg : g < 2 ^ iP (xI X)) : fX4_mostFrom M (nI h) (nI g) 1 = okL M (eMi (fBW X h g)) := by
  have h8 := hX.1.1.1
  have h9 := hX.1.1.2.1
  have hP5 : 2 ^ iP (xI X) ≤ 512 := Nat.pow_le_pow_right (n := 2) (by decide) h9
  have cc := c_can hX hw (h := h) (g := g) (by omega) (by omega)
  unfold fX4_mostFrom
  by_cases hc : pcn 10 g = h
  · have e0 : fBW X (h + 1) g = none := by unfold fBW; exact if_neg (by omega)
    have e1 : fBW X h g = FW X h g := by unfold fBW; exact if_pos hc
    rw [cc.1 ((canG_F hPH).mpr hc), bI_ok, if_neg n10, nI_p1, chk_in (by omega) (by decide), chk_in (by omega) (by decide), ix_nI (by omega), ix_nI (by omega), hb (h + 1) g (Nat.le_refl _) (by omega) hg, e0, e1, FW_step hh]
    obtain ⟨M', ⟨hM', _⟩, e'⟩ := loopI (fun f M p (a : Option Int) => fX4_mostFrom_b28 f M (nI h) (nI g) 1 (eMi a) (nI p)) (fun _ M' a => M' = M ∧ okF a) (iP (xI X)) (FWt X h g) (fun M a => okL M (eMi a))
      (by
        intro f M1 p a ⟨hM1, ha⟩ hp
        subst hM1
        refine ⟨M1, ⟨rfl, FWt_ok ha⟩, ?_⟩
        rw [fX4_mostFrom_b28]
        dsimp only
        unfold fX4_mostFrom_b108 fX4_mostFrom_b113
        rw [hw.2.1, if_pos (nI_lt hp (by omega)), m_bit (show g < 512 by omega) (by omega), nI_p1, nI_p1]
        unfold FWt fFt
        dsimp only
        rcases bitN_2 g p with e | e
        · have hP := or_P hg hp
          have e2 : fBW X (h + 1) (g ||| 2 ^ p) = FW X (h + 1) (g ||| 2 ^ p) := by
            unfold fBW
            exact if_pos (by rw [pc_or g (by omega) p (by omega) e]; omega)
          rw [e, if_pos (show nI 0 = 0 from rfl), if_pos (show (0 : Nat) = 0 from rfl), or_bit9 p (by omega), nI_or, chk_in (by omega) (by decide), chk_in (by omega) (by decide), ix_nI (by omega), ix_nI (by omega), hb (h + 1) (g ||| 2 ^ p) (Nat.le_refl _) (by omega) hP, e2]
          cases hv : FW X (h + 1) (g ||| 2 ^ p) with
          | none =>
            rw [if_pos ((eMiF_none (o := none) (fun v z => by cases z)).mpr rfl)]
            show _ = fX4_mostFrom_b28 f M1 (nI h) (nI g) 1 (eMi (omx a none)) (nI (p + 1))
            rw [omx_r]
          | some v =>
            have hok := FW_ok (X := X) (h + 1) (g ||| 2 ^ p)
            rw [hv] at hok
            have hv1 := hok v rfl
            have hwi := bw_in X h p
            have hvw : -9223372036854775807 ≤ (if v < bw X h p then v else bw X h p) ∧ (if v < bw X h p then v else bw X h p) ≤ 9223372036854775807 := by
              by_cases c : v < bw X h p
              · rw [if_pos c]; exact hv1
              · rw [if_neg c]; omega
            rw [if_neg (fun z => by have := (eMiF_none hok).mp z; cases this), chk_in (by omega) (by decide), chk_in (by omega) (by decide), if_neg (show ¬ (1 : Int32) = 0 by decide), ix_nI (by omega), ix_nI (by omega), hw.2.2 h p hh hp]
            have es := eMiF_min hv1 (wrt (xI X) (lS (xL X)) h p)
            have es : (if eMi (some v) < (wrt (xI X) (lS (xL X)) h p).toInt64 then eMi (some v) else (wrt (xI X) (lS (xL X)) h p).toInt64) = Int64.ofInt (if v < bw X h p then v else bw X h p) := es
            rw [es, eMiF_max ha hvw]
            rfl
        · rw [e, if_neg (show ¬ nI 1 = 0 by decide), if_neg (by decide)])
      (by
        intro f M1 a ⟨hM1, _⟩
        subst hM1
        rw [fX4_mostFrom_b28]
        dsimp only
        rw [hw.2.1, if_neg (nI_nlt (Nat.le_refl _) (by omega))])
      (iP (xI X)) 0 (by omega) FU (FU_gt (by omega)) M none ⟨rfl, fun v e => by cases e⟩
    subst hM'
    exact e'
  · have ec : fBW X h g = none := by unfold fBW; exact if_neg hc
    rw [cc.2 (fun z => hc ((canG_F hPH).mp z)), bI_ok, if_pos rfl, ec]
    rfl
theorem c_fillF (hX : WOk X) (hPH : iH (xI X) ≤ iP (xI X)) (hw : WTc M X) : ∃ M', fX4_fill M 1 = okV M' ∧ Fr scrG M M' ∧ BTf M' X 0 := by
  have h8 := hX.1.1.1
  have h9 := hX.1.1.2.1
  have hP5 : 2 ^ iP (xI X) ≤ 512 := Nat.pow_le_pow_right (n := 2) (by decide) h9
  have eq : bq X = iH (xI X) := by unfold bq; rw [if_neg (by omega)]
  obtain ⟨M2, ⟨F2, b2⟩, e2⟩ := loopI (fun f M g (_ : Nat) => fX4_fill_b27 f M 1 (nI (iH (xI X))) 9223372036854775807 (nI g)) (fun g M' _ => Fr scrG M M' ∧ ∀ g', g' < g → gl M' (77 + iH (xI X)) g' = eMi (fBW X (iH (xI X)) g')) (2 ^ iP (xI X)) (fun _ a => a) (fun M _ => fX4_fill_b80 FU M 1 (nI (iH (xI X)) - 1))
    (by
      intro f M2 g a ⟨F2, b2⟩ hg
      have hw2 := hw.g F2 hX
      have hpc := (pce_is g (by omega)).2
      have ev : eMi (fBW X (iH (xI X)) g) = if pcn 10 g = iH (xI X) then 9223372036854775807 else -9223372036854775808 := by
        unfold fBW FW
        rw [Nat.sub_self]
        unfold fF
        split <;> rfl
      rw [fX4_fill_b27]
      dsimp only
      unfold fX4_fill_b65
      rw [hw2.2.1, or_bitP _ (by omega), if_pos (nI_lt hg (by omega)), hw2.1, chk_in (by omega) (by decide), c_bits (by omega), bI_ok, chk_in (by omega) (by decide), chk_in (by omega) (by decide), ix_nI (by omega), ix_nI (by omega), wr_eq, wr_eq, nI_p1]
      have fin : ∀ v, v = eMi (fBW X (iH (xI X)) g) → (Fr scrG M (sl M2 (77 + iH (xI X)) g v) ∧ ∀ g', g' < g + 1 → gl (sl M2 (77 + iH (xI X)) g v) (77 + iH (xI X)) g' = eMi (fBW X (iH (xI X)) g')) := by
        intro v hv
        refine ⟨F2.wl (scrG_in h8), fun g' hg' => ?_⟩
        rw [gl_sl]
        by_cases e : g' = g
        · rw [e, if_pos ⟨rfl, rfl⟩]; exact hv
        · rw [if_neg (fun z => e z.2)]; exact b2 g' (by omega)
      by_cases c : pcn 10 g = iH (xI X)
      · rw [if_pos (by rw [c])]
        exact ⟨_, fin 9223372036854775807 (by rw [ev, if_pos c]), rfl⟩
      · rw [if_neg (c_lit (by omega) (by omega) c)]
        exact ⟨_, fin (-9223372036854775808) (by rw [ev, if_neg c]), rfl⟩)
    (by
      intro f M2 a ⟨F2, _⟩
      have hw2 := hw.g F2 hX
      rw [fX4_fill_b27]
      dsimp only
      rw [hw2.2.1, or_bitP _ (by omega), if_neg (nI_nlt (Nat.le_refl _) (by omega)), hw2.1])
    (2 ^ iP (xI X)) 0 (by omega) FU (FU_gt (by omega)) M 0 ⟨Fr.rf, fun g' hg' => by omega⟩
  have down : ∀ k, k ≤ iH (xI X) → ∀ f, k < f → ∀ M3, Fr scrG M M3 → BTf M3 X k → ∃ M4, fX4_fill_b80 f M3 1 (nI k - 1) = okV M4 ∧ Fr scrG M M4 ∧ BTf M4 X 0 := by
    intro k
    induction k with
    | zero =>
      intro _ f hf M3 F3 b3
      obtain ⟨m, rfl⟩ : ∃ m, f = m + 1 := ⟨f - 1, by omega⟩
      rw [fX4_fill_b80]
      dsimp only
      rw [if_pos (show nI 0 - 1 < 0 by decide)]
      exact ⟨M3, rfl, F3, b3⟩
    | succ h ih =>
      intro hki f hf M3 F3 b3
      obtain ⟨m, rfl⟩ : ∃ m, f = m + 1 := ⟨f - 1, by omega⟩
      obtain ⟨M4, ⟨F4, b4, c4⟩, e4⟩ := loopI (fun d M g (_ : Nat) => fX4_fill_b88 (fX4_fill_b80 m) d M 1 (nI h) (nI g)) (fun g M' _ => Fr scrG M M' ∧ BTf M' X (h + 1) ∧ ∀ g', g' < g → gl M' (77 + h) g' = eMi (fBW X h g')) (2 ^ iP (xI X)) (fun _ a => a) (fun M _ => fX4_fill_b80 m M 1 (nI h - 1))
        (by
          intro d M4 g a ⟨F4, b4, c4⟩ hg
          have hw4 := hw.g F4 hX
          rw [fX4_fill_b88]
          dsimp only
          rw [hw4.2.1, or_bitP _ (by omega), if_pos (nI_lt hg (by omega)), chk_in (by omega) (by decide), c_fromF hX hPH hw4 b4 (by omega) hg, bL_ok, chk_in (by omega) (by decide), ix_nI (by omega), ix_nI (by omega), wr_eq, nI_p1]
          refine ⟨_, ⟨F4.wl (scrG_in (by omega)), fun h' g' h1 h2 h3 => ?_, fun g' hg' => ?_⟩, rfl⟩
          · rw [gl_sl, if_neg (fun z => by omega)]; exact b4 h' g' h1 h2 h3
          · rw [gl_sl]
            by_cases e : g' = g
            · rw [e, if_pos ⟨rfl, rfl⟩]
            · rw [if_neg (fun z => e z.2)]; exact c4 g' (by omega))
        (by
          intro d M4 a ⟨F4, _⟩
          have hw4 := hw.g F4 hX
          rw [fX4_fill_b88]
          dsimp only
          rw [hw4.2.1, or_bitP _ (by omega), if_neg (nI_nlt (Nat.le_refl _) (by omega)), show nI h + (-1) = nI h - 1 from (Int32.sub_eq_add_neg _ _).symm])
        (2 ^ iP (xI X)) 0 (by omega) FU (FU_gt (by omega)) M3 0 ⟨F3, b3, fun g' hg' => by omega⟩
      have e4 : fX4_fill_b88 (fX4_fill_b80 m) FU M3 1 (nI h) 0 = fX4_fill_b80 m M4 1 (nI h - 1) := e4
      rw [fX4_fill_b80]
      dsimp only
      rw [nI_m1 (by omega), show h + 1 - 1 = h by omega, if_neg (nI_pos (by omega)), e4]
      refine ih (by omega) m (by omega) M4 F4 (fun h' g' h1 h2 h3 => ?_)
      by_cases e : h' = h
      · rw [e]; exact c4 g' h3
      · exact b4 h' g' (by omega) h2 h3
  obtain ⟨M4, e4, F4, b4⟩ := down (iH (xI X)) (Nat.le_refl _) FU (FU_gt (by omega)) M2 F2 (fun h g h1 h2 h3 => by rw [show h = iH (xI X) by omega]; exact b2 g h3)
  refine ⟨M4, ?_, F4, b4⟩
  unfold fX4_fill fX4_fill_b23
  rw [if_neg (show ¬ (1 : Int32) = 0 by decide), hw.1, hw.2.1, q_min X hX, eq]
  exact e2.trans e4
end
