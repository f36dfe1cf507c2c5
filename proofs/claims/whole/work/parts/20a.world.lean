-- ===== the world: island, state, history, sights, status; as the class and as the reference hold it =====
theorem DC.eq {a : Nat} {M M' : Mem} {S : DS} (h : DC a M S) (e0 : ∀ k, gi M' a k = gi M a k) (e1 : ∀ k, gi M' (a + 1) k = gi M (a + 1) k) (e2 : ∀ k, gi M' (a + 2) k = gi M (a + 2) k) (e3 : ∀ k, gi M' (a + 3) k = gi M (a + 3) k) : DC a M' S := by
  unfold DC DC0 at h ⊢
  simp only [e0, e1, e2, e3]
  exact h
theorem DRf.eq {M M' : Mem} {S : DS} (h : DRf M S) (e0 : ∀ k, 31 ≤ k → k ≤ 37 → gi M' 87 k = gi M 87 k) (e1 : ∀ k, gi M' 102 k = gi M 102 k) (e2 : ∀ k, gi M' 103 k = gi M 103 k) (e3 : ∀ k, gi M' 104 k = gi M 104 k) : DRf M' S := by
  unfold DRf DR0 at h ⊢
  simp only [e0 31 (by decide) (by decide), e0 32 (by decide) (by decide), e0 33 (by decide) (by decide), e0 34 (by decide) (by decide), e0 35 (by decide) (by decide), e0 36 (by decide) (by decide), e0 37 (by decide) (by decide), e1, e2, e3]
  exact h
theorem IR.eq {M M' : Mem} {I : IS} (h : IR M I) (e : ∀ x, 90 ≤ x → x ≤ 99 → ∀ k, gi M' x k = gi M x k) : IR M' I := by
  unfold IR at h ⊢
  simp only [e 90 (by decide) (by decide), e 91 (by decide) (by decide), e 92 (by decide) (by decide), e 93 (by decide) (by decide), e 94 (by decide) (by decide), e 95 (by decide) (by decide), e 96 (by decide) (by decide), e 97 (by decide) (by decide), e 98 (by decide) (by decide), e 99 (by decide) (by decide)]
  exact h
theorem ICn.eq {M M' : Mem} {I : IS} (h : ICn M I) (e : ∀ x, x < 39 → x ≠ 13 → x ≠ 16 → x ≠ 34 → x ≠ 37 → x ≠ 23 → x ≠ 1 → x ≠ 0 → x ≠ 2 → ∀ k, gi M' x k = gi M x k) (g : gb M' 0 = gb M 0) : ICn M' I := by
  unfold ICn at h ⊢
  rw [g]
  revert h
  generalize gb M 0 = b
  intro h
  have q : ∀ x ∈ isCells, ∀ k, gi M' x k = gi M x k := by
    intro x hx k
    unfold isCells at hx
    simp only [List.mem_cons, List.not_mem_nil, or_false] at hx
    exact e x (by omega) (by omega) (by omega) (by omega) (by omega) (by omega) (by omega) (by omega) (by omega) k
  unfold IC at h ⊢
  cases b
  · simp only [isA, Nat.reduceAdd, q 3 (by decide), q 4 (by decide), q 5 (by decide), q 6 (by decide), q 7 (by decide), q 8 (by decide), q 9 (by decide), q 10 (by decide), q 11 (by decide), q 12 (by decide), q 14 (by decide), q 15 (by decide)] at h ⊢
    exact h
  · simp only [isA, Nat.reduceAdd, q 24 (by decide), q 25 (by decide), q 26 (by decide), q 27 (by decide), q 28 (by decide), q 29 (by decide), q 30 (by decide), q 31 (by decide), q 32 (by decide), q 33 (by decide), q 35 (by decide), q 36 (by decide)] at h ⊢
    exact h
/-- what an image keeps: state, history, sights, status -/
abbrev LV : Type := DS × (Nat × (Nat → DS)) × (Nat × (Nat → Nat × Nat × Nat)) × (Nat → Int32)
def lS (L : LV) : DS := L.1
def lA (L : LV) : Nat := L.2.1.1
def lH (L : LV) : Nat → DS := L.2.1.2
def lM (L : LV) : Nat := L.2.2.1.1
def lQ (L : LV) : Nat → Nat × Nat × Nat := L.2.2.1.2
def lR (L : LV) : Nat → Int32 := L.2.2.2
def LOk (I : IS) (L : LV) : Prop := (DOk I (lS L) ∧ dN (lS L) ≤ 999) ∧ (lA L ≤ 40 ∧ ∀ k, k < lA L → DOk I (lH L k) ∧ dN (lH L k) ≤ 999) ∧ lM L ≤ 8 ∧ ∀ k, k < lM L → (lQ L k).1 < 8 ∧ (lQ L k).2.1 ≤ 99 ∧ (lQ L k).2.2 ≤ 99
/-- the class's history at h: its rows at h + 1 -/
def HCc (h : Nat) (M : Mem) (L : LV) : Prop := ∃ o, o < 40 ∧ gi M h 1 = nI o ∧ gi M h 2 = nI (lA L) ∧ ∀ k, k < lA L → PC M (h + 1) ((o + k) % 40 * 31) (lH L k)
def QCc (q : Nat) (M : Mem) (L : LV) : Prop := gi M q 3 = nI (lM L) ∧ ∀ k, k < lM L → gi M (q + 1) k = nI (lQ L k).1 ∧ gi M (q + 2) k = nI (lQ L k).2.1 ∧ gi M (q + 3) k = nI (lQ L k).2.2
def CCc (s h q r : Nat) (M : Mem) (L : LV) : Prop := DC s M (lS L) ∧ HCc h M L ∧ QCc q M L ∧ ∀ k, k < 3 → gi M r k = lR L k
theorem HCc.eq {h : Nat} {M M' : Mem} {L : LV} (H : HCc h M L) (e0 : ∀ k, gi M' h k = gi M h k) (e1 : ∀ k, gi M' (h + 1) k = gi M (h + 1) k) : HCc h M' L := by
  unfold HCc PC at H ⊢
  simp only [e0, e1]
  exact H
theorem QCc.eq {h : Nat} {M M' : Mem} {L : LV} (H : QCc h M L) (e0 : ∀ k, gi M' h k = gi M h k) (e1 : ∀ k, gi M' (h + 1) k = gi M (h + 1) k) (e2 : ∀ k, gi M' (h + 2) k = gi M (h + 2) k) (e3 : ∀ k, gi M' (h + 3) k = gi M (h + 3) k) : QCc h M' L := by
  unfold QCc at H ⊢
  simp only [e0, e1, e2, e3]
  exact H
/-- the reference's: history, sights, status, at the cells that are given -/
def HRr (p : Nat) (M : Mem) (L : LV) : Prop := ∀ k, k < lA L → PK M p (31 * k) (lH L k)
def QRr (q : Nat) (M : Mem) (L : LV) : Prop := ∀ k, k < lM L → gi M q k = nI (lQ L k).1 ∧ gi M (q + 1) k = nI (lQ L k).2.1 ∧ gi M (q + 2) k = nI (lQ L k).2.2
theorem HRr.eq {p : Nat} {M M' : Mem} {L : LV} (H : HRr p M L) (e : ∀ k, gi M' p k = gi M p k) : HRr p M' L := by
  unfold HRr PK at H ⊢
  simp only [e]
  exact H
theorem QRr.eq {q : Nat} {M M' : Mem} {L : LV} (H : QRr q M L) (e0 : ∀ k, gi M' q k = gi M q k) (e1 : ∀ k, gi M' (q + 1) k = gi M (q + 1) k) (e2 : ∀ k, gi M' (q + 2) k = gi M (q + 2) k) : QRr q M' L := by
  unfold QRr at H ⊢
  simp only [e0, e1, e2]
  exact H
def CRr (M : Mem) (L : LV) : Prop := DRf M (lS L) ∧ (gi M 87 38 = nI (lA L) ∧ HRr 105 M L) ∧ (gi M 87 39 = nI (lM L) ∧ QRr 112 M L) ∧ ∀ k, k < 3 → gi M 100 k = lR L k
def CRi (M : Mem) (L : LV) : Prop := PK M 115 0 (lS L) ∧ (gi M 87 52 = nI (lA L) ∧ HRr 116 M L) ∧ (gi M 87 53 = nI (lM L) ∧ QRr 117 M L) ∧ ∀ k, k < 3 → gi M 120 k = lR L k
/-- the world: island, what a household eats, what an image keeps, the image, the tape, the fault's place -/
abbrev WX : Type := IS × Nat × LV × Option LV × (Nat × (Nat → Nat)) × Int32
def xI (X : WX) : IS := X.1
def xE (X : WX) : Nat := X.2.1
def xL (X : WX) : LV := X.2.2.1
def xG (X : WX) : Option LV := X.2.2.2.1
def xN (X : WX) : Nat := X.2.2.2.2.1.1
def xT (X : WX) : Nat → Nat := X.2.2.2.2.1.2
def xF (X : WX) : Int32 := X.2.2.2.2.2
def setL (X : WX) (L : LV) : WX := (xI X, xE X, L, xG X, (xN X, xT X), xF X)
def WOk (X : WX) : Prop := IOk (xI X) ∧ (iE (xI X) = nI (xE X) ∧ xE X ≤ 9999) ∧ LOk (xI X) (xL X) ∧ (∀ L, xG X = some L → LOk (xI X) L) ∧ (xN X ≤ 700 ∧ ∀ k, k < xN X → xT X k < 256) ∧ ∀ p, p < iP (xI X) → ∃ a b, a ≤ 20 ∧ b ≤ 20 ∧ iA (xI X) 3 p = nI a ∧ iA (xI X) 4 p = nI b
def byC (v : Nat) : Int32 := (Int32.toInt8 (nI v)).toInt32
def CI (M : Mem) (X : WX) : Prop :=
  (ICn M (xI X) ∧ gb M 1 = !gb M 0) ∧ CCc 39 43 45 49 M (xL X) ∧ (gi M 0 9 = (if xG X = none then 0 else 1) ∧ ∀ L, xG X = some L → CCc 51 55 57 61 M L) ∧
  (gi M 1 1 = nI (xN X) ∧ ∀ k, k < xN X → gi M 2 k = byC (xT X k)) ∧ gi M 17 7 = xF X
def RI (M : Mem) (X : WX) : Prop :=
  IR M (xI X) ∧ CRr M (xL X) ∧ (gi M 87 51 = (if xG X = none then 0 else 1) ∧ ∀ L, xG X = some L → CRi M L) ∧
  (gi M 87 16 = nI (xN X) ∧ ∀ k, k < xN X → gi M 101 k = nI (xT X k)) ∧ gi M 87 25 = xF X ∧ gi M 87 42 = -1
/-- the class's cells alone have changed -/
def FrC (M M' : Mem) : Prop := ∀ a, 87 ≤ a → ∀ k, gi M' a k = gi M a k
/-- the reference's cells alone have changed -/
def FrR (M M' : Mem) : Prop := (∀ a, a < 87 → ∀ k, gi M' a k = gi M a k) ∧ (∀ j, j < 2 → gb M' j = gb M j) ∧ gl M' 121 0 = gl M 121 0
theorem Fr.C {l : List Nat} {M M' : Mem} (h : Fr l M M') (hl : ∀ x ∈ l, x < 87) : FrC M M' := fun a ha k => h.i (fun c => by have := hl a c; omega) k
theorem Fr.R {l : List Nat} {M M' : Mem} (h : Fr l M M') (hl : ∀ x ∈ l, 87 ≤ x ∧ x ≠ 121) : FrR M M' := ⟨fun a ha k => h.i (fun c => by have := hl a c; omega) k, fun j _ => h.b j, h.l (fun c => by have := hl 121 c; omega) 0⟩
theorem FrC.tr {M M' M'' : Mem} (h : FrC M M') (h' : FrC M' M'') : FrC M M'' := fun a ha k => (h' a ha k).trans (h a ha k)
theorem FrR.tr {M M' M'' : Mem} (h : FrR M M') (h' : FrR M' M'') : FrR M M'' := ⟨fun a ha k => (h'.1 a ha k).trans (h.1 a ha k), fun j hj => (h'.2.1 j hj).trans (h.2.1 j hj), h'.2.2.trans h.2.2⟩
theorem RI.c {M M' : Mem} {X : WX} (h : RI M X) (e : FrC M M') : RI M' X := by
  obtain ⟨h1, ⟨h2, ⟨h3, h4⟩, ⟨h5, h6⟩, h7⟩, ⟨h8, h9⟩, ⟨h10, h11⟩, h12, h13⟩ := h
  have e7 := e 87 (by decide)
  refine ⟨h1.eq (fun x hx _ => e x (by omega)), ⟨h2.eq (fun k _ _ => e7 k) (e 102 (by decide)) (e 103 (by decide)) (e 104 (by decide)), ⟨(e7 _).trans h3, h4.eq (e 105 (by decide))⟩, ⟨(e7 _).trans h5, h6.eq (e 112 (by decide)) (e 113 (by decide)) (e 114 (by decide))⟩, fun k hk => (e 100 (by decide) k).trans (h7 k hk)⟩, ⟨(e7 _).trans h8, fun L hL => ?_⟩, ⟨(e7 _).trans h10, fun k hk => (e 101 (by decide) k).trans (h11 k hk)⟩, (e7 _).trans h12, (e7 _).trans h13⟩
  obtain ⟨g2, ⟨g3, g4⟩, ⟨g5, g6⟩, g7⟩ := h9 L hL
  exact ⟨g2.at (fun k _ => e 115 (by decide) _), ⟨(e7 _).trans g3, g4.eq (e 116 (by decide))⟩, ⟨(e7 _).trans g5, g6.eq (e 117 (by decide)) (e 118 (by decide)) (e 119 (by decide))⟩, fun k hk => (e 120 (by decide) k).trans (g7 k hk)⟩
theorem CI.r {M M' : Mem} {X : WX} (h : CI M X) (e : FrR M M') : CI M' X := by
  obtain ⟨⟨h1, h0⟩, ⟨h2, h3, h4, h5⟩, ⟨h6, h7⟩, ⟨h8, h9⟩, h10⟩ := h
  obtain ⟨e, g, _⟩ := e
  refine ⟨⟨h1.eq (fun x hx _ _ _ _ _ _ _ _ => e x (by omega)) (g 0 (by decide)), by rw [g 0 (by decide), g 1 (by decide)]; exact h0⟩, ⟨h2.eq (e 39 (by decide)) (e 40 (by decide)) (e 41 (by decide)) (e 42 (by decide)), h3.eq (e 43 (by decide)) (e 44 (by decide)), h4.eq (e 45 (by decide)) (e 46 (by decide)) (e 47 (by decide)) (e 48 (by decide)), fun k hk => (e 49 (by decide) k).trans (h5 k hk)⟩, ⟨(e 0 (by decide) _).trans h6, fun L hL => ?_⟩, ⟨(e 1 (by decide) _).trans h8, fun k hk => (e 2 (by decide) k).trans (h9 k hk)⟩, (e 17 (by decide) _).trans h10⟩
  obtain ⟨g2, g3, g4, g5⟩ := h7 L hL
  exact ⟨g2.eq (e 51 (by decide)) (e 52 (by decide)) (e 53 (by decide)) (e 54 (by decide)), g3.eq (e 55 (by decide)) (e 56 (by decide)), g4.eq (e 57 (by decide)) (e 58 (by decide)) (e 59 (by decide)) (e 60 (by decide)), fun k hk => (e 61 (by decide) k).trans (g5 k hk)⟩
/-- scratch cells of the class -/
def scrQ : List Nat := [13, 16, 23, 34, 37, 62, 63, 64, 65, 66, 67, 68, 69, 70, 71, 72, 73, 74, 75, 76, 77, 78, 79, 80, 81, 82, 83, 84, 85, 86]
/-- the class's live chronicle has changed, and scratch -/
def scrW : List Nat := [39, 40, 41, 42, 43, 44, 45, 46, 47, 48, 49]
theorem CI.l {M M' : Mem} {X : WX} {L : LV} (h : CI M X) (hF : Fr (scrW ++ scrQ) M M') (hL : CCc 39 43 45 49 M' L) : CI M' (setL X L) := by
  obtain ⟨⟨h1, h0⟩, _, ⟨h6, h7⟩, ⟨h8, h9⟩, h10⟩ := h
  have e : ∀ x, x ∉ scrW ++ scrQ → ∀ k, gi M' x k = gi M x k := fun x hx k => hF.i hx k
  refine ⟨⟨h1.eq (fun x hx a1 a2 a3 a4 a5 _ _ _ => e x (by
    unfold scrW scrQ
    simp only [List.cons_append, List.nil_append, List.mem_cons, List.not_mem_nil, or_false]
    omega)) (hF.b 0), by rw [hF.b 0, hF.b 1]; exact h0⟩, hL, ⟨(e 0 (by decide) _).trans h6, fun L hL => ?_⟩, ⟨(e 1 (by decide) _).trans h8, fun k hk => (e 2 (by decide) k).trans (h9 k hk)⟩, (e 17 (by decide) _).trans h10⟩
  obtain ⟨g2, g3, g4, g5⟩ := h7 L hL
  exact ⟨g2.eq (e 51 (by decide)) (e 52 (by decide)) (e 53 (by decide)) (e 54 (by decide)), g3.eq (e 55 (by decide)) (e 56 (by decide)), g4.eq (e 57 (by decide)) (e 58 (by decide)) (e 59 (by decide)) (e 60 (by decide)), fun k hk => (e 61 (by decide) k).trans (g5 k hk)⟩
theorem CCc.eq {M M' : Mem} {L : LV} (h : CCc 39 43 45 49 M L) (e : ∀ x ∈ scrW, ∀ k, gi M' x k = gi M x k) : CCc 39 43 45 49 M' L := by
  obtain ⟨g2, g3, g4, g5⟩ := h
  exact ⟨g2.eq (e 39 (by decide)) (e 40 (by decide)) (e 41 (by decide)) (e 42 (by decide)), g3.eq (e 43 (by decide)) (e 44 (by decide)), g4.eq (e 45 (by decide)) (e 46 (by decide)) (e 47 (by decide)) (e 48 (by decide)), fun k hk => (e 49 (by decide) k).trans (g5 k hk)⟩
theorem setL_same (X : WX) : setL X (xL X) = X := rfl
theorem CI.q {M M' : Mem} {X : WX} (h : CI M X) (hF : Fr scrQ M M') : CI M' X := by
  have := h.l (L := xL X) (hF.mono (fun x hx => List.mem_append_right _ hx)) (h.2.1.eq (fun x hx k => hF.i (by revert x; decide) k))
  exact this
/-- what a call of the reference may change beside the live chronicle: fields 3, 31 to 39, 43 of the model; rows -/
def scrM : List Nat := [87, 100, 102, 103, 104, 105, 106, 107, 108, 109, 110, 111, 112, 113, 114]
theorem RI.l {M M' : Mem} {X : WX} {L : LV} (h : RI M X) (hF : Fr scrM M M') (hm : ∀ k, k ∈ [16, 25, 42, 51, 52, 53] → gi M' 87 k = gi M 87 k) (hL : CRr M' L) : RI M' (setL X L) := by
  obtain ⟨h1, _, ⟨h8, h9⟩, ⟨h10, h11⟩, h12, h13⟩ := h
  have e : ∀ x, x ∉ scrM → ∀ k, gi M' x k = gi M x k := fun x hx k => hF.i hx k
  refine ⟨h1.eq (fun x hx hx2 => e x (by
    unfold scrM
    simp only [List.mem_cons, List.not_mem_nil, or_false]
    omega)), hL, ⟨(hm 51 (by decide)).trans h8, fun L hL => ?_⟩, ⟨(hm 16 (by decide)).trans h10, fun k hk => (e 101 (by decide) k).trans (h11 k hk)⟩, (hm 25 (by decide)).trans h12, (hm 42 (by decide)).trans h13⟩
  obtain ⟨g2, ⟨g3, g4⟩, ⟨g5, g6⟩, g7⟩ := h9 L hL
  exact ⟨g2.at (fun k _ => e 115 (by decide) _), ⟨(hm 52 (by decide)).trans g3, g4.eq (e 116 (by decide))⟩, ⟨(hm 53 (by decide)).trans g5, g6.eq (e 117 (by decide)) (e 118 (by decide)) (e 119 (by decide))⟩, fun k hk => (e 120 (by decide) k).trans (g7 k hk)⟩
/-- a question: the reference's state stands again -/
theorem RI.q {M M' : Mem} {X : WX} (h : RI M X) (hF : Fr [87, 102, 103, 104, 106, 107, 108, 109, 110, 111] M M') (hm : ∀ k, k ≠ 3 → k < 31 ∨ 37 < k → k ≠ 43 → gi M' 87 k = gi M 87 k) (hS : DRf M' (lS (xL X))) : RI M' X := by
  have := h.l (M' := M') (L := xL X) (hF.mono (by unfold scrM; decide)) (fun k hk => hm k (by revert k; decide) (by revert k; decide) (by revert k; decide)) (by
    obtain ⟨_, ⟨h3, h4⟩, ⟨h5, h6⟩, h7⟩ := h.2.1
    have e : ∀ x, x ∉ [87, 102, 103, 104, 106, 107, 108, 109, 110, 111] → ∀ k, gi M' x k = gi M x k := fun x hx k => hF.i hx k
    exact ⟨hS, ⟨(hm 38 (by decide) (by decide) (by decide)).trans h3, h4.eq (e 105 (by decide))⟩, ⟨(hm 39 (by decide) (by decide) (by decide)).trans h5, h6.eq (e 112 (by decide)) (e 113 (by decide)) (e 114 (by decide))⟩, fun k hk => (e 100 (by decide) k).trans (h7 k hk)⟩)
  exact this
