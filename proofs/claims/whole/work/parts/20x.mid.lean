-- ===== where the market should be =====
section
variable {X : WX}
def mdT (X : WX) (y x : Nat) (a : Nat × Bool) : Nat × Bool := (if a.2 = false ∨ wkN X x y < wkN X (a.1 % 100) (a.1 / 100) then 100 * y + x else a.1, true)
def mdO (X : WX) (y : Nat) (a : Nat × Bool) : Nat × Bool := foldN (mdT X y) 21 0 a
/-- a place, and whether one was looked at: before the first one place 0 -/
def mdP (y x : Nat) (a : Nat × Bool) : Prop := a.1 % 100 ≤ 20 ∧ a.1 / 100 ≤ 20 ∧ (a.2 = false → a.1 = 0 ∧ x = 0 ∧ y = 0)
theorem mdP_T {y x : Nat} {a : Nat × Bool} (h : mdP y x a) (hx : x ≤ 20) (hy : y ≤ 20) : mdP y (x + 1) (mdT X y x a) := by
  obtain ⟨h1, h2, h3⟩ := h
  unfold mdT
  refine ⟨?_, ?_, fun c => by cases c⟩
  · show (if a.2 = false ∨ wkN X x y < wkN X (a.1 % 100) (a.1 / 100) then 100 * y + x else a.1) % 100 ≤ 20
    split <;> omega
  · show (if a.2 = false ∨ wkN X x y < wkN X (a.1 % 100) (a.1 / 100) then 100 * y + x else a.1) / 100 ≤ 20
    split <;> omega
theorem mdP_O {y : Nat} {a : Nat × Bool} (h : mdP y 0 a) (hy : y ≤ 20) : mdP (y + 1) 0 (mdO X y a) := by
  have := foldN_inv (f := mdT X y) (fun k a => mdP y k a) 21 0 a h (fun j a _ hj ha => mdP_T ha (by omega) hy)
  obtain ⟨h1, h2, h3⟩ := this
  exact ⟨h1, h2, fun c => by have := h3 c; omega⟩
theorem a_middle (hX : WOk X) : Ag (fun M => fX11_middle M) (fun M => fX12_middle M) k0 X := by
  have hk := hX.1
  refine Ag.p hX (nI (foldN (mdO X) 21 0 (0, false)).1) (fun M hM => ⟨M, ?_, Fr.rf⟩) (fun M hM => ⟨si M 87 3 0, ?_, Fr.rf⟩)
  · obtain ⟨lst, hl⟩ : ∃ lst : Nat × Bool → Int32, lst = fun a => if a.2 = false then 2147483647 else nI (wkN X (a.1 % 100) (a.1 / 100)) := ⟨_, rfl⟩
    obtain ⟨M', ⟨hM', _⟩, e'⟩ := loopI (fun n M y (a : Nat × Bool) => fX11_middle_b8 n M (nI a.1) (lst a) (nI y)) (fun y M' a => M' = M ∧ mdP y 0 a) 21 (mdO X) (fun M a => okI M (nI a.1))
      (by
        intro n M1 y a ⟨hM1, ha⟩ hy
        subst hM1
        obtain ⟨M2, ⟨hM2, _⟩, e2⟩ := loopI (fun d M x (a : Nat × Bool) => fX11_middle_b17 (fX11_middle_b8 n) d M (nI a.1) (lst a) (nI y) (nI x)) (fun x M' a => M' = M1 ∧ mdP y x a) 21 (mdT X y) (fun M a => fX11_middle_b8 n M (nI a.1) (lst a) (nI (y + 1)))
          (by
            intro d M2 x b ⟨hM2, hb⟩ hx
            subst hM2
            have hw := wkN_le hX (x := x) (y := y) (by omega) (by omega)
            have hw2 := wkN_le hX hb.1 hb.2.1
            have e100 : (100 : Int32) * nI y + nI x = nI (100 * y + x) := by rw [show (100 : Int32) * nI y = nI (100 * y) from pk_mul 100 y, nadd]
            refine ⟨M2, ⟨rfl, mdP_T hb (by omega) (by omega)⟩, ?_⟩
            rw [fX11_middle_b17]
            dsimp only
            unfold fX11_middle_b60
            rw [if_neg (ngtL 20 (by omega) (by decide)), c_walks hM hX (x := x) (y := y) (by omega) (by omega), bI_ok, e100, nI_p1]
            have up : ∀ v, (mdT X y x v).1 % 100 = (mdT X y x v).1 % 100 := fun _ => rfl
            by_cases c : b.2 = false ∨ wkN X x y < wkN X (b.1 % 100) (b.1 / 100)
            · have lt : nI (wkN X x y) < lst b := by
                rw [hl]
                dsimp only
                by_cases cb : b.2 = false
                · rw [if_pos cb]; exact ltL 2147483647 (by omega) (by decide)
                · rw [if_neg cb]; exact nI_lt (c.resolve_left cb) (by omega)
              have e1 : mdT X y x b = (100 * y + x, true) := by unfold mdT; rw [if_pos c]
              have e3 : lst (100 * y + x, true) = nI (wkN X x y) := by
                rw [hl]
                dsimp only
                rw [if_neg (by decide), show (100 * y + x) % 100 = x by omega, show (100 * y + x) / 100 = y by omega]
              rw [if_pos lt, e1, e3]
            · have cb : ¬ b.2 = false := fun z => c (Or.inl z)
              have nlt : ¬ nI (wkN X x y) < lst b := by
                rw [hl]
                dsimp only
                rw [if_neg cb]
                exact nI_nlt (by have : ¬ wkN X x y < wkN X (b.1 % 100) (b.1 / 100) := fun z => c (Or.inr z); omega) (by omega)
              have e1 : mdT X y x b = b := by
                unfold mdT
                rw [if_neg c]
                obtain ⟨b1, b2⟩ := b
                cases b2 with
                | false => exact absurd rfl cb
                | true => rfl
              rw [if_neg nlt, e1])
          (by
            intro d M2 b _
            rw [fX11_middle_b17]
            dsimp only
            rw [if_pos (gtL 20 (by decide) (by decide)), nI_p1])
          21 0 (by omega) FU (FU_gt (by omega)) M1 a ⟨rfl, ha⟩
        subst hM2
        refine ⟨M2, ⟨rfl, mdP_O ha (by omega)⟩, ?_⟩
        rw [fX11_middle_b8]
        dsimp only
        rw [if_neg (ngtL 20 (by omega) (by decide))]
        exact e2)
      (by
        intro n M1 a _
        rw [fX11_middle_b8]
        dsimp only
        rw [if_pos (gtL 20 (by decide) (by decide))])
      21 0 (by omega) FU (FU_gt (by omega)) M (0, false) ⟨rfl, by decide, by decide, fun _ => ⟨rfl, rfl, rfl⟩⟩
    subst hM'
    have hl0 : lst (0, false) = 2147483647 := by rw [hl]; rfl
    have e' : fX11_middle_b8 FU M' 0 (lst (0, false)) 0 = okI M' (nI (foldN (mdO X) 21 0 (0, false)).1) := e'
    rw [hl0] at e'
    show fX11_middle M' = _
    unfold fX11_middle
    exact e'
  · have R0 := hM.z0
    obtain ⟨M', ⟨hM', _⟩, e'⟩ := loopI (fun n M y (a : Nat × Bool) => fX12_middle_b9 n M (nI a.1) (nI y)) (fun y M' a => M' = si M 87 3 0 ∧ mdP y 0 a) 21 (mdO X) (fun M a => okI M (nI a.1))
      (by
        intro n M1 y a ⟨hM1, ha⟩ hy
        subst hM1
        obtain ⟨M2, ⟨hM2, _⟩, e2⟩ := loopI (fun d M x (a : Nat × Bool) => fX12_middle_b17 (fX12_middle_b9 n) d M (nI a.1) (nI y) (nI x)) (fun x M' a => M' = si M 87 3 0 ∧ mdP y x a) 21 (mdT X y) (fun M a => fX12_middle_b9 n M (nI a.1) (nI (y + 1)))
          (by
            intro d M2 x b ⟨hM2, hb⟩ hx
            subst hM2
            obtain ⟨hb1, hb2, hb3⟩ := id hb
            have hw := wkN_le hX (x := x) (y := y) (by omega) (by omega)
            have hw2 := wkN_le hX hb1 hb2
            have hbl : b.1 < 2 ^ 31 := by omega
            have e100 : (100 : Int32) * nI y + nI x = nI (100 * y + x) := by rw [show (100 : Int32) * nI y = nI (100 * y) from pk_mul 100 y, nadd]
            have er : nI b.1 - nI b.1 / 100 * 100 = nI (b.1 % 100) := pk_rem (d := 100) hbl (by decide) (by decide)
            have ed : nI b.1 / 100 = nI (b.1 / 100) := pk_div (d := 100) hbl (by decide) (by decide)
            refine ⟨si M 87 3 0, ⟨rfl, mdP_T hb (by omega) (by omega)⟩, ?_⟩
            rw [fX12_middle_b17]
            dsimp only
            unfold fX12_middle_b51
            rw [if_neg (ngtL 20 (by omega) (by decide)), r_walks R0 hX (x := x) (y := y) (by omega) (by omega), bI_ok, er, ed, r_walks R0 hX hb1 hb2, bI_ok, e100, nI_p1]
            unfold mdT
            by_cases c2 : wkN X x y < wkN X (b.1 % 100) (b.1 / 100)
            · rw [if_pos (nI_lt c2 (by omega)), if_pos (Or.inr c2)]
            · rw [if_neg (nI_nlt (by omega) (by omega))]
              by_cases cb : b.2 = false
              · obtain ⟨z1, z2, z3⟩ := hb3 cb
                rw [if_pos (Or.inl cb), z1, z2, z3]
              · rw [if_neg (fun z => z.elim cb c2)])
          (by
            intro d M2 b _
            rw [fX12_middle_b17]
            dsimp only
            rw [if_pos (gtL 20 (by decide) (by decide)), nI_p1])
          21 0 (by omega) FU (FU_gt (by omega)) (si M 87 3 0) a ⟨rfl, ha⟩
        subst hM2
        refine ⟨si M 87 3 0, ⟨rfl, mdP_O ha (by omega)⟩, ?_⟩
        rw [fX12_middle_b9]
        dsimp only
        rw [if_neg (ngtL 20 (by omega) (by decide))]
        exact e2)
      (by
        intro n M1 a _
        rw [fX12_middle_b9]
        dsimp only
        rw [if_pos (gtL 20 (by decide) (by decide))])
      21 0 (by omega) FU (FU_gt (by omega)) (si M 87 3 0) (0, false) ⟨rfl, by decide, by decide, fun _ => ⟨rfl, rfl, rfl⟩⟩
    subst hM'
    show fX12_middle M = _
    unfold fX12_middle
    rw [wr_eq]
    exact e'
end
