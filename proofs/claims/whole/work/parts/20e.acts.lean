-- ===== acts of both sides =====
def kN (x : Nat) : Int32 := nI x
def k1 (_ : Nat) : Int32 := 1
/-- only 1 is thrown; only 2, told as 1; nothing is thrown -/
def kA (x : Nat) : Int32 := if x = 1 then 1 else 0
def kB (x : Nat) : Int32 := if x = 2 then 1 else 0
def k0 (_ : Nat) : Int32 := 0
theorem x1x {M : Mem} : (bI (fX12_fail M 1) (fun M v => some (M, .inr (some (.int v)))) : RS) = okI (si M 87 3 1) 0 := rfl
theorem x2x {M : Mem} : (bI (fX12_fail M 2) (fun M v => some (M, .inr (some (.int v)))) : RS) = okI (si M 87 3 2) 0 := rfl
theorem xor_lt {l h : Nat} (hl : l < 256) (hh : h < 8) : l ^^^ 2 ^ h < 256 := Nat.xor_lt_two_pow (n := 8) hl (Nat.pow_lt_pow_right (by decide) hh)
theorem scrW_a : ∀ x ∈ scrA 39, x ∈ scrW ++ scrQ := by unfold scrA scrW scrQ; decide
theorem scrA_no : ∀ x ∈ [43, 44, 45, 46, 47, 48, 49], x ∉ scrA 39 := by unfold scrA; decide
section
variable {M : Mem} {X : WX} {L : LV}
theorem LC_DC {S : DS} {M' : Mem} {a l : Nat} {c : Int32} (h : DC a M S) (e0 : gi M' a 0 = nI l) (e6 : gi M' a 6 = c) (e : ∀ k, k ≠ 0 → k ≠ 6 → gi M' a k = gi M a k) (e1 : ∀ k, gi M' (a + 1) k = gi M (a + 1) k) (e2 : ∀ k, gi M' (a + 2) k = gi M (a + 2) k) (e3 : ∀ k, gi M' (a + 3) k = gi M (a + 3) k) : DC a M' (setLC S l c) := by
  obtain ⟨⟨a0, a1, a2, a3, a4, a5, a6⟩, b1, b2, b3⟩ := h
  refine ⟨⟨e0, ?_, ?_, ?_, ?_, ?_, e6⟩, fun z k hk => ?_, fun z k hk => ?_, fun k hk => ?_⟩
  · rw [e 1 (by decide) (by decide)]; exact a1
  · rw [e 2 (by decide) (by decide)]; exact a2
  · rw [e 3 (by decide) (by decide)]; exact a3
  · rw [e 4 (by decide) (by decide)]; exact a4
  · rw [e 5 (by decide) (by decide)]; exact a5
  · rw [e1]; exact b1 z k hk
  · rw [e2]; exact b2 z k hk
  · rw [e3]; exact b3 k hk
theorem XY_DC {S : DS} {M' : Mem} {a : Nat} {x y : Int32} (h : DC a M S) (e2' : gi M' a 2 = x) (e3' : gi M' a 3 = y) (e : ∀ k, k ≠ 2 → k ≠ 3 → gi M' a k = gi M a k) (e1 : ∀ k, gi M' (a + 1) k = gi M (a + 1) k) (e2 : ∀ k, gi M' (a + 2) k = gi M (a + 2) k) (e3 : ∀ k, gi M' (a + 3) k = gi M (a + 3) k) : DC a M' (setXY S x y) := by
  obtain ⟨⟨a0, a1, a2, a3, a4, a5, a6⟩, b1, b2, b3⟩ := h
  refine ⟨⟨?_, ?_, e2', e3', ?_, ?_, ?_⟩, fun z k hk => ?_, fun z k hk => ?_, fun k hk => ?_⟩
  · rw [e 0 (by decide) (by decide)]; exact a0
  · rw [e 1 (by decide) (by decide)]; exact a1
  · rw [e 4 (by decide) (by decide)]; exact a4
  · rw [e 5 (by decide) (by decide)]; exact a5
  · rw [e 6 (by decide) (by decide)]; exact a6
  · rw [e1]; exact b1 z k hk
  · rw [e2]; exact b2 z k hk
  · rw [e3]; exact b3 k hk
theorem LC_DR {S : DS} {M' : Mem} {l : Nat} {c : Int32} (h : DR0 M S) (e0 : gi M' 87 35 = nI l) (e6 : gi M' 87 34 = c) (e : ∀ k, 31 ≤ k → k ≤ 37 → k ≠ 35 → k ≠ 34 → gi M' 87 k = gi M 87 k) : DR0 M' (setLC S l c) := by
  obtain ⟨a0, a1, a2, a3, a4, a5, a6⟩ := h
  refine ⟨e0, ?_, ?_, ?_, ?_, ?_, e6⟩
  · rw [e 32 (by decide) (by decide) (by decide) (by decide)]; exact a1
  · rw [e 36 (by decide) (by decide) (by decide) (by decide)]; exact a2
  · rw [e 37 (by decide) (by decide) (by decide) (by decide)]; exact a3
  · rw [e 31 (by decide) (by decide) (by decide) (by decide)]; exact a4
  · rw [e 33 (by decide) (by decide) (by decide) (by decide)]; exact a5
theorem XY_DR {S : DS} {M' : Mem} {x y : Int32} (h : DR0 M S) (e0 : gi M' 87 36 = x) (e6 : gi M' 87 37 = y) (e : ∀ k, 31 ≤ k → k ≤ 37 → k ≠ 36 → k ≠ 37 → gi M' 87 k = gi M 87 k) : DR0 M' (setXY S x y) := by
  obtain ⟨a0, a1, a2, a3, a4, a5, a6⟩ := h
  refine ⟨?_, ?_, e0, e6, ?_, ?_, ?_⟩
  · rw [e 35 (by decide) (by decide) (by decide) (by decide)]; exact a0
  · rw [e 32 (by decide) (by decide) (by decide) (by decide)]; exact a1
  · rw [e 31 (by decide) (by decide) (by decide) (by decide)]; exact a4
  · rw [e 33 (by decide) (by decide) (by decide) (by decide)]; exact a5
  · rw [e 34 (by decide) (by decide) (by decide) (by decide)]; exact a6
theorem ap4344 : apart [43, 44] isCells := by unfold apart; decide
theorem r_bit {l h : Nat} (hl : l < 256) (hh : h < 8) : (nI l >>> (nI h &&& 31)) &&& 1 = nI (bitN l h) := lot_bit hl hh
theorem a_turn (hX : WOk X) (x : Int32) : Ag (fun M => fX11_turn M x) (fun M => fX12_turn M x) kA X := by
  have hk := hX.1
  have h8 := hk.1.1
  have hL := hX.2.2.1
  have hO := hL.1.1
  rcases h_cases x (iH (xI X)) (by omega) with ⟨h, hh, rfl⟩ | hx
  · have hl : dL (lS (xL X)) ^^^ 2 ^ h < 256 := xor_lt hO.1.1 (by omega)
    obtain ⟨S', hS'⟩ : ∃ S', S' = setLC (lS (xL X)) (dL (lS (xL X)) ^^^ 2 ^ h) (dC (lS (xL X)) + 1) := ⟨_, rfl⟩
    have O' : DOk (xI X) S' := by rw [hS']; exact LC_ok hO hl
    have O2 := tk_ok hk O' none
    refine ⟨setL X (setS (keepL (xL X)) (setH S' (tkS (xI X) S' none))), hX.l (setS_ok (keep_ok hL) O2 (by rw [hS']; exact hL.1.2)), Or.inl ⟨nI (bitN (dL S') h), fun M hM => ?_, fun M hM => ?_⟩⟩
    · obtain ⟨M1, e1, C1, F1⟩ := c_keep hM.2.1 hL
      show ∃ M1, fX11_turn M (nI h) = _ ∧ _
      unfold fX11_turn fX8_turnLot
      rw [c_needH hM.1.1 hk hh, bV_ok, e1, bV_ok, wr_eq, bV_ok, wr_eq, C1.1.1.1, or_bit h (by omega), nx_xor, gi_si_k (by decide), C1.1.1.2.2.2.2.2.2]
      obtain ⟨M3, hM3⟩ : ∃ M3, M3 = si (si M1 39 0 (nI (dL (lS (keepL (xL X))) ^^^ 2 ^ h))) 39 6 (dC (lS (keepL (xL X))) + 1) := ⟨_, rfl⟩
      rw [← hM3]
      have F3 : Fr [39] M1 M3 := by rw [hM3]; exact (Fr.rf.wi (by decide)).wi (by decide)
      have D3 : DC 39 M3 S' := by
        rw [hS']
        refine LC_DC C1.1 ?_ ?_ (fun k a b => ?_) (F3.i (by decide)) (F3.i (by decide)) (F3.i (by decide))
        · rw [hM3, gi_si_k (by decide), gi_si_s]; rfl
        · rw [hM3, gi_si_s]; rfl
        · rw [hM3, gi_si_k b, gi_si_k a]
      obtain ⟨M4, e4, C4, F4⟩ := c_retake C1 ((hM.1.1.fr F1 ap4344).fr F3 (by unfold apart; decide)) hk D3 O' (fun x hx k => F3.i (by revert x; decide) k)
      rw [e4, bV_ok, c_lot C4.1.1 O2.1.1 (by omega), bI_ok]
      have FF : Fr (scrW ++ scrQ) M M4 := ((F1.mono (by unfold scrW scrQ; decide)).tr (F3.mono (by unfold scrW scrQ; decide))).tr (F4.mono scrW_a)
      exact ⟨M4, rfl, hM.l FF C4, FF.C (by unfold scrW scrQ; decide)⟩
    · obtain ⟨M1, e1, C1, F1, m1⟩ := r_keep hM.z.2.1 hL.2.1.1
      show ∃ M1, fX12_turn M (nI h) = _ ∧ _
      unfold fX12_turn
      rw [wr_eq, r_isH hM.z.1 hk hh, bI_ok, if_neg (by decide), e1, bV_ok, wr_eq, wr_eq, C1.1.1.1, or_bit h (by omega), nx_xor, gi_si_k (by decide), C1.1.1.2.2.2.2.2.2]
      obtain ⟨M3, hM3⟩ : ∃ M3, M3 = si (si M1 87 35 (nI (dL (lS (keepL (xL X))) ^^^ 2 ^ h))) 87 34 (dC (lS (keepL (xL X))) + 1) := ⟨_, rfl⟩
      rw [← hM3]
      have F3 : Fr [87] M1 M3 := by rw [hM3]; exact (Fr.rf.wi (by decide)).wi (by decide)
      have m3 : ∀ k, k ≠ 35 → k ≠ 34 → gi M3 87 k = gi M1 87 k := fun k a b => by rw [hM3, gi_si_k b, gi_si_k a]
      have D3 : DR0 M3 S' := by
        rw [hS']
        refine LC_DR C1.1.1 ?_ ?_ (fun k _ _ a b => m3 k a b)
        · rw [hM3, gi_si_k (by decide), gi_si_s]; rfl
        · rw [hM3, gi_si_s]; rfl
      obtain ⟨M4, e4, C4, F4⟩ := r_retake (S := S') C1 ((hM.z.1.fr F1 (by unfold apart; decide)).fr F3 (by unfold apart; decide)) hk D3 (fun z k hk => by rw [F3.i (by decide)]; rw [hS'] at z ⊢; exact C1.1.2.1 z k hk) (fun k hk => by rw [F3.i (by decide), hS']; exact C1.1.2.2.2 k hk) O' (by rw [m3 42 (by decide) (by decide), m1 42 (by decide)]; exact hM.z.2.2.2.2.2) (fun x hx k => F3.i (by revert x; decide) k) (m3 38 (by decide) (by decide)) (m3 39 (by decide) (by decide))
      have q4 : gi M4 87 35 = nI (dL S') := C4.1.1.1
      rw [e4, bV_ok, q4, r_bit O'.1.1 (by omega)]
      have FF : Fr scrM (si M 87 3 0) M4 := ((F1.mono (by unfold scrM; decide)).tr (F3.mono (by unfold scrM; decide))).tr (F4.mono (by unfold scrT scrM; decide))
      have mm : ∀ k, k ≠ 35 → k ≠ 34 → k ≠ 38 → gi M4 87 k = gi (si M 87 3 0) 87 k := fun k a b c => by rw [F4.i (by decide), m3 k a b, m1 k c]
      refine ⟨M4, rfl, by rw [mm 3 (by decide) (by decide) (by decide), gi_si_s], hM.z.l FF (fun k hk => mm k (by revert k; decide) (by revert k; decide) (by revert k; decide)) C4, FrR.rf.z.tr (FF.R (by unfold scrM; decide))⟩
  · exact Ag.x hX 1 (Or.inl rfl) (fun M h => by unfold fX11_turn; rw [c_needHx h.1.1 hx, bV_x]) (fun M h => ⟨0, by
      unfold fX12_turn
      rw [wr_eq, r_isHx h.z.1 hk hx, bI_ok, if_pos rfl, x1x]
      rfl⟩)
end
