-- ===== a call of the law: both sides answer alike, and stand alike behind it =====
def INV (M : Mem) (X : WX) : Prop := WOk X ∧ CI M X ∧ RI M X
theorem CI.sl {M : Mem} {X : WX} (h : CI M X) (v : Int64) : CI (sl M 121 0 v) X := h
theorem RI.sl {M : Mem} {X : WX} (h : RI M X) (v : Int64) : RI (sl M 121 0 v) X := h
theorem hwA (Mx : Mem) (x : Nat) (h : x = 1 ∨ x = 2) (hk : kA x ≠ 0) : (if x = 1 then some (Mx, .inr (some (.int 1))) else none : RS) = okI Mx (kA x) := by
  rcases h with rfl | rfl
  · rfl
  · exact absurd rfl hk
theorem hwB (Mx : Mem) (x : Nat) (h : x = 1 ∨ x = 2) (hk : kB x ≠ 0) : (if x = 2 then some (Mx, .inr (some (.int 1))) else none : RS) = okI Mx (kB x) := by
  rcases h with rfl | rfl
  · exact absurd rfl hk
  · rfl
theorem hwN (Mx : Mem) (x : Nat) (h : x = 1 ∨ x = 2) (hk : kN x ≠ 0) : (if x = 1 then some (Mx, .inr (some (.int 1))) else if x = 2 then some (Mx, .inr (some (.int 2))) else none : RS) = okI Mx (kN x) := by
  rcases h with rfl | rfl <;> rfl
theorem cI_ok {M : Mem} {v : Int32} {k : Mem → Int32 → RS} {kx : Mem → Nat → RS} : cI (okI M v) k kx = k M v := rfl
theorem cL_ok {M : Mem} {v : Int64} {k : Mem → Int64 → RS} {kx : Mem → Nat → RS} : cL (okL M v) k kx = k M v := rfl
theorem cV_ok {M : Mem} {k : Mem → RS} {kx : Mem → Nat → RS} : cV (okV M) k kx = k M := rfl
theorem cI_x {M : Mem} {x : Nat} {k : Mem → Int32 → RS} {kx : Mem → Nat → RS} : cI (some (M, .inl x)) k kx = kx M x := rfl
theorem cL_x {M : Mem} {x : Nat} {k : Mem → Int64 → RS} {kx : Mem → Nat → RS} : cL (some (M, .inl x)) k kx = kx M x := rfl
section
variable {M : Mem} {X : WX} {B : Mem → RS}
theorem law_0 (hI : INV M X) {cf rf : Mem → RS} (h : Ag cf rf k0 X) : ∃ M' X', INV M' X' ∧ cI (cf M) (fun M1 v2 => cI (rf M1) (fun M3 v4 => if v2 = v4 then B M3 else some (M3, .inr (some (.int 0)))) (fun _ _ => none)) (fun _ _ => none) = B M' := by
  obtain ⟨X', hX', ⟨v, hc, hr⟩ | ⟨x, ⟨_, hz⟩, _⟩⟩ := h
  · obtain ⟨M1, e1, c1, f1⟩ := hc M hI.2.1
    obtain ⟨M2, e2, z2, r2, f2⟩ := hr M1 (hI.2.2.c f1)
    exact ⟨M2, X', ⟨hX', c1.r f2, r2⟩, by rw [e1, cI_ok, e2, cI_ok, if_pos rfl]⟩
  · exact absurd rfl hz
theorem law_I (hI : INV M X) {cf rf : Mem → RS} {kx : Nat → Int32} {fL : RS} {wx : Mem → Nat → RS} (h : Ag cf rf kx X) (eL : fL = cI (cf M) (fun M1 v2 => wr (sl M1 121 0 (Int32.toInt64 v2)) (fun M3 => some (M3, .inr (some (.int 0))))) wx) (hw : ∀ Mx x, (x = 1 ∨ x = 2) → kx x ≠ 0 → wx Mx x = okI Mx (kx x)) : ∃ M' X', INV M' X' ∧ cI fL (fun M5 v6 => cI (rf M5) (fun M7 v8 => cI (fX12_thrown M7) (fun M9 v10 => if v10 = v6 then if v6 = 0 then if (lg_cmp (gl M9 121 0) (Int32.toInt64 v8)) = 0 then B M9 else some (M9, .inr (some (.int 0))) else B M9 else some (M9, .inr (some (.int 0)))) (fun _ _ => none)) (fun _ _ => none)) (fun _ _ => none) = B M' := by
  rw [eL]
  obtain ⟨X', hX', ⟨v, hc, hr⟩ | ⟨x, ⟨hx, hz⟩, hc, hr⟩⟩ := h
  · obtain ⟨M1, e1, c1, f1⟩ := hc M hI.2.1
    obtain ⟨M2, e2, z2, r2, f2⟩ := hr (sl M1 121 0 (Int32.toInt64 v)) ((hI.2.2.c f1).sl _)
    have hg : gl M2 121 0 = Int32.toInt64 v := f2.2.2.trans (by rw [gl_sl, if_pos ⟨rfl, rfl⟩])
    have ht : fX12_thrown M2 = okI M2 0 := by unfold fX12_thrown; rw [z2]
    exact ⟨M2, X', ⟨hX', (c1.sl _).r f2, r2⟩, by rw [e1, cI_ok, wr_eq, cI_ok, e2, cI_ok, ht, cI_ok, if_pos rfl, if_pos rfl, hg, if_pos ((lg_cmp_eq _ _).mpr rfl)]⟩
  · obtain ⟨M1, e1, c1, f1⟩ := hc M hI.2.1
    obtain ⟨M2, w, e2, z2, r2, f2⟩ := hr M1 (hI.2.2.c f1)
    have ht : fX12_thrown M2 = okI M2 (kx x) := by unfold fX12_thrown; rw [z2]
    exact ⟨M2, X', ⟨hX', c1.r f2, r2⟩, by rw [e1, cI_x, hw M1 x hx hz, cI_ok, e2, cI_ok, ht, cI_ok, if_pos rfl, if_neg hz]⟩
theorem law_L (hI : INV M X) {x1 : Int32} (h : AgL (fun M => fX11_best M x1) (fun M => fX12_best M x1) kA X) : ∃ M' X', INV M' X' ∧ cI (fL_best M x1) (fun M5 v6 => cL (fX12_best M5 x1) (fun M7 v8 => cI (fX12_thrown M7) (fun M9 v10 => if v10 = v6 then if v6 = 0 then if (lg_cmp (gl M9 121 0) v8) = 0 then B M9 else some (M9, .inr (some (.int 0))) else B M9 else some (M9, .inr (some (.int 0)))) (fun _ _ => none)) (fun _ _ => none)) (fun _ _ => none) = B M' := by
  unfold fL_best
  obtain ⟨X', hX', ⟨v, hc, hr⟩ | ⟨x, ⟨hx, hz⟩, hc, hr⟩⟩ := h
  · obtain ⟨M1, e1, c1, f1⟩ := hc M hI.2.1
    obtain ⟨M2, e2, z2, r2, f2⟩ := hr (sl M1 121 0 v) ((hI.2.2.c f1).sl _)
    have e1 : fX11_best M x1 = okL M1 v := e1
    have e2 : fX12_best (sl M1 121 0 v) x1 = okL M2 v := e2
    have hg : gl M2 121 0 = v := f2.2.2.trans (by rw [gl_sl, if_pos ⟨rfl, rfl⟩])
    have ht : fX12_thrown M2 = okI M2 0 := by unfold fX12_thrown; rw [z2]
    exact ⟨M2, X', ⟨hX', (c1.sl _).r f2, r2⟩, by rw [e1, cL_ok, wr_eq, cI_ok, e2, cL_ok, ht, cI_ok, if_pos rfl, if_pos rfl, hg, if_pos ((lg_cmp_eq _ _).mpr rfl)]⟩
  · obtain ⟨M1, e1, c1, f1⟩ := hc M hI.2.1
    obtain ⟨M2, w, e2, z2, r2, f2⟩ := hr M1 (hI.2.2.c f1)
    have e1 : fX11_best M x1 = some (M1, .inl x) := e1
    have e2 : fX12_best M1 x1 = okL M2 w := e2
    have ht : fX12_thrown M2 = okI M2 (kA x) := by unfold fX12_thrown; rw [z2]
    exact ⟨M2, X', ⟨hX', c1.r f2, r2⟩, by rw [e1, cL_x, hwA M1 x hx hz, cI_ok, e2, cL_ok, ht, cI_ok, if_pos rfl, if_neg hz]⟩
theorem law_E (hI : INV M X) {x1 x2 : Int32} (h : Ag (fun M => fX11_exchange M x1 x2) (fun M => fX12_exchange M x1 x2) kA X) : ∃ M' X', INV M' X' ∧ cI (fL_exchange M x1 x2) (fun M5 v6 => cI (fX12_exchange M5 x1 x2) (fun M7 v8 => cI (fX12_thrown M7) (fun M9 v10 => if v10 = v6 then if v6 = 0 then if v8 = 0 then (if (lg_cmp (gl M9 121 0) 0) = 0 then B M9 else some (M9, .inr (some (.int 0)))) else (if (lg_cmp (gl M9 121 0) 1) = 0 then B M9 else some (M9, .inr (some (.int 0)))) else B M9 else some (M9, .inr (some (.int 0)))) (fun _ _ => none)) (fun _ _ => none)) (fun _ _ => none) = B M' := by
  unfold fL_exchange fL_exchange_b16
  obtain ⟨X', hX', ⟨v, hc, hr⟩ | ⟨x, ⟨hx, hz⟩, hc, hr⟩⟩ := h
  · obtain ⟨M1, e1, c1, f1⟩ := hc M hI.2.1
    have e1 : fX11_exchange M x1 x2 = okI M1 v := e1
    rw [e1, cI_ok, chk_tt (by decide), chk_tt (by decide), wr_eq, wr_eq]
    by_cases c : v = 0
    · obtain ⟨M2, e2, z2, r2, f2⟩ := hr (sl M1 121 0 0) ((hI.2.2.c f1).sl _)
      have e2 : fX12_exchange (sl M1 121 (ix 0) 0) x1 x2 = okI M2 v := e2
      have hg : gl M2 121 0 = 0 := f2.2.2.trans (by rw [gl_sl, if_pos ⟨rfl, rfl⟩])
      have ht : fX12_thrown M2 = okI M2 0 := by unfold fX12_thrown; rw [z2]
      exact ⟨M2, X', ⟨hX', (c1.sl _).r f2, r2⟩, by rw [if_pos c, cI_ok, e2, cI_ok, ht, cI_ok, if_pos rfl, if_pos rfl, if_pos c, hg, if_pos ((lg_cmp_eq _ _).mpr rfl)]⟩
    · obtain ⟨M2, e2, z2, r2, f2⟩ := hr (sl M1 121 0 1) ((hI.2.2.c f1).sl _)
      have e2 : fX12_exchange (sl M1 121 (ix 0) 1) x1 x2 = okI M2 v := e2
      have hg : gl M2 121 0 = 1 := f2.2.2.trans (by rw [gl_sl, if_pos ⟨rfl, rfl⟩])
      have ht : fX12_thrown M2 = okI M2 0 := by unfold fX12_thrown; rw [z2]
      exact ⟨M2, X', ⟨hX', (c1.sl _).r f2, r2⟩, by rw [if_neg c, cI_ok, e2, cI_ok, ht, cI_ok, if_pos rfl, if_pos rfl, if_neg c, hg, if_pos ((lg_cmp_eq _ _).mpr rfl)]⟩
  · obtain ⟨M1, e1, c1, f1⟩ := hc M hI.2.1
    obtain ⟨M2, w, e2, z2, r2, f2⟩ := hr M1 (hI.2.2.c f1)
    have e1 : fX11_exchange M x1 x2 = some (M1, .inl x) := e1
    have e2 : fX12_exchange M1 x1 x2 = okI M2 w := e2
    have ht : fX12_thrown M2 = okI M2 (kA x) := by unfold fX12_thrown; rw [z2]
    exact ⟨M2, X', ⟨hX', c1.r f2, r2⟩, by rw [e1, cI_x, hwA M1 x hx hz, cI_ok, e2, cI_ok, ht, cI_ok, if_pos rfl, if_neg hz]⟩
theorem law_V (hI : INV M X) {cf rf : Mem → RS} (h : AgV cf rf X) : ∃ M' X', INV M' X' ∧ cV (cf M) (fun M1 => cV (rf M1) (fun M3 => B M3) (fun _ _ => none)) (fun _ _ => none) = B M' := by
  obtain ⟨X', hX', hc, hr⟩ := h
  obtain ⟨M1, e1, c1, f1⟩ := hc M hI.2.1
  obtain ⟨M2, e2, r2, f2⟩ := hr M1 (hI.2.2.c f1)
  exact ⟨M2, X', ⟨hX', c1.r f2, r2⟩, by rw [e1, cV_ok, e2, cV_ok]⟩
theorem okI_inj {M M' : Mem} {v v' : Int32} (h : okI M v = okI M' v') : M = M' ∧ v = v' := by
  unfold okI at h
  injection h with h
  injection h with h1 h2
  injection h2 with h2
  injection h2 with h2
  injection h2 with h2
  exact ⟨h1, h2⟩
theorem okI_x {M M' : Mem} {v : Int32} {x : Nat} (h : okI M v = some (M', .inl x)) : False := by
  unfold okI at h
  injection h with h
  injection h with h1 h2
  cases h2
theorem inl_inj {M M' : Mem} {x x' : Nat} (h : (some (M, .inl x) : RS) = some (M', .inl x')) : M = M' ∧ x = x' := by
  injection h with h
  injection h with h1 h2
  injection h2 with h2
  exact ⟨h1, h2⟩
theorem law_W (hI : INV M X) {x1 : Int32} (h : AgW (fun M => fX11_island M x1) (fun M => fX12_island M x1) kB X) : ∃ M' X', INV M' X' ∧ cI (fL_island M x1) (fun M5 v6 => cI (fX12_island M5 x1) (fun M7 v8 => cI (fX12_thrown M7) (fun M9 v10 => if v10 = v6 then if v6 = 0 then if (lg_cmp (gl M9 121 0) (Int32.toInt64 v8)) = 0 then B M9 else some (M9, .inr (some (.int 0))) else B M9 else some (M9, .inr (some (.int 0)))) (fun _ _ => none)) (fun _ _ => none)) (fun _ _ => none) = B M' := by
  unfold fL_island
  obtain ⟨X0, _, ⟨v, M1, _, ⟨e1, _, f1⟩, _⟩ | ⟨x, M1, _, _, ⟨hx, hz⟩, ⟨e1, _, f1⟩, _⟩⟩ := h M M hI.2.1 hI.2.2
  · have e1 : fX11_island M x1 = okI M1 v := e1
    obtain ⟨X', hX', ⟨v', M1', M2, ⟨e1', c1, f1'⟩, e2, z2, r2, f2⟩ | ⟨x, M1', M2, w, _, ⟨e1', _⟩, _⟩⟩ := h M (sl M1 121 0 (Int32.toInt64 v)) hI.2.1 ((hI.2.2.c f1).sl _)
    · have e1' : fX11_island M x1 = okI M1' v' := e1'
      have e2 : fX12_island (sl M1 121 0 (Int32.toInt64 v)) x1 = okI M2 v' := e2
      obtain ⟨q1, q2⟩ := okI_inj (e1.symm.trans e1')
      subst q1
      subst q2
      have hg : gl M2 121 0 = Int32.toInt64 v := f2.2.2.trans (by rw [gl_sl, if_pos ⟨rfl, rfl⟩])
      have ht : fX12_thrown M2 = okI M2 0 := by unfold fX12_thrown; rw [z2]
      exact ⟨M2, X', ⟨hX', (c1.sl _).r f2, r2⟩, by rw [e1, cI_ok, wr_eq, cI_ok, e2, cI_ok, ht, cI_ok, if_pos rfl, if_pos rfl, hg, if_pos ((lg_cmp_eq _ _).mpr rfl)]⟩
    · exact absurd (e1.symm.trans e1') (fun q => okI_x q)
  · have e1 : fX11_island M x1 = some (M1, .inl x) := e1
    obtain ⟨X', hX', ⟨v', M1', M2, ⟨e1', _⟩, _⟩ | ⟨x', M1', M2, w, ⟨hx', hz'⟩, ⟨e1', c1, _⟩, e2, z2, r2, f2⟩⟩ := h M M1 hI.2.1 (hI.2.2.c f1)
    · exact absurd (e1'.symm.trans e1) (fun q => okI_x q)
    · have e1' : fX11_island M x1 = some (M1', .inl x') := e1'
      have e2 : fX12_island M1 x1 = okI M2 w := e2
      obtain ⟨q1, q2⟩ := inl_inj (e1.symm.trans e1')
      subst q1
      subst q2
      have ht : fX12_thrown M2 = okI M2 (kB x) := by unfold fX12_thrown; rw [z2]
      exact ⟨M2, X', ⟨hX', c1.r f2, r2⟩, by rw [e1, cI_x, hwB M1 x hx hz, cI_ok, e2, cI_ok, ht, cI_ok, if_pos rfl, if_neg hz]⟩
end
