-- ===== image, restore =====
section
variable {X : WX}
def setG (X : WX) (L : LV) : WX := (xI X, xE X, xL X, some L, (xN X, xT X), xF X)
theorem a_image (hX : WOk X) : AgV (fun M => fX11_image M) (fun M => fX12_image M) X := by
  have hL := hX.2.2.1
  refine ⟨setG X (xL X), ⟨hX.1, hX.2.1, hL, fun L e => by cases e; exact hL, hX.2.2.2.2⟩, fun M hM => ?_, fun M hM => ?_⟩
  · obtain ⟨M1, e1, C1, F1⟩ := c_copyAll (c := 50) (d := 38) (by decide) hM.2.1 hL
    have F2 : Fr (0 :: chC 50) M (si M1 0 9 1) := (F1.mono (fun x hx => List.mem_cons_of_mem _ hx)).wi (by simp)
    have e : ∀ x, x ∉ (0 :: chC 50) → ∀ k, gi (si M1 0 9 1) x k = gi M x k := fun x hx k => F2.i hx k
    refine ⟨si M1 0 9 1, ?_, ⟨⟨hM.1.1.eq (fun x hx _ _ _ _ _ _ h0 _ => e x (by
        intro c
        rcases List.mem_cons.mp c with c | c
        · exact h0 c
        · have := chC_in.mp c; omega)) (F2.b 0), by rw [F2.b 0, F2.b 1]; exact hM.1.2⟩, hM.2.1.eq (fun x hx k => e x (by revert x; unfold scrW chC; decide) k), ⟨gi_si_s, fun L eL => ?_⟩, ⟨(e 1 (by unfold chC; decide) _).trans hM.2.2.2.1.1, fun k hk => (e 2 (by unfold chC; decide) k).trans (hM.2.2.2.1.2 k hk)⟩, (e 17 (by unfold chC; decide) _).trans hM.2.2.2.2⟩, fun a ha k => e a (by
          intro c
          rcases List.mem_cons.mp c with c | c
          · omega
          · have := chC_in.mp c; omega) k⟩
    · show fX11_image M = _
      unfold fX11_image
      rw [e1, bV_ok, wr_eq]
    · cases eL
      obtain ⟨g2, g3, g4, g5⟩ := C1
      exact ⟨g2.eq (fun _ => gi_si_a (by decide)) (fun _ => gi_si_a (by decide)) (fun _ => gi_si_a (by decide)) (fun _ => gi_si_a (by decide)), g3.eq (fun _ => gi_si_a (by decide)) (fun _ => gi_si_a (by decide)), g4.eq (fun _ => gi_si_a (by decide)) (fun _ => gi_si_a (by decide)) (fun _ => gi_si_a (by decide)) (fun _ => gi_si_a (by decide)), fun k hk => (gi_si_a (by decide)).trans (g5 k hk)⟩
  · have R0 := hM.z0
    obtain ⟨hS, ⟨hA, hH⟩, ⟨hm, hQ⟩, hR⟩ := R0.2.1
    obtain ⟨M4, hM4⟩ : ∃ M4, M4 = si (si (si (si M 87 3 0) 87 51 1) 87 52 (nI (lA (xL X)))) 87 53 (nI (lM (xL X))) := ⟨_, rfl⟩
    have F4 : Fr [87] (si M 87 3 0) M4 := by rw [hM4]; exact ((Fr.rf.wi (by decide)).wi (by decide)).wi (by decide)
    have m4 : ∀ k, k ≠ 51 → k ≠ 52 → k ≠ 53 → gi M4 87 k = gi (si M 87 3 0) 87 k := fun k a b c => by rw [hM4, gi_si_k c, gi_si_k b, gi_si_k a]
    have S4 : DRf M4 (lS (xL X)) := hS.eq (fun k _ _ => m4 k (by omega) (by omega) (by omega)) (F4.i (by decide)) (F4.i (by decide)) (F4.i (by decide))
    obtain ⟨M5, e5, P5, F5, _⟩ := r_pack (b := 115) (p := 0) S4 (by decide) (by rw [kd115]; decide) (by decide)
    obtain ⟨M6, e6, F6, g6⟩ := r_copyTo (M := M5) (a := 116) (b := 105) (n := 1240) (by decide) rfl rfl (by decide)
    obtain ⟨M7, e7, F7, g7⟩ := r_copyTo (M := M6) (a := 117) (b := 112) (n := 8) (by decide) rfl rfl (by decide)
    obtain ⟨M8, e8, F8, g8⟩ := r_copyTo (M := M7) (a := 118) (b := 113) (n := 8) (by decide) rfl rfl (by decide)
    obtain ⟨M9, e9, F9, g9⟩ := r_copyTo (M := M8) (a := 119) (b := 114) (n := 8) (by decide) rfl rfl (by decide)
    obtain ⟨Ma, ea, Fa, ga⟩ := r_copyTo (M := M9) (a := 120) (b := 100) (n := 3) (by decide) rfl rfl (by decide)
    have FF : Fr [87, 115, 116, 117, 118, 119, 120] (si M 87 3 0) Ma := ((((((F4.mono (by decide)).tr (F5.mono (by decide))).tr (F6.mono (by decide))).tr (F7.mono (by decide))).tr (F8.mono (by decide))).tr (F9.mono (by decide))).tr (Fa.mono (by decide))
    have F5a : Fr [116, 117, 118, 119, 120] M5 Ma := ((((F6.mono (by decide)).tr (F7.mono (by decide))).tr (F8.mono (by decide))).tr (F9.mono (by decide))).tr (Fa.mono (by decide))
    have m : ∀ k, gi Ma 87 k = gi M4 87 k := fun k => by rw [F5a.i (by decide), F5.i (by decide)]
    have e : ∀ x, x ∉ [87, 115, 116, 117, 118, 119, 120] → ∀ k, gi Ma x k = gi (si M 87 3 0) x k := fun x hx k => FF.i hx k
    refine ⟨Ma, ?_, ⟨R0.1.eq (fun x h1 h2 => e x (by
        simp only [List.mem_cons, List.not_mem_nil, or_false]
        omega)), ⟨hS.eq (fun k _ _ => by rw [m, m4 k (by omega) (by omega) (by omega)]) (e 102 (by decide)) (e 103 (by decide)) (e 104 (by decide)), ⟨by rw [m, m4 38 (by decide) (by decide) (by decide)]; exact hA, hH.eq (e 105 (by decide))⟩, ⟨by rw [m, m4 39 (by decide) (by decide) (by decide)]; exact hm, hQ.eq (e 112 (by decide)) (e 113 (by decide)) (e 114 (by decide))⟩, fun k hk => (e 100 (by decide) k).trans (hR k hk)⟩, ⟨?_, fun L eL => ?_⟩, ⟨by rw [m, m4 16 (by decide) (by decide) (by decide)]; exact R0.2.2.2.1.1, fun k hk => (e 101 (by decide) k).trans (R0.2.2.2.1.2 k hk)⟩, by rw [m, m4 25 (by decide) (by decide) (by decide)]; exact R0.2.2.2.2.1, by rw [m, m4 42 (by decide) (by decide) (by decide)]; exact R0.2.2.2.2.2⟩, FrR.rf.z.tr (FF.R (by decide))⟩
    · show fX12_image M = _
      unfold fX12_image
      rw [wr_eq, wr_eq, wr_eq, wr_eq]
      rw [show gi (si (si M 87 3 0) 87 51 1) 87 38 = nI (lA (xL X)) by rw [gi_si_k (by decide)]; exact hA]
      rw [show gi (si (si (si M 87 3 0) 87 51 1) 87 52 (nI (lA (xL X)))) 87 39 = nI (lM (xL X)) by rw [gi_si_k (by decide), gi_si_k (by decide)]; exact hm]
      rw [← hM4, show fX12_pack 115 M4 0 = okV M5 from e5, bV_ok, e6, bV_ok, e7, bV_ok, e8, bV_ok, e9, bV_ok, ea, bV_ok]
    · rw [m, hM4, gi_si_k (by decide), gi_si_k (by decide), gi_si_s]; rfl
    · cases eL
      have hl40 := hL.2.1.1
      have hl8 := hL.2.2.1
      refine ⟨P5.at (fun j _ => F5a.i (by decide) _), ⟨by rw [m, hM4, gi_si_k (by decide), gi_si_s], fun k hk => ?_⟩, ⟨by rw [m, hM4, gi_si_s], fun k hk => ?_⟩, fun k hk => ?_⟩
      · refine (hH k hk).at (fun j hj => ?_)
        rw [Fa.i (by decide), F9.i (by decide), F8.i (by decide), F7.i (by decide), g6 _ (by omega), F5.i (by decide), F4.i (by decide)]
      · have := hQ k hk
        refine ⟨?_, ?_, ?_⟩
        · rw [Fa.i (by decide), F9.i (by decide), F8.i (by decide), g7 k (by omega), F6.i (by decide), F5.i (by decide), F4.i (by decide)]; exact this.1
        · show gi Ma 118 k = _
          rw [Fa.i (by decide), F9.i (by decide), g8 k (by omega), F7.i (by decide), F6.i (by decide), F5.i (by decide), F4.i (by decide)]; exact this.2.1
        · show gi Ma 119 k = _
          rw [Fa.i (by decide), g9 k (by omega), F8.i (by decide), F7.i (by decide), F6.i (by decide), F5.i (by decide), F4.i (by decide)]; exact this.2.2
      · rw [ga k hk, F9.i (by decide), F8.i (by decide), F7.i (by decide), F6.i (by decide), F5.i (by decide), F4.i (by decide)]; exact hR k hk
theorem a_restore (hX : WOk X) : Ag (fun M => fX11_restore M) (fun M => fX12_restore M) k0 X := by
  cases hG : xG X with
  | none =>
    refine ⟨X, hX, Or.inl ⟨0, fun M hM => ⟨M, ?_, hM, FrC.rf⟩, fun M hM => ⟨si M 87 3 0, ?_, gi_si_s, hM.z0, FrR.rf.z⟩⟩⟩
    · show fX11_restore M = _
      unfold fX11_restore
      rw [hM.2.2.1.1, hG, if_pos rfl, if_pos rfl]
    · show fX12_restore M = _
      unfold fX12_restore
      rw [wr_eq, hM.z0.2.2.1.1, hG, if_pos rfl, if_pos rfl]
  | some L =>
    have hL := hX.2.2.2.1 L hG
    have ne : ¬ xG X = none := by rw [hG]; intro c; cases c
    refine ⟨setL X L, hX.l hL, Or.inl ⟨1, fun M hM => ?_, fun M hM => ?_⟩⟩
    · obtain ⟨M1, e1, C1, F1⟩ := c_copyAll (c := 38) (d := 50) (by decide) (hM.2.2.1.2 L hG) hL
      have FF : Fr (scrW ++ scrQ) M M1 := F1.mono (by unfold chC scrW scrQ; decide)
      refine ⟨M1, ?_, hM.l FF C1, FF.C (by unfold scrW scrQ; decide)⟩
      show fX11_restore M = _
      unfold fX11_restore
      rw [hM.2.2.1.1, if_neg ne, if_neg n10, e1, bV_ok]
    · have R0 := hM.z0
      obtain ⟨P0, ⟨hA, hH⟩, ⟨hm, hQ⟩, hR⟩ := R0.2.2.1.2 L hG
      have hl40 := hL.2.1.1
      have hl8 := hL.2.2.1
      obtain ⟨M3, hM3⟩ : ∃ M3, M3 = si (si (si M 87 3 0) 87 38 (nI (lA L))) 87 39 (nI (lM L)) := ⟨_, rfl⟩
      have F3 : Fr [87] (si M 87 3 0) M3 := by rw [hM3]; exact (Fr.rf.wi (by decide)).wi (by decide)
      have m3 : ∀ k, k ≠ 38 → k ≠ 39 → gi M3 87 k = gi (si M 87 3 0) 87 k := fun k a b => by rw [hM3, gi_si_k b, gi_si_k a]
      obtain ⟨M5, e5, D5, F5, s5⟩ := r_unpack (M := M3) (b := 115) (p := 0) (P0.at (fun j _ => F3.i (by decide) _)) (by decide) (by rw [kd115]; decide) (by decide)
      obtain ⟨M6, e6, F6, g6⟩ := r_copyTo (M := M5) (a := 105) (b := 116) (n := 1240) (by decide) rfl rfl (by decide)
      obtain ⟨M7, e7, F7, g7⟩ := r_copyTo (M := M6) (a := 112) (b := 117) (n := 8) (by decide) rfl rfl (by decide)
      obtain ⟨M8, e8, F8, g8⟩ := r_copyTo (M := M7) (a := 113) (b := 118) (n := 8) (by decide) rfl rfl (by decide)
      obtain ⟨M9, e9, F9, g9⟩ := r_copyTo (M := M8) (a := 114) (b := 119) (n := 8) (by decide) rfl rfl (by decide)
      obtain ⟨Ma, ea, Fa, ga⟩ := r_copyTo (M := M9) (a := 100) (b := 120) (n := 3) (by decide) rfl rfl (by decide)
      have F5a : Fr [105, 112, 113, 114, 100] M5 Ma := ((((F6.mono (by decide)).tr (F7.mono (by decide))).tr (F8.mono (by decide))).tr (F9.mono (by decide))).tr (Fa.mono (by decide))
      have FF : Fr scrM (si M 87 3 0) Ma := ((F3.mono (by unfold scrM; decide)).tr (F5.mono (by unfold scrM; decide))).tr (F5a.mono (by unfold scrM; decide))
      have m : ∀ k, k < 31 ∨ 37 < k → k ≠ 38 → k ≠ 39 → gi Ma 87 k = gi (si M 87 3 0) 87 k := fun k a b c => by rw [F5a.i (by decide), s5 k a, m3 k b c]
      refine ⟨Ma, ?_, by rw [m 3 (by decide) (by decide) (by decide), gi_si_s], R0.l FF (fun k hk => m k (by revert k; decide) (by revert k; decide) (by revert k; decide)) ⟨D5.eq (fun k _ _ => F5a.i (by decide) k) (F5a.i (by decide)) (F5a.i (by decide)) (F5a.i (by decide)), ⟨?_, fun k hk => ?_⟩, ⟨?_, fun k hk => ?_⟩, fun k hk => ?_⟩, FrR.rf.z.tr (FF.R (by unfold scrM; decide))⟩
      · show fX12_restore M = _
        unfold fX12_restore
        rw [wr_eq, R0.2.2.1.1, if_neg ne, if_neg n10, wr_eq, wr_eq, hA, show gi (si (si M 87 3 0) 87 38 (nI (lA L))) 87 53 = nI (lM L) by rw [gi_si_k (by decide)]; exact hm]
        rw [← hM3, show fX12_unpack 115 M3 0 = okV M5 from e5, bV_ok, e6, bV_ok, e7, bV_ok, e8, bV_ok, e9, bV_ok, ea, bV_ok]
      · rw [F5a.i (by decide), s5 38 (by decide), hM3, gi_si_k (by decide), gi_si_s]
      · refine (hH k hk).at (fun j hj => ?_)
        rw [Fa.i (by decide), F9.i (by decide), F8.i (by decide), F7.i (by decide), g6 _ (by omega), F5.i (by decide), F3.i (by decide)]
      · rw [F5a.i (by decide), s5 39 (by decide), hM3, gi_si_s]
      · have := hQ k hk
        refine ⟨?_, ?_, ?_⟩
        · rw [Fa.i (by decide), F9.i (by decide), F8.i (by decide), g7 k (by omega), F6.i (by decide), F5.i (by decide), F3.i (by decide)]; exact this.1
        · show gi Ma 113 k = _
          rw [Fa.i (by decide), F9.i (by decide), g8 k (by omega), F7.i (by decide), F6.i (by decide), F5.i (by decide), F3.i (by decide)]; exact this.2.1
        · show gi Ma 114 k = _
          rw [Fa.i (by decide), g9 k (by omega), F8.i (by decide), F7.i (by decide), F6.i (by decide), F5.i (by decide), F3.i (by decide)]; exact this.2.2
      · rw [ga k hk, F9.i (by decide), F8.i (by decide), F7.i (by decide), F6.i (by decide), F5.i (by decide), F3.i (by decide)]; exact hR k hk
end
