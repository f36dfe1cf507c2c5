-- ===== an image, and back =====
section
variable {M : Mem} {I : IS} {L : LV}
def chC (c : Nat) : List Nat := [c + 1, c + 2, c + 3, c + 4, c + 5, c + 6, c + 7, c + 8, c + 9, c + 10, c + 11]
theorem chC_in {c x : Nat} : x ∈ chC c ↔ c + 1 ≤ x ∧ x ≤ c + 11 := by
  unfold chC
  simp only [List.mem_cons, List.not_mem_nil, or_false]
  omega
theorem c_copyAll {c d : Nat} (hcd : c + 11 < d ∨ d + 11 < c) (h : CCc (d + 1) (d + 5) (d + 7) (d + 11) M L) (hO : LOk I L) : ∃ M', fX0_copyFrom c d M = okV M' ∧ CCc (c + 1) (c + 5) (c + 7) (c + 11) M' L ∧ Fr (chC c) M M' := by
  obtain ⟨hS, ⟨o, ho, o1, o2, o3⟩, ⟨q1, q2⟩, hR⟩ := h
  obtain ⟨M1, e1, D1, F1⟩ := c_copy (a := c + 1) hS hO.1.1 (by omega)
  have F1' : Fr (chC c) M M1 := F1.mono (fun x hx => chC_in.mpr (by have := stA_in.mp hx; omega))
  have far : ∀ x, d + 1 ≤ x → x ≤ d + 11 → x ∉ chC c := fun x a b z => by have := chC_in.mp z; omega
  unfold fX0_copyFrom
  rw [e1, bV_ok]
  unfold fX1_copyFrom
  rw [wr_eq, wr_eq, wr_eq, bV_ok]
  obtain ⟨M4, hM4⟩ : ∃ M4, M4 = si (si (scp M1 (d + 5 + 1) 0 (c + 5 + 1) 0 1240) (c + 5) 1 (gi (scp M1 (d + 5 + 1) 0 (c + 5 + 1) 0 1240) (d + 5) 1)) (c + 5) 2 (gi (si (scp M1 (d + 5 + 1) 0 (c + 5 + 1) 0 1240) (c + 5) 1 (gi (scp M1 (d + 5 + 1) 0 (c + 5 + 1) 0 1240) (d + 5) 1)) (d + 5) 2) := ⟨_, rfl⟩
  rw [← hM4]
  have F14 : Fr [c + 5, c + 6] M1 M4 := by rw [hM4]; exact ((Fr.rf.wc (by simp)).wi (by simp)).wi (by simp)
  have F4 : Fr (chC c) M M4 := F1'.tr (F14.mono (fun x hx => chC_in.mpr (by simp at hx; omega)))
  have s1 : ∀ k, gi (scp M1 (d + 5 + 1) 0 (c + 5 + 1) 0 1240) (d + 5) k = gi M (d + 5) k := fun k => by
    rw [gi_scp, if_neg (fun z => by omega)]
    exact F1'.i (far _ (by omega) (by omega)) k
  have r41 : gi M4 (c + 5) 1 = nI o := by rw [hM4, gi_si_k (by decide), gi_si_s, s1]; exact o1
  have r42 : gi M4 (c + 5) 2 = nI (lA L) := by rw [hM4, gi_si_s, gi_si_a (by omega), s1]; exact o2
  have r43 : ∀ j, j < 1240 → gi M4 (c + 6) j = gi M (d + 6) j := fun j hj => by
    rw [hM4, gi_si_a (by omega), gi_si_a (by omega), gi_scp, if_pos ⟨rfl, by omega, by omega⟩, show 0 + (j - 0) = j by omega]
    exact F1'.i (far _ (by omega) (by omega)) j
  -- what is seen
  unfold fX7_copyFrom
  obtain ⟨M5, ⟨F5, g5⟩, e5⟩ := loopI (fun n M k (_ : Nat) => fX7_copyFrom_b2 (c + 7) (d + 7) n M (nI k)) (fun k M' _ => Fr [c + 8, c + 9, c + 10] M4 M' ∧ ∀ j, j < k → gi M' (c + 8) j = gi M (d + 8) j ∧ gi M' (c + 9) j = gi M (d + 9) j ∧ gi M' (c + 10) j = gi M (d + 10) j) 8 (fun _ a => a) (fun M _ => okV (si M (c + 7) 3 (gi M (d + 7) 3)))
    (by
      intro n M5 k a ⟨F5, g5⟩ hk
      have F45 : Fr (chC c) M M5 := F4.tr (F5.mono (fun x hx => chC_in.mpr (by simp at hx; omega)))
      rw [fX7_copyFrom_b2]
      dsimp only
      rw [if_pos (ltL 8 hk (by decide)), ix_nI (by omega)]
      simp only [chk_in hk (show 8 < 2 ^ 31 by decide), wr_eq]
      rw [nI_p1]
      have n1 := fun k => F45.i (far (d + 8) (by omega) (by omega)) k
      have n2 := fun k => F45.i (far (d + 9) (by omega) (by omega)) k
      have n3 := fun k => F45.i (far (d + 10) (by omega) (by omega)) k
      refine ⟨_, ⟨((F5.wi (by simp)).wi (by simp)).wi (by simp), fun j hj => ?_⟩, rfl⟩
      show gi (si (si (si M5 (c + 8) k (gi M5 (d + 8) k)) (c + 9) k _) (c + 10) k _) (c + 8) j = _ ∧ gi (si (si (si M5 (c + 8) k _) (c + 9) k (gi (si M5 (c + 8) k (gi M5 (d + 8) k)) (d + 9) k)) (c + 10) k _) (c + 9) j = _ ∧ gi (si (si (si M5 (c + 8) k _) (c + 9) k _) (c + 10) k (gi (si (si M5 (c + 8) k (gi M5 (d + 8) k)) (c + 9) k (gi (si M5 (c + 8) k (gi M5 (d + 8) k)) (d + 9) k)) (d + 10) k)) (c + 10) j = _
      by_cases e : j = k
      · subst e
        refine ⟨?_, ?_, ?_⟩
        · rw [gi_si_a (by omega), gi_si_a (by omega), gi_si_s, n1]
        · rw [gi_si_a (by omega), gi_si_s, gi_si_a (by omega), n2]
        · rw [gi_si_s, gi_si_a (by omega), gi_si_a (by omega), n3]
      · rw [gi_si_k e, gi_si_k e, gi_si_k e, gi_si_k e, gi_si_k e, gi_si_k e, gi_si_k e, gi_si_k e, gi_si_k e]
        exact g5 j (by omega))
    (by
      intro n M5 a _
      rw [fX7_copyFrom_b2]
      dsimp only
      rw [if_neg (nltL 8 (Nat.le_refl _) (by decide)), wr_eq])
    8 0 (by omega) FU (FU_gt (by omega)) M4 0 ⟨Fr.rf, fun j hj => by omega⟩
  have e5 : fX7_copyFrom_b2 (c + 7) (d + 7) FU M4 0 = okV (si M5 (c + 7) 3 (gi M5 (d + 7) 3)) := e5
  rw [e5, bV_ok]
  have F46 : Fr [c + 7, c + 8, c + 9, c + 10] M4 (si M5 (c + 7) 3 (gi M5 (d + 7) 3)) := (F5.mono (fun x hx => by simp at hx ⊢; omega)).wi (by simp)
  have F6 : Fr (chC c) M (si M5 (c + 7) 3 (gi M5 (d + 7) 3)) := F4.tr (F46.mono (fun x hx => chC_in.mpr (by simp at hx; omega)))
  have s3 : gi M5 (d + 7) 3 = gi M (d + 7) 3 := by
    have F45 : Fr (chC c) M M5 := F4.tr (F5.mono (fun x hx => chC_in.mpr (by simp at hx; omega)))
    exact F45.i (far _ (by omega) (by omega)) 3
  -- status
  obtain ⟨M7, ⟨F7, g7⟩, e7⟩ := loopI (fun n M k (_ : Nat) => fX0_copyFrom_b35 c d n M (nI k)) (fun k M' _ => Fr [c + 11] (si M5 (c + 7) 3 (gi M5 (d + 7) 3)) M' ∧ ∀ j, j < k → gi M' (c + 11) j = gi M (d + 11) j) 3 (fun _ a => a) (fun M _ => okV M)
    (by
      intro n M7 k a ⟨F7, g7⟩ hk
      rw [fX0_copyFrom_b35]
      dsimp only
      rw [if_pos (ltL 3 hk (by decide)), ix_nI (by omega), chk_in hk (by decide), chk_in hk (by decide), wr_eq, nI_p1]
      refine ⟨_, ⟨F7.wi (by simp), fun j hj => ?_⟩, rfl⟩
      by_cases e : j = k
      · rw [e, gi_si_s, F7.i (by simp; omega)]
        exact F6.i (far _ (by omega) (by omega)) k
      · rw [gi_si_k e]; exact g7 j (by omega))
    (by
      intro n M7 a _
      rw [fX0_copyFrom_b35]
      dsimp only
      rw [if_neg (nltL 3 (Nat.le_refl _) (by decide))])
    3 0 (by omega) FU (FU_gt (by omega)) _ 0 ⟨Fr.rf, fun j hj => by omega⟩
  have FF : Fr (chC c) M M7 := F6.tr (F7.mono (fun x hx => chC_in.mpr (by simp at hx; omega)))
  have t : ∀ x, x ≤ c + 4 ∨ x = c + 5 ∨ x = c + 6 → ∀ k, gi M7 x k = gi M4 x k := fun x hx k => by
    rw [F7.i (by simp; omega), F46.i (by simp; omega)]
  refine ⟨M7, e7, ⟨?_, ⟨o, ho, ?_, ?_, fun k hk => ?_⟩, ⟨?_, fun k hk => ?_⟩, fun k hk => (g7 k hk).trans (hR k hk)⟩, FF⟩
  · have := D1.eq (M' := M7) (fun k => by rw [t _ (by omega), F14.i (by simp)]) (fun k => by rw [t _ (by omega), F14.i (by simp)]) (fun k => by rw [t _ (by omega), F14.i (by simp)]) (fun k => by rw [t _ (by omega), F14.i (by simp)])
    exact this
  · rw [t _ (by omega)]; exact r41
  · rw [t _ (by omega)]; exact r42
  · have := hO.2.1.1
    refine (o3 k hk).at (hO.2.1.2 k hk).1 (fun j hj => ?_)
    show gi M7 (c + 6) _ = gi M (d + 6) _
    rw [t _ (by omega)]
    exact r43 _ (by omega)
  · rw [F7.i (by simp), gi_si_s, s3]; exact q1
  · have h8 : k < 8 := by have := hO.2.2.1; omega
    have := g5 k h8
    have b : ∀ x, x = c + 8 ∨ x = c + 9 ∨ x = c + 10 → gi M7 x k = gi M5 x k := fun x hx => by rw [F7.i (by simp; omega), gi_si_a (by omega)]
    show gi M7 (c + 8) k = _ ∧ gi M7 (c + 9) k = _ ∧ gi M7 (c + 10) k = _
    rw [b _ (by omega), b _ (by omega), b _ (by omega), this.1, this.2.1, this.2.2]
    exact q2 k hk
theorem r_copyTo {a b n : Nat} (hab : a ≠ b) (ha : (kd a).2 = n) (hb : (kd b).2 = n) (hn : n < 99999) : ∃ M', fX12_copyTo a b M = okV M' ∧ Fr [a] M M' ∧ ∀ k, k < n → gi M' a k = gi M b k := by
  unfold fX12_copyTo
  obtain ⟨M', ⟨F', g'⟩, e'⟩ := loopI (fun d M k (_ : Nat) => fX12_copyTo_b2 a b d M (nI k)) (fun k M' _ => Fr [a] M M' ∧ ∀ j, j < k → gi M' a j = gi M b j) n (fun _ x => x) (fun M _ => okV M)
    (by
      intro d M1 k x ⟨F1, g1⟩ hk
      rw [fX12_copyTo_b2]
      dsimp only
      rw [ha, hb, if_pos (show nI k < Int32.ofNat n from nI_lt hk (by omega)), chk_in hk (by omega), chk_in hk (by omega), ix_nI (by omega), wr_eq, nI_p1]
      refine ⟨_, ⟨F1.wi (by simp), fun j hj => ?_⟩, rfl⟩
      by_cases e : j = k
      · rw [e, gi_si_s, F1.i (by simp; exact fun z => hab z.symm)]
      · rw [gi_si_k e]; exact g1 j (by omega))
    (by
      intro d M1 x _
      rw [fX12_copyTo_b2]
      dsimp only
      rw [ha, if_neg (show ¬ nI n < Int32.ofNat n from nI_nlt (Nat.le_refl _) (by omega))])
    n 0 (by omega) FU (FU_gt (by omega)) M 0 ⟨Fr.rf, fun j hj => by omega⟩
  exact ⟨M', e', F', g'⟩
end
