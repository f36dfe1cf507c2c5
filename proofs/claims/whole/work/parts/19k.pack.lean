-- ===== states kept: the class's row and the reference's =====
theorem np2 (p : Nat) : nI p + 2 = nI (p + 2) := nadd p 2
theorem np3 (p : Nat) : nI p + 3 = nI (p + 3) := nadd p 3
theorem np4 (p : Nat) : nI p + 4 = nI (p + 4) := nadd p 4
theorem np5 (p : Nat) : nI p + 5 = nI (p + 5) := nadd p 5
theorem np6 (p : Nat) : nI p + 6 = nI (p + 6) := nadd p 6
theorem np7 (p : Nat) : nI p + 7 = nI (p + 7) := nadd p 7
theorem np8 (p : Nat) : nI p + 8 = nI (p + 8) := nadd p 8
theorem np16 (p : Nat) : nI p + 16 = nI (p + 16) := nadd p 16
/-- the class's row at p of b -/
def PC (M : Mem) (b p : Nat) (S : DS) : Prop :=
  (gi M b p = nI (dL S) ∧ gi M b (p + 1) = nI (dG S) ∧ gi M b (p + 2) = dX S ∧ gi M b (p + 3) = dY S ∧ gi M b (p + 4) = nI (dN S) ∧ gi M b (p + 5) = dT S ∧ gi M b (p + 6) = dC S) ∧
  (dO S 8 = 8 → ∀ k, k < 8 → gi M b (p + 7 + dO S k) = nI k) ∧ (dO S 8 = 8 → ∀ h, h < 8 → gi M b (p + 7 + 8 + h) = shE (dH S h)) ∧ ∀ h, h < 8 → gi M b (p + 7 + 16 + h) = nI (dR S h)
/-- the reference's row at p of b -/
def PK (M : Mem) (b p : Nat) (S : DS) : Prop :=
  (gi M b p = nI (dN S) ∧ gi M b (p + 1) = nI (dG S) ∧ gi M b (p + 2) = dT S ∧ gi M b (p + 3) = dC S ∧ gi M b (p + 4) = nI (dL S) ∧ gi M b (p + 5) = dX S ∧ gi M b (p + 6) = dY S) ∧
  (∀ h, h < 8 → gi M b (p + 7 + h) = nI (dR S h)) ∧ (dO S 8 = 8 → ∀ h, h < 8 → gi M b (p + 7 + 8 + h) = shE (dH S h)) ∧ (dO S 8 = 8 → ∀ k, k < 8 → gi M b (p + 7 + 16 + k) = nI (dO S k))
theorem PC.at {M M' : Mem} {b b' p p' : Nat} {S : DS} {I : IS} (h : PC M b p S) (hO : DOk I S) (e : ∀ k, k < 31 → gi M' b' (p' + k) = gi M b (p + k)) : PC M' b' p' S := by
  obtain ⟨⟨a0, a1, a2, a3, a4, a5, a6⟩, b1, b2, b3⟩ := h
  refine ⟨⟨?_, ?_, ?_, ?_, ?_, ?_, ?_⟩, fun z k hk => ?_, fun z k hk => ?_, fun k hk => ?_⟩
  · have := e 0 (by omega); rw [Nat.add_zero, Nat.add_zero] at this; rw [this]; exact a0
  · rw [e 1 (by omega)]; exact a1
  · rw [e 2 (by omega)]; exact a2
  · rw [e 3 (by omega)]; exact a3
  · rw [e 4 (by omega)]; exact a4
  · rw [e 5 (by omega)]; exact a5
  · rw [e 6 (by omega)]; exact a6
  · have := hO.2.1.1 k hk
    rw [Nat.add_assoc, e _ (by omega), ← Nat.add_assoc]; exact b1 z k hk
  · rw [Nat.add_assoc, Nat.add_assoc, e _ (by omega), ← Nat.add_assoc, ← Nat.add_assoc]; exact b2 z k hk
  · rw [Nat.add_assoc, Nat.add_assoc, e _ (by omega), ← Nat.add_assoc, ← Nat.add_assoc]; exact b3 k hk
theorem PK.at {M M' : Mem} {b b' p p' : Nat} {S : DS} (h : PK M b p S) (e : ∀ k, k < 31 → gi M' b' (p' + k) = gi M b (p + k)) : PK M' b' p' S := by
  obtain ⟨⟨a0, a1, a2, a3, a4, a5, a6⟩, b1, b2, b3⟩ := h
  refine ⟨⟨?_, ?_, ?_, ?_, ?_, ?_, ?_⟩, fun k hk => ?_, fun z k hk => ?_, fun z k hk => ?_⟩
  · have := e 0 (by omega); rw [Nat.add_zero, Nat.add_zero] at this; rw [this]; exact a0
  · rw [e 1 (by omega)]; exact a1
  · rw [e 2 (by omega)]; exact a2
  · rw [e 3 (by omega)]; exact a3
  · rw [e 4 (by omega)]; exact a4
  · rw [e 5 (by omega)]; exact a5
  · rw [e 6 (by omega)]; exact a6
  · rw [Nat.add_assoc, e _ (by omega), ← Nat.add_assoc]; exact b1 k hk
  · rw [Nat.add_assoc, Nat.add_assoc, e _ (by omega), ← Nat.add_assoc, ← Nat.add_assoc]; exact b2 z k hk
  · rw [Nat.add_assoc, Nat.add_assoc, e _ (by omega), ← Nat.add_assoc, ← Nat.add_assoc]; exact b3 z k hk
/-- three rows of eight are written to b, from p + 7 on -/
theorem loop3 {F : Nat → Mem → Nat → RS} {M : Mem} {b p c1 c2 c3 : Nat} (h1 : b ≠ c1) (h2 : b ≠ c2) (h3 : b ≠ c3)
    (hs : ∀ n M k, k < 8 → F (n + 1) M k = F n (si (si (si M b (p + 7 + k) (gi M c1 k)) b (p + 7 + 8 + k) (gi M c2 k)) b (p + 7 + 16 + k) (gi M c3 k)) (k + 1))
    (he : ∀ n M, F (n + 1) M 8 = okV M) :
    ∃ M', F FU M 0 = okV M' ∧ Fr [b] M M' ∧ (∀ k, k < p + 7 ∨ p + 31 ≤ k → gi M' b k = gi M b k) ∧ ∀ k, k < 8 → gi M' b (p + 7 + k) = gi M c1 k ∧ gi M' b (p + 7 + 8 + k) = gi M c2 k ∧ gi M' b (p + 7 + 16 + k) = gi M c3 k := by
  obtain ⟨M', ⟨hF, ho, hc⟩, e'⟩ := loopI (fun n M k (_ : Nat) => F n M k) (fun k M' _ => Fr [b] M M' ∧ (∀ k, k < p + 7 ∨ p + 31 ≤ k → gi M' b k = gi M b k) ∧ ∀ j, j < k → gi M' b (p + 7 + j) = gi M c1 j ∧ gi M' b (p + 7 + 8 + j) = gi M c2 j ∧ gi M' b (p + 7 + 16 + j) = gi M c3 j) 8 (fun _ x => x) (fun M _ => okV M)
    (by
      intro n M1 k x ⟨hF, ho, hc⟩ hk
      refine ⟨_, ⟨((hF.wi (by simp)).wi (by simp)).wi (by simp), fun j hj => ?_, fun j hj => ?_⟩, hs n M1 k hk⟩
      · rw [gi_si_k (by omega), gi_si_k (by omega), gi_si_k (by omega)]; exact ho j hj
      · have n1 := hF.i (a := c1) (by simp; exact fun c => h1 c.symm) j
        have n2 := hF.i (a := c2) (by simp; exact fun c => h2 c.symm) j
        have n3 := hF.i (a := c3) (by simp; exact fun c => h3 c.symm) j
        by_cases e : j = k
        · subst e
          refine ⟨?_, ?_, ?_⟩
          · rw [gi_si_k (by omega), gi_si_k (by omega), gi_si_s, n1]
          · rw [gi_si_k (by omega), gi_si_s, n2]
          · rw [gi_si_s, n3]
        · refine ⟨?_, ?_, ?_⟩
          · rw [gi_si_k (by omega), gi_si_k (by omega), gi_si_k (by omega)]; exact (hc j (by omega)).1
          · rw [gi_si_k (by omega), gi_si_k (by omega), gi_si_k (by omega)]; exact (hc j (by omega)).2.1
          · rw [gi_si_k (by omega), gi_si_k (by omega), gi_si_k (by omega)]; exact (hc j (by omega)).2.2)
    (by
      intro n M1 x _
      exact he n M1)
    8 0 (by omega) FU (FU_gt (by omega)) M 0 ⟨Fr.rf, fun _ _ => rfl, fun j hj => by omega⟩
  exact ⟨M', e', hF, ho, hc⟩
/-- three rows of eight are read from b, from p + 7 on -/
theorem loop3r {F : Nat → Mem → Nat → RS} {M : Mem} {b p c1 c2 c3 : Nat} (h1 : b ≠ c1) (h2 : b ≠ c2) (h3 : b ≠ c3) (h12 : c1 ≠ c2) (h13 : c1 ≠ c3) (h23 : c2 ≠ c3)
    (hs : ∀ n M k, k < 8 → F (n + 1) M k = F n (si (si (si M c1 k (gi M b (p + 7 + k))) c2 k (gi M b (p + 7 + 8 + k))) c3 k (gi M b (p + 7 + 16 + k))) (k + 1))
    (he : ∀ n M, F (n + 1) M 8 = okV M) :
    ∃ M', F FU M 0 = okV M' ∧ Fr [c1, c2, c3] M M' ∧ ∀ k, k < 8 → gi M' c1 k = gi M b (p + 7 + k) ∧ gi M' c2 k = gi M b (p + 7 + 8 + k) ∧ gi M' c3 k = gi M b (p + 7 + 16 + k) := by
  obtain ⟨M', ⟨hF, hc⟩, e'⟩ := loopI (fun n M k (_ : Nat) => F n M k) (fun k M' _ => Fr [c1, c2, c3] M M' ∧ ∀ j, j < k → gi M' c1 j = gi M b (p + 7 + j) ∧ gi M' c2 j = gi M b (p + 7 + 8 + j) ∧ gi M' c3 j = gi M b (p + 7 + 16 + j)) 8 (fun _ x => x) (fun M _ => okV M)
    (by
      intro n M1 k x ⟨hF, hc⟩ hk
      refine ⟨_, ⟨((hF.wi (by simp)).wi (by simp)).wi (by simp), fun j hj => ?_⟩, hs n M1 k hk⟩
      have nb := fun j => hF.i (a := b) (by simp; exact ⟨h1, h2, h3⟩) j
      by_cases e : j = k
      · subst e
        refine ⟨?_, ?_, ?_⟩
        · rw [gi_si_a h13, gi_si_a h12, gi_si_s, nb]
        · rw [gi_si_a h23, gi_si_s, nb]
        · rw [gi_si_s, nb]
      · rw [gi_si_k e, gi_si_k e, gi_si_k e, gi_si_k e, gi_si_k e, gi_si_k e, gi_si_k e, gi_si_k e, gi_si_k e]
        exact hc j (by omega))
    (by
      intro n M1 x _
      exact he n M1)
    8 0 (by omega) FU (FU_gt (by omega)) M 0 ⟨Fr.rf, fun j hj => by omega⟩
  exact ⟨M', e', hF, hc⟩
section
variable {M : Mem} {I : IS} {S : DS} {b p : Nat}
theorem r_pack (hS : DRf M S) (hb : b ∉ [87, 102, 103, 104]) (hp : p + 31 ≤ (kd b).2) (hN : (kd b).2 < 2 ^ 31) :
    ∃ M', fX12_pack b M (nI p) = okV M' ∧ PK M' b p S ∧ Fr [b] M M' ∧ ∀ k, k < p ∨ p + 31 ≤ k → gi M' b k = gi M b k := by
  simp only [List.mem_cons, List.not_mem_nil, or_false, not_or] at hb
  obtain ⟨n1, n2, n3, n4⟩ := hb
  obtain ⟨⟨a0, a1, a2, a3, a4, a5, a6⟩, b1, b2, b3⟩ := hS
  have n1 : 87 ≠ b := fun c => n1 c.symm
  unfold fX12_pack
  simp only [nI_p1, np2, np3, np4, np5, np6, chk_in (show p < (kd b).2 by omega) hN, chk_in (show p + 1 < (kd b).2 by omega) hN, chk_in (show p + 2 < (kd b).2 by omega) hN, chk_in (show p + 3 < (kd b).2 by omega) hN, chk_in (show p + 4 < (kd b).2 by omega) hN, chk_in (show p + 5 < (kd b).2 by omega) hN, chk_in (show p + 6 < (kd b).2 by omega) hN, wr_eq, gi_si_a n1, a0, a1, a2, a3, a4, a5, a6, ix_nI (show p < 2 ^ 31 by omega), ix_nI (show p + 1 < 2 ^ 31 by omega), ix_nI (show p + 2 < 2 ^ 31 by omega), ix_nI (show p + 3 < 2 ^ 31 by omega), ix_nI (show p + 4 < 2 ^ 31 by omega), ix_nI (show p + 5 < 2 ^ 31 by omega), ix_nI (show p + 6 < 2 ^ 31 by omega)]
  obtain ⟨M7, hM7⟩ : ∃ M7, M7 = si (si (si (si (si (si (si M b p (nI (dN S))) b (p + 1) (nI (dG S))) b (p + 2) (dT S)) b (p + 3) (dC S)) b (p + 4) (nI (dL S))) b (p + 5) (dX S)) b (p + 6) (dY S) := ⟨_, rfl⟩
  rw [← hM7]
  have F7 : Fr [b] M M7 := by
    have q : b ∈ [b] := by simp
    rw [hM7]
    exact ((((((Fr.rf.wi q).wi q).wi q).wi q).wi q).wi q).wi q
  obtain ⟨M', e', F', ho, hc⟩ := loop3 (F := fun n M k => fX12_pack_b64 b n M (nI p) (nI k)) (M := M7) (b := b) (p := p) (c1 := 102) (c2 := 103) (c3 := 104) n2 n3 n4
    (by
      intro n M1 k hk
      show fX12_pack_b64 b (n + 1) M1 (nI p) (nI k) = _
      rw [fX12_pack_b64]
      dsimp only
      rw [if_pos (ltL 8 hk (by decide))]
      simp only [np7, np8, np16, nadd, nI_p1, chk_in hk (show 8 < 2 ^ 31 by decide), chk_in (show p + 7 + k < (kd b).2 by omega) hN, chk_in (show p + 7 + 8 + k < (kd b).2 by omega) hN, chk_in (show p + 7 + 16 + k < (kd b).2 by omega) hN, wr_eq, ix_nI (show k < 2 ^ 31 by omega), ix_nI (show p + 7 + k < 2 ^ 31 by omega), ix_nI (show p + 7 + 8 + k < 2 ^ 31 by omega), ix_nI (show p + 7 + 16 + k < 2 ^ 31 by omega), gi_si_a (fun c => n3 c.symm), gi_si_a (fun c => n4 c.symm)])
    (by
      intro n M1
      show fX12_pack_b64 b (n + 1) M1 (nI p) (nI 8) = _
      rw [fX12_pack_b64]
      dsimp only
      rw [if_neg (nltL 8 (Nat.le_refl _) (by decide))])
  refine ⟨M', e', ⟨?_, fun h hh => ?_, fun z h hh => ?_, fun z h hh => ?_⟩, F7.tr F', fun k hk => ?_⟩
  · refine ⟨?_, ?_, ?_, ?_, ?_, ?_, ?_⟩
    all_goals rw [ho _ (by omega), hM7]; simp [gi_si]
  · rw [(hc h hh).1, F7.i (by simp; exact fun c => n2 c.symm)]; exact b3 h hh
  · rw [(hc h hh).2.1, F7.i (by simp; exact fun c => n3 c.symm)]; exact b2 z h hh
  · rw [(hc h hh).2.2, F7.i (by simp; exact fun c => n4 c.symm)]; exact b1 z h hh
  · rw [ho k (by omega), hM7]
    rw [gi_si_k (by omega), gi_si_k (by omega), gi_si_k (by omega), gi_si_k (by omega), gi_si_k (by omega), gi_si_k (by omega), gi_si_k (by omega)]
/-- the model's own fields but those of the state stand -/
def MS (M M' : Mem) : Prop := ∀ k, k < 31 ∨ 37 < k → gi M' 87 k = gi M 87 k
theorem r_unpack (hS : PK M b p S) (hb : b ∉ [87, 102, 103, 104]) (hp : p + 31 ≤ (kd b).2) (hN : (kd b).2 < 2 ^ 31) :
    ∃ M', fX12_unpack b M (nI p) = okV M' ∧ DRf M' S ∧ Fr [87, 102, 103, 104] M M' ∧ MS M M' := by
  simp only [List.mem_cons, List.not_mem_nil, or_false, not_or] at hb
  obtain ⟨n1, n2, n3, n4⟩ := hb
  obtain ⟨⟨a0, a1, a2, a3, a4, a5, a6⟩, b1, b2, b3⟩ := hS
  unfold fX12_unpack
  simp only [nI_p1, np2, np3, np4, np5, np6, chk_in (show p < (kd b).2 by omega) hN, chk_in (show p + 1 < (kd b).2 by omega) hN, chk_in (show p + 2 < (kd b).2 by omega) hN, chk_in (show p + 3 < (kd b).2 by omega) hN, chk_in (show p + 4 < (kd b).2 by omega) hN, chk_in (show p + 5 < (kd b).2 by omega) hN, chk_in (show p + 6 < (kd b).2 by omega) hN, wr_eq, gi_si_a n1, ix_nI (show p < 2 ^ 31 by omega), ix_nI (show p + 1 < 2 ^ 31 by omega), ix_nI (show p + 2 < 2 ^ 31 by omega), ix_nI (show p + 3 < 2 ^ 31 by omega), ix_nI (show p + 4 < 2 ^ 31 by omega), ix_nI (show p + 5 < 2 ^ 31 by omega), ix_nI (show p + 6 < 2 ^ 31 by omega), a0, a1, a2, a3, a4, a5, a6]
  obtain ⟨M7, hM7⟩ : ∃ M7, M7 = si (si (si (si (si (si (si M 87 31 (nI (dN S))) 87 32 (nI (dG S))) 87 33 (dT S)) 87 34 (dC S)) 87 35 (nI (dL S))) 87 36 (dX S)) 87 37 (dY S) := ⟨_, rfl⟩
  rw [← hM7]
  have F7 : Fr [87] M M7 := by
    have q : 87 ∈ [87] := by simp
    rw [hM7]
    exact ((((((Fr.rf.wi q).wi q).wi q).wi q).wi q).wi q).wi q
  obtain ⟨M', e', F', hc⟩ := loop3r (F := fun n M k => fX12_unpack_b64 b n M (nI p) (nI k)) (M := M7) (b := b) (p := p) (c1 := 102) (c2 := 103) (c3 := 104) n2 n3 n4 (by decide) (by decide) (by decide)
    (by
      intro n M1 k hk
      show fX12_unpack_b64 b (n + 1) M1 (nI p) (nI k) = _
      rw [fX12_unpack_b64]
      dsimp only
      rw [if_pos (ltL 8 hk (by decide))]
      simp only [np7, np8, np16, nadd, nI_p1, chk_in hk (show 8 < 2 ^ 31 by decide), chk_in (show p + 7 + k < (kd b).2 by omega) hN, chk_in (show p + 7 + 8 + k < (kd b).2 by omega) hN, chk_in (show p + 7 + 16 + k < (kd b).2 by omega) hN, wr_eq, ix_nI (show k < 2 ^ 31 by omega), ix_nI (show p + 7 + k < 2 ^ 31 by omega), ix_nI (show p + 7 + 8 + k < 2 ^ 31 by omega), ix_nI (show p + 7 + 16 + k < 2 ^ 31 by omega), gi_si_a n2, gi_si_a n3])
    (by
      intro n M1
      show fX12_unpack_b64 b (n + 1) M1 (nI p) (nI 8) = _
      rw [fX12_unpack_b64]
      dsimp only
      rw [if_neg (nltL 8 (Nat.le_refl _) (by decide))])
  have nb := fun k => F7.i (a := b) (by simp; exact n1) k
  refine ⟨M', e', ⟨?_, fun z h hh => ?_, fun z h hh => ?_, fun h hh => ?_⟩, (F7.mono (by simp)).tr (F'.mono (by simp)), fun k hk => ?_⟩
  · refine ⟨?_, ?_, ?_, ?_, ?_, ?_, ?_⟩
    all_goals rw [F'.i (by decide), hM7]; simp [gi_si]
  · rw [(hc h hh).2.2, nb]; exact b3 z h hh
  · rw [(hc h hh).2.1, nb]; exact b2 z h hh
  · rw [(hc h hh).1, nb]; exact b1 h hh
  · rw [F'.i (by decide), hM7]
    rw [gi_si_k (by omega), gi_si_k (by omega), gi_si_k (by omega), gi_si_k (by omega), gi_si_k (by omega), gi_si_k (by omega), gi_si_k (by omega)]
theorem c_write (hS : DC 39 M S) (hO : DOk I S) (hp : p + 31 ≤ 1240) :
    ∃ M', fX8_writeTo M (nI p) = okV M' ∧ PC M' 44 p S ∧ Fr [44] M M' ∧ ∀ k, k < p ∨ p + 31 ≤ k → gi M' 44 k = gi M 44 k := by
  obtain ⟨⟨a0, a1, a2, a3, a4, a5, a6⟩, b1, b2, b3⟩ := hS
  have hN : (1240 : Nat) < 2 ^ 31 := by decide
  unfold fX8_writeTo
  rw [if_neg (nI_pos (by omega)), if_neg (show ¬ (1240 - 31 : Int32) < nI p from ngtL 1209 (by omega) (by decide))]
  simp only [nI_p1, np2, np3, np4, np5, np6, chk_in (show p < 1240 by omega) hN, chk_in (show p + 1 < 1240 by omega) hN, chk_in (show p + 2 < 1240 by omega) hN, chk_in (show p + 3 < 1240 by omega) hN, chk_in (show p + 4 < 1240 by omega) hN, chk_in (show p + 5 < 1240 by omega) hN, chk_in (show p + 6 < 1240 by omega) hN, wr_eq, gi_si_a (show (39 : Nat) ≠ 44 by decide), a0, a1, a2, a3, a4, a5, a6, ix_nI (show p < 2 ^ 31 by omega), ix_nI (show p + 1 < 2 ^ 31 by omega), ix_nI (show p + 2 < 2 ^ 31 by omega), ix_nI (show p + 3 < 2 ^ 31 by omega), ix_nI (show p + 4 < 2 ^ 31 by omega), ix_nI (show p + 5 < 2 ^ 31 by omega), ix_nI (show p + 6 < 2 ^ 31 by omega)]
  obtain ⟨M7, hM7⟩ : ∃ M7, M7 = si (si (si (si (si (si (si M 44 p (nI (dL S))) 44 (p + 1) (nI (dG S))) 44 (p + 2) (dX S)) 44 (p + 3) (dY S)) 44 (p + 4) (nI (dN S))) 44 (p + 5) (dT S)) 44 (p + 6) (dC S) := ⟨_, rfl⟩
  rw [← hM7]
  have F7 : Fr [44] M M7 := by
    have q : 44 ∈ [44] := by simp
    rw [hM7]
    exact ((((((Fr.rf.wi q).wi q).wi q).wi q).wi q).wi q).wi q
  obtain ⟨M', e', F', ho, hc⟩ := loop3 (F := fun n M k => fX8_writeTo_b78 n M (nI p) (nI k)) (M := M7) (b := 44) (p := p) (c1 := 40) (c2 := 41) (c3 := 42) (by decide) (by decide) (by decide)
    (by
      intro n M1 k hk
      show fX8_writeTo_b78 (n + 1) M1 (nI p) (nI k) = _
      rw [fX8_writeTo_b78]
      dsimp only
      rw [if_pos (ltL 8 hk (by decide))]
      simp only [np7, np8, np16, nadd, nI_p1, chk_in hk (show 8 < 2 ^ 31 by decide), chk_in (show p + 7 + k < 1240 by omega) hN, chk_in (show p + 7 + 8 + k < 1240 by omega) hN, chk_in (show p + 7 + 16 + k < 1240 by omega) hN, wr_eq, ix_nI (show k < 2 ^ 31 by omega), ix_nI (show p + 7 + k < 2 ^ 31 by omega), ix_nI (show p + 7 + 8 + k < 2 ^ 31 by omega), ix_nI (show p + 7 + 16 + k < 2 ^ 31 by omega), gi_si_a (show (41 : Nat) ≠ 44 by decide), gi_si_a (show (42 : Nat) ≠ 44 by decide)])
    (by
      intro n M1
      show fX8_writeTo_b78 (n + 1) M1 (nI p) (nI 8) = _
      rw [fX8_writeTo_b78]
      dsimp only
      rw [if_neg (nltL 8 (Nat.le_refl _) (by decide))])
  refine ⟨M', e', ⟨?_, fun z h hh => ?_, fun z h hh => ?_, fun h hh => ?_⟩, F7.tr F', fun k hk => ?_⟩
  · refine ⟨?_, ?_, ?_, ?_, ?_, ?_, ?_⟩
    all_goals rw [ho _ (by omega), hM7]; simp [gi_si]
  · rw [(hc _ (hO.2.1.1 h hh)).1, F7.i (by decide)]; exact b1 z h hh
  · rw [(hc h hh).2.1, F7.i (by decide)]; exact b2 z h hh
  · rw [(hc h hh).2.2, F7.i (by decide)]; exact b3 h hh
  · rw [ho k (by omega), hM7]
    rw [gi_si_k (by omega), gi_si_k (by omega), gi_si_k (by omega), gi_si_k (by omega), gi_si_k (by omega), gi_si_k (by omega), gi_si_k (by omega)]
theorem c_read (hS : PC M 44 p S) (hO : DOk I S) (hp : p + 31 ≤ 1240) :
    ∃ M', fX8_readFrom M (nI p) = okV M' ∧ DC 39 M' S ∧ Fr [39, 40, 41, 42] M M' := by
  obtain ⟨⟨a0, a1, a2, a3, a4, a5, a6⟩, b1, b2, b3⟩ := hS
  have hN : (1240 : Nat) < 2 ^ 31 := by decide
  unfold fX8_readFrom
  rw [if_neg (nI_pos (by omega)), if_neg (show ¬ (1240 - 31 : Int32) < nI p from ngtL 1209 (by omega) (by decide))]
  simp only [nI_p1, np2, np3, np4, np5, np6, chk_in (show p < 1240 by omega) hN, chk_in (show p + 1 < 1240 by omega) hN, chk_in (show p + 2 < 1240 by omega) hN, chk_in (show p + 3 < 1240 by omega) hN, chk_in (show p + 4 < 1240 by omega) hN, chk_in (show p + 5 < 1240 by omega) hN, chk_in (show p + 6 < 1240 by omega) hN, wr_eq, gi_si_a (show (44 : Nat) ≠ 39 by decide), ix_nI (show p < 2 ^ 31 by omega), ix_nI (show p + 1 < 2 ^ 31 by omega), ix_nI (show p + 2 < 2 ^ 31 by omega), ix_nI (show p + 3 < 2 ^ 31 by omega), ix_nI (show p + 4 < 2 ^ 31 by omega), ix_nI (show p + 5 < 2 ^ 31 by omega), ix_nI (show p + 6 < 2 ^ 31 by omega), a0, a1, a2, a3, a4, a5, a6]
  obtain ⟨M7, hM7⟩ : ∃ M7, M7 = si (si (si (si (si (si (si M 39 0 (nI (dL S))) 39 1 (nI (dG S))) 39 2 (dX S)) 39 3 (dY S)) 39 4 (nI (dN S))) 39 5 (dT S)) 39 6 (dC S) := ⟨_, rfl⟩
  rw [← hM7]
  have F7 : Fr [39] M M7 := by
    have q : 39 ∈ [39] := by simp
    rw [hM7]
    exact ((((((Fr.rf.wi q).wi q).wi q).wi q).wi q).wi q).wi q
  obtain ⟨M', e', F', hc⟩ := loop3r (F := fun n M k => fX8_readFrom_b78 n M (nI p) (nI k)) (M := M7) (b := 44) (p := p) (c1 := 40) (c2 := 41) (c3 := 42) (by decide) (by decide) (by decide) (by decide) (by decide) (by decide)
    (by
      intro n M1 k hk
      show fX8_readFrom_b78 (n + 1) M1 (nI p) (nI k) = _
      rw [fX8_readFrom_b78]
      dsimp only
      rw [if_pos (ltL 8 hk (by decide))]
      simp only [np7, np8, np16, nadd, nI_p1, chk_in hk (show 8 < 2 ^ 31 by decide), chk_in (show p + 7 + k < 1240 by omega) hN, chk_in (show p + 7 + 8 + k < 1240 by omega) hN, chk_in (show p + 7 + 16 + k < 1240 by omega) hN, wr_eq, ix_nI (show k < 2 ^ 31 by omega), ix_nI (show p + 7 + k < 2 ^ 31 by omega), ix_nI (show p + 7 + 8 + k < 2 ^ 31 by omega), ix_nI (show p + 7 + 16 + k < 2 ^ 31 by omega), gi_si_a (show (44 : Nat) ≠ 40 by decide), gi_si_a (show (44 : Nat) ≠ 41 by decide)])
    (by
      intro n M1
      show fX8_readFrom_b78 (n + 1) M1 (nI p) (nI 8) = _
      rw [fX8_readFrom_b78]
      dsimp only
      rw [if_neg (nltL 8 (Nat.le_refl _) (by decide))])
  have nb := fun k => F7.i (a := 44) (by decide) k
  refine ⟨M', e', ⟨?_, fun z h hh => ?_, fun z h hh => ?_, fun h hh => ?_⟩, (F7.mono (by simp)).tr (F'.mono (by simp))⟩
  · refine ⟨?_, ?_, ?_, ?_, ?_, ?_, ?_⟩
    all_goals rw [F'.i (by decide), hM7]; simp [gi_si]
  · rw [(hc _ (hO.2.1.1 h hh)).1, nb]; exact b1 z h hh
  · rw [(hc h hh).2.1, nb]; exact b2 z h hh
  · rw [(hc h hh).2.2, nb]; exact b3 h hh
end
