theorem mlL_7 : Cond.methodLink RL 7 yX11_island ∈ TB := tbm (k := 780) (by decide +kernel) (by decide +kernel)
theorem mlL_15 : Cond.methodLink RL 15 yX11_count ∈ TB := tbm (k := 1107) (by decide +kernel) (by decide +kernel)
theorem mlL_20 : Cond.methodLink RL 20 yX11_house ∈ TB := tbm (k := 1130) (by decide +kernel) (by decide +kernel)
theorem mlL_24 : Cond.methodLink RL 24 yX11_plot ∈ TB := tbm (k := 1142) (by decide +kernel) (by decide +kernel)
theorem mlL_27 : Cond.methodLink RL 27 yX11_worth ∈ TB := tbm (k := 1162) (by decide +kernel) (by decide +kernel)
theorem mlL_30 : Cond.methodLink RL 30 yX11_harvest ∈ TB := tbm (k := 1170) (by decide +kernel) (by decide +kernel)
theorem mlL_34 : Cond.methodLink RL 34 yX11_turn ∈ TB := tbm (k := 1181) (by decide +kernel) (by decide +kernel)
theorem mlL_37 : Cond.methodLink RL 37 yX11_order ∈ TB := tbm (k := 1192) (by decide +kernel) (by decide +kernel)
theorem mlL_40 : Cond.methodLink RL 40 yX11_exchange ∈ TB := tbm (k := 1203) (by decide +kernel) (by decide +kernel)
theorem mlL_44 : Cond.methodLink RL 44 yX11_best ∈ TB := tbm (k := 1210) (by decide +kernel) (by decide +kernel)
theorem mlL_48 : Cond.methodLink RL 48 yX11_fairest ∈ TB := tbm (k := 1261) (by decide +kernel) (by decide +kernel)
theorem mlL_51 : Cond.methodLink RL 51 yX11_then ∈ TB := tbm (k := 1276) (by decide +kernel) (by decide +kernel)
theorem mlL_54 : Cond.methodLink RL 54 yX11_starves ∈ TB := tbm (k := 1287) (by decide +kernel) (by decide +kernel)
theorem mlL_57 : Cond.methodLink RL 57 yX11_tithes ∈ TB := tbm (k := 1295) (by decide +kernel) (by decide +kernel)
theorem mlL_60 : Cond.methodLink RL 60 yX11_lotsFor ∈ TB := tbm (k := 1302) (by decide +kernel) (by decide +kernel)
theorem mlL_63 : Cond.methodLink RL 63 yX11_change ∈ TB := tbm (k := 1314) (by decide +kernel) (by decide +kernel)
theorem mlL_66 : Cond.methodLink RL 66 yX11_envied ∈ TB := tbm (k := 1325) (by decide +kernel) (by decide +kernel)
theorem mlL_69 : Cond.methodLink RL 69 yX11_without ∈ TB := tbm (k := 1336) (by decide +kernel) (by decide +kernel)
theorem mlL_72 : Cond.methodLink RL 72 yX11_lastPlace ∈ TB := tbm (k := 1343) (by decide +kernel) (by decide +kernel)
theorem mlL_75 : Cond.methodLink RL 75 yX11_famine ∈ TB := tbm (k := 1352) (by decide +kernel) (by decide +kernel)
theorem mlL_78 : Cond.methodLink RL 78 yX11_bushels ∈ TB := tbm (k := 1360) (by decide +kernel) (by decide +kernel)
theorem mlL_81 : Cond.methodLink RL 81 yX11_richest ∈ TB := tbm (k := 1368) (by decide +kernel) (by decide +kernel)
theorem mlL_84 : Cond.methodLink RL 84 yX11_see ∈ TB := tbm (k := 1375) (by decide +kernel) (by decide +kernel)
theorem mlL_87 : Cond.methodLink RL 87 yX11_look ∈ TB := tbm (k := 1386) (by decide +kernel) (by decide +kernel)
theorem mlL_90 : Cond.methodLink RL 90 yX11_game ∈ TB := tbm (k := 1394) (by decide +kernel) (by decide +kernel)
theorem mlL_94 : Cond.methodLink RL 94 yX11_founders ∈ TB := tbm (k := 1410) (by decide +kernel) (by decide +kernel)
theorem clk_13 : Cond.classLink RL 13 iaeN ∈ TB := tbm (k := 779) (by decide +kernel) (by decide +kernel)
theorem clk_18 : Cond.classLink RL 18 nseN ∈ TB := tbm (k := 1106) (by decide +kernel) (by decide +kernel)
abbrev miL_island : MI := (cL_island, 4, (some .int), yL_island)
def fL_island (M : Mem) (x1 : Int32) : RS := cI (fX11_island M x1) (fun M1 v2 => wr (sl M1 121 0 (Int32.toInt64 v2)) (fun M3 => some (M3, .inr (some (.int 0))))) (fun Mx x => if x = 2 then some (Mx, .inr (some (.int 1))) else none)
theorem SL_island (M : Mem) (x1 : Int32) : CTH 78 miL_island [(0, 9, 12, 13)] 1 6 [.ref 0, .int x1, .ref 121] M (fL_island M x1) := by
  refine CTH.of (by decide) (by simp [lg_sl, Value.category]) ?_
  show GH [(0, 9, 12, 13)] 78 1 6 miL_island 0 0 0 [(0, .ref 0), (1, .int x1), (2, .ref 121)] [] M (cI (fX11_island M x1) (fun M1 v2 => wr (sl M1 121 0 (Int32.toInt64 v2)) (fun M3 => some (M3, .inr (some (.int 0))))) (fun Mx x => if x = 2 then some (Mx, .inr (some (.int 1))) else none))
  refine x_aload_n 2 rfl rfl dL_island_0 ?_
  refine x_iconst (v := 0) (by decide) dL_island_1 ?_
  refine x_aload_n 0 rfl rfl dL_island_2 ?_
  refine x_iload_n 1 rfl rfl dL_island_3 ?_
  refine x_callVI (y := miX11_island) (As := [.int x1]) (rest := [.int 0, .ref 121]) clX11 kd_0 rfl moX11_island rfl mlL_7 (by decide) (by decide) (by simp [Value.category]) rfl dL_island_4 (SX11_island  M x1) (fun Mx x => by
      show XH _ _ _ _ _ _ _ _ _ _ _ (if x = 2 then some (Mx, .inr (some (.int 1))) else none)
      by_cases hx2 : x = 2
      · subst hx2; rw [if_pos rfl]; exact h_hand [] ⟨0, 9, 12, 13⟩ [] rfl (fun _ h => absurd h List.not_mem_nil) (by decide) (by decide) clk_13 (i := 3) (by decide) (Or.inl ⟨3, rfl, dL_island_12, rfl⟩) dL_island_13 (by decide) dL_island_14 rfl (by decide) (by decide)
      rw [if_neg hx2]
      exact XH.none) (fun M1 v2 => ?_)
  refine x_i2l dL_island_7 ?_
  refine x_lastL (j := 0) kd_121 (by decide) (by decide) dL_island_8 ?_
  refine GX.wr (fun M3 => ?_)
  refine x_goto (tgt := 15) rfl dL_island_9 ?_
  refine x_iconst (v := 0) (by decide) dL_island_15 ?_
  exact h_ireturn rfl (by decide) (by decide) dL_island_16
abbrev miL_count : MI := (cL_count, 4, (some .int), yL_count)
def fL_count (M : Mem) (x1 : Int32) : RS := cI (fX11_count M x1) (fun M1 v2 => wr (sl M1 121 0 (Int32.toInt64 v2)) (fun M3 => some (M3, .inr (some (.int 0))))) (fun Mx x => if x = 1 then some (Mx, .inr (some (.int 1))) else none)
theorem SL_count (M : Mem) (x1 : Int32) : CTH 7 miL_count [(0, 9, 12, 18)] 1 6 [.ref 0, .int x1, .ref 121] M (fL_count M x1) := by
  refine CTH.of (by decide) (by simp [lg_sl, Value.category]) ?_
  show GH [(0, 9, 12, 18)] 7 1 6 miL_count 0 0 0 [(0, .ref 0), (1, .int x1), (2, .ref 121)] [] M (cI (fX11_count M x1) (fun M1 v2 => wr (sl M1 121 0 (Int32.toInt64 v2)) (fun M3 => some (M3, .inr (some (.int 0))))) (fun Mx x => if x = 1 then some (Mx, .inr (some (.int 1))) else none))
  refine x_aload_n 2 rfl rfl dL_count_0 ?_
  refine x_iconst (v := 0) (by decide) dL_count_1 ?_
  refine x_aload_n 0 rfl rfl dL_count_2 ?_
  refine x_iload_n 1 rfl rfl dL_count_3 ?_
  refine x_callVI (y := miX11_count) (As := [.int x1]) (rest := [.int 0, .ref 121]) clX11 kd_0 rfl moX11_count rfl mlL_15 (by decide) (by decide) (by simp [Value.category]) rfl dL_count_4 (SX11_count  M x1) (fun Mx x => by
      show XH _ _ _ _ _ _ _ _ _ _ _ (if x = 1 then some (Mx, .inr (some (.int 1))) else none)
      by_cases hx1 : x = 1
      · subst hx1; rw [if_pos rfl]; exact h_hand [] ⟨0, 9, 12, 18⟩ [] rfl (fun _ h => absurd h List.not_mem_nil) (by decide) (by decide) clk_18 (i := 3) (by decide) (Or.inl ⟨3, rfl, dL_count_12, rfl⟩) dL_count_13 (by decide) dL_count_14 rfl (by decide) (by decide)
      rw [if_neg hx1]
      exact XH.none) (fun M1 v2 => ?_)
  refine x_i2l dL_count_7 ?_
  refine x_lastL (j := 0) kd_121 (by decide) (by decide) dL_count_8 ?_
  refine GX.wr (fun M3 => ?_)
  refine x_goto (tgt := 15) rfl dL_count_9 ?_
  refine x_iconst (v := 0) (by decide) dL_count_15 ?_
  exact h_ireturn rfl (by decide) (by decide) dL_count_16
abbrev miL_house : MI := (cL_house, 5, (some .int), yL_house)
def fL_house (M : Mem) (x1 : Int32) (x2 : Int32) : RS := cI (fX11_house M x1 x2) (fun M1 v2 => wr (sl M1 121 0 (Int32.toInt64 v2)) (fun M3 => some (M3, .inr (some (.int 0))))) (fun Mx x => if x = 1 then some (Mx, .inr (some (.int 1))) else none)
theorem SL_house (M : Mem) (x1 : Int32) (x2 : Int32) : CTH 8 miL_house [(0, 10, 13, 18)] 2 12 [.ref 0, .int x1, .int x2, .ref 121] M (fL_house M x1 x2) := by
  refine CTH.of (by decide) (by simp [lg_sl, Value.category]) ?_
  show GH [(0, 10, 13, 18)] 8 2 12 miL_house 0 0 0 [(0, .ref 0), (1, .int x1), (2, .int x2), (3, .ref 121)] [] M (cI (fX11_house M x1 x2) (fun M1 v2 => wr (sl M1 121 0 (Int32.toInt64 v2)) (fun M3 => some (M3, .inr (some (.int 0))))) (fun Mx x => if x = 1 then some (Mx, .inr (some (.int 1))) else none))
  refine x_aload_n 3 rfl rfl dL_house_0 ?_
  refine x_iconst (v := 0) (by decide) dL_house_1 ?_
  refine x_aload_n 0 rfl rfl dL_house_2 ?_
  refine x_iload_n 1 rfl rfl dL_house_3 ?_
  refine x_iload_n 2 rfl rfl dL_house_4 ?_
  refine x_callVI (y := miX11_house) (As := [.int x1, .int x2]) (rest := [.int 0, .ref 121]) clX11 kd_0 rfl moX11_house rfl mlL_20 (by decide) (by decide) (by simp [Value.category]) rfl dL_house_5 (SX11_house  M x1 x2) (fun Mx x => by
      show XH _ _ _ _ _ _ _ _ _ _ _ (if x = 1 then some (Mx, .inr (some (.int 1))) else none)
      by_cases hx1 : x = 1
      · subst hx1; rw [if_pos rfl]; exact h_hand [] ⟨0, 10, 13, 18⟩ [] rfl (fun _ h => absurd h List.not_mem_nil) (by decide) (by decide) clk_18 (i := 4) (by decide) (Or.inr ⟨dL_house_13, rfl⟩) dL_house_15 (by decide) dL_house_16 rfl (by decide) (by decide)
      rw [if_neg hx1]
      exact XH.none) (fun M1 v2 => ?_)
  refine x_i2l dL_house_8 ?_
  refine x_lastL (j := 0) kd_121 (by decide) (by decide) dL_house_9 ?_
  refine GX.wr (fun M3 => ?_)
  refine x_goto (tgt := 17) rfl dL_house_10 ?_
  refine x_iconst (v := 0) (by decide) dL_house_17 ?_
  exact h_ireturn rfl (by decide) (by decide) dL_house_18
abbrev miL_plot : MI := (cL_plot, 5, (some .int), yL_plot)
def fL_plot (M : Mem) (x1 : Int32) (x2 : Int32) : RS := cI (fX11_plot M x1 x2) (fun M1 v2 => wr (sl M1 121 0 (Int32.toInt64 v2)) (fun M3 => some (M3, .inr (some (.int 0))))) (fun Mx x => if x = 1 then some (Mx, .inr (some (.int 1))) else none)
theorem SL_plot (M : Mem) (x1 : Int32) (x2 : Int32) : CTH 8 miL_plot [(0, 10, 13, 18)] 2 12 [.ref 0, .int x1, .int x2, .ref 121] M (fL_plot M x1 x2) := by
  refine CTH.of (by decide) (by simp [lg_sl, Value.category]) ?_
  show GH [(0, 10, 13, 18)] 8 2 12 miL_plot 0 0 0 [(0, .ref 0), (1, .int x1), (2, .int x2), (3, .ref 121)] [] M (cI (fX11_plot M x1 x2) (fun M1 v2 => wr (sl M1 121 0 (Int32.toInt64 v2)) (fun M3 => some (M3, .inr (some (.int 0))))) (fun Mx x => if x = 1 then some (Mx, .inr (some (.int 1))) else none))
  refine x_aload_n 3 rfl rfl dL_plot_0 ?_
  refine x_iconst (v := 0) (by decide) dL_plot_1 ?_
  refine x_aload_n 0 rfl rfl dL_plot_2 ?_
  refine x_iload_n 1 rfl rfl dL_plot_3 ?_
  refine x_iload_n 2 rfl rfl dL_plot_4 ?_
  refine x_callVI (y := miX11_plot) (As := [.int x1, .int x2]) (rest := [.int 0, .ref 121]) clX11 kd_0 rfl moX11_plot rfl mlL_24 (by decide) (by decide) (by simp [Value.category]) rfl dL_plot_5 (SX11_plot  M x1 x2) (fun Mx x => by
      show XH _ _ _ _ _ _ _ _ _ _ _ (if x = 1 then some (Mx, .inr (some (.int 1))) else none)
      by_cases hx1 : x = 1
      · subst hx1; rw [if_pos rfl]; exact h_hand [] ⟨0, 10, 13, 18⟩ [] rfl (fun _ h => absurd h List.not_mem_nil) (by decide) (by decide) clk_18 (i := 4) (by decide) (Or.inr ⟨dL_plot_13, rfl⟩) dL_plot_15 (by decide) dL_plot_16 rfl (by decide) (by decide)
      rw [if_neg hx1]
      exact XH.none) (fun M1 v2 => ?_)
  refine x_i2l dL_plot_8 ?_
  refine x_lastL (j := 0) kd_121 (by decide) (by decide) dL_plot_9 ?_
  refine GX.wr (fun M3 => ?_)
  refine x_goto (tgt := 17) rfl dL_plot_10 ?_
  refine x_iconst (v := 0) (by decide) dL_plot_17 ?_
  exact h_ireturn rfl (by decide) (by decide) dL_plot_18
abbrev miL_worth : MI := (cL_worth, 5, (some .int), yL_worth)
def fL_worth (M : Mem) (x1 : Int32) (x2 : Int32) : RS := cI (fX11_worth M x1 x2) (fun M1 v2 => wr (sl M1 121 0 (Int32.toInt64 v2)) (fun M3 => some (M3, .inr (some (.int 0))))) (fun Mx x => if x = 1 then some (Mx, .inr (some (.int 1))) else none)
theorem SL_worth (M : Mem) (x1 : Int32) (x2 : Int32) : CTH 8 miL_worth [(0, 10, 13, 18)] 2 12 [.ref 0, .int x1, .int x2, .ref 121] M (fL_worth M x1 x2) := by
  refine CTH.of (by decide) (by simp [lg_sl, Value.category]) ?_
  show GH [(0, 10, 13, 18)] 8 2 12 miL_worth 0 0 0 [(0, .ref 0), (1, .int x1), (2, .int x2), (3, .ref 121)] [] M (cI (fX11_worth M x1 x2) (fun M1 v2 => wr (sl M1 121 0 (Int32.toInt64 v2)) (fun M3 => some (M3, .inr (some (.int 0))))) (fun Mx x => if x = 1 then some (Mx, .inr (some (.int 1))) else none))
  refine x_aload_n 3 rfl rfl dL_worth_0 ?_
  refine x_iconst (v := 0) (by decide) dL_worth_1 ?_
  refine x_aload_n 0 rfl rfl dL_worth_2 ?_
  refine x_iload_n 1 rfl rfl dL_worth_3 ?_
  refine x_iload_n 2 rfl rfl dL_worth_4 ?_
  refine x_callVI (y := miX11_worth) (As := [.int x1, .int x2]) (rest := [.int 0, .ref 121]) clX11 kd_0 rfl moX11_worth rfl mlL_27 (by decide) (by decide) (by simp [Value.category]) rfl dL_worth_5 (SX11_worth  M x1 x2) (fun Mx x => by
      show XH _ _ _ _ _ _ _ _ _ _ _ (if x = 1 then some (Mx, .inr (some (.int 1))) else none)
      by_cases hx1 : x = 1
      · subst hx1; rw [if_pos rfl]; exact h_hand [] ⟨0, 10, 13, 18⟩ [] rfl (fun _ h => absurd h List.not_mem_nil) (by decide) (by decide) clk_18 (i := 4) (by decide) (Or.inr ⟨dL_worth_13, rfl⟩) dL_worth_15 (by decide) dL_worth_16 rfl (by decide) (by decide)
      rw [if_neg hx1]
      exact XH.none) (fun M1 v2 => ?_)
  refine x_i2l dL_worth_8 ?_
  refine x_lastL (j := 0) kd_121 (by decide) (by decide) dL_worth_9 ?_
  refine GX.wr (fun M3 => ?_)
  refine x_goto (tgt := 17) rfl dL_worth_10 ?_
  refine x_iconst (v := 0) (by decide) dL_worth_17 ?_
  exact h_ireturn rfl (by decide) (by decide) dL_worth_18
abbrev miL_harvest : MI := (cL_harvest, 6, (some .int), yL_harvest)
def fL_harvest (M : Mem) (x1 : Int32) (x2 : Int32) (x3 : Int32) : RS := cI (fX11_harvest M x1 x2 x3) (fun M1 v2 => wr (sl M1 121 0 (Int32.toInt64 v2)) (fun M3 => some (M3, .inr (some (.int 0))))) (fun Mx x => if x = 1 then some (Mx, .inr (some (.int 1))) else if x = 2 then some (Mx, .inr (some (.int 2))) else none)
theorem SL_harvest (M : Mem) (x1 : Int32) (x2 : Int32) (x3 : Int32) : CTH 8 miL_harvest [(0, 12, 15, 18), (0, 12, 19, 13)] 3 18 [.ref 0, .int x1, .int x2, .int x3, .ref 121] M (fL_harvest M x1 x2 x3) := by
  refine CTH.of (by decide) (by simp [lg_sl, Value.category]) ?_
  show GH [(0, 12, 15, 18), (0, 12, 19, 13)] 8 3 18 miL_harvest 0 0 0 [(0, .ref 0), (1, .int x1), (2, .int x2), (3, .int x3), (4, .ref 121)] [] M (cI (fX11_harvest M x1 x2 x3) (fun M1 v2 => wr (sl M1 121 0 (Int32.toInt64 v2)) (fun M3 => some (M3, .inr (some (.int 0))))) (fun Mx x => if x = 1 then some (Mx, .inr (some (.int 1))) else if x = 2 then some (Mx, .inr (some (.int 2))) else none))
  refine x_aload 4 rfl dL_harvest_0 ?_
  refine x_iconst (v := 0) (by decide) dL_harvest_2 ?_
  refine x_aload_n 0 rfl rfl dL_harvest_3 ?_
  refine x_iload_n 1 rfl rfl dL_harvest_4 ?_
  refine x_iload_n 2 rfl rfl dL_harvest_5 ?_
  refine x_iload_n 3 rfl rfl dL_harvest_6 ?_
  refine x_callVI (y := miX11_harvest) (As := [.int x1, .int x2, .int x3]) (rest := [.int 0, .ref 121]) clX11 kd_0 rfl moX11_harvest rfl mlL_30 (by decide) (by decide) (by simp [Value.category]) rfl dL_harvest_7 (SX11_harvest  M x1 x2 x3) (fun Mx x => by
      show XH _ _ _ _ _ _ _ _ _ _ _ (if x = 1 then some (Mx, .inr (some (.int 1))) else if x = 2 then some (Mx, .inr (some (.int 2))) else none)
      by_cases hx1 : x = 1
      · subst hx1; rw [if_pos rfl]; exact h_hand [] ⟨0, 12, 15, 18⟩ [⟨0, 12, 19, 13⟩] rfl (fun _ h => absurd h List.not_mem_nil) (by decide) (by decide) clk_18 (i := 5) (by decide) (Or.inr ⟨dL_harvest_15, rfl⟩) dL_harvest_17 (by decide) dL_harvest_18 rfl (by decide) (by decide)
      rw [if_neg hx1]
      by_cases hx2 : x = 2
      · subst hx2; rw [if_pos rfl]; exact h_hand [⟨0, 12, 15, 18⟩] ⟨0, 12, 19, 13⟩ [] rfl (List.forall_mem_cons.mpr ⟨Or.inr ⟨by decide, nseN, clk_18, Or.inl ⟨rfl, rfl⟩⟩, (fun _ h => absurd h List.not_mem_nil)⟩) (by decide) (by decide) clk_13 (i := 5) (by decide) (Or.inr ⟨dL_harvest_19, rfl⟩) dL_harvest_21 (by decide) dL_harvest_22 rfl (by decide) (by decide)
      rw [if_neg hx2]
      exact XH.none) (fun M1 v2 => ?_)
  refine x_i2l dL_harvest_10 ?_
  refine x_lastL (j := 0) kd_121 (by decide) (by decide) dL_harvest_11 ?_
  refine GX.wr (fun M3 => ?_)
  refine x_goto (tgt := 23) rfl dL_harvest_12 ?_
  refine x_iconst (v := 0) (by decide) dL_harvest_23 ?_
  exact h_ireturn rfl (by decide) (by decide) dL_harvest_24
abbrev miL_turn : MI := (cL_turn, 4, (some .int), yL_turn)
def fL_turn (M : Mem) (x1 : Int32) : RS := cI (fX11_turn M x1) (fun M1 v2 => wr (sl M1 121 0 (Int32.toInt64 v2)) (fun M3 => some (M3, .inr (some (.int 0))))) (fun Mx x => if x = 1 then some (Mx, .inr (some (.int 1))) else none)
theorem SL_turn (M : Mem) (x1 : Int32) : CTH 8 miL_turn [(0, 9, 12, 18)] 1 6 [.ref 0, .int x1, .ref 121] M (fL_turn M x1) := by
  refine CTH.of (by decide) (by simp [lg_sl, Value.category]) ?_
  show GH [(0, 9, 12, 18)] 8 1 6 miL_turn 0 0 0 [(0, .ref 0), (1, .int x1), (2, .ref 121)] [] M (cI (fX11_turn M x1) (fun M1 v2 => wr (sl M1 121 0 (Int32.toInt64 v2)) (fun M3 => some (M3, .inr (some (.int 0))))) (fun Mx x => if x = 1 then some (Mx, .inr (some (.int 1))) else none))
  refine x_aload_n 2 rfl rfl dL_turn_0 ?_
  refine x_iconst (v := 0) (by decide) dL_turn_1 ?_
  refine x_aload_n 0 rfl rfl dL_turn_2 ?_
  refine x_iload_n 1 rfl rfl dL_turn_3 ?_
  refine x_callVI (y := miX11_turn) (As := [.int x1]) (rest := [.int 0, .ref 121]) clX11 kd_0 rfl moX11_turn rfl mlL_34 (by decide) (by decide) (by simp [Value.category]) rfl dL_turn_4 (SX11_turn  M x1) (fun Mx x => by
      show XH _ _ _ _ _ _ _ _ _ _ _ (if x = 1 then some (Mx, .inr (some (.int 1))) else none)
      by_cases hx1 : x = 1
      · subst hx1; rw [if_pos rfl]; exact h_hand [] ⟨0, 9, 12, 18⟩ [] rfl (fun _ h => absurd h List.not_mem_nil) (by decide) (by decide) clk_18 (i := 3) (by decide) (Or.inl ⟨3, rfl, dL_turn_12, rfl⟩) dL_turn_13 (by decide) dL_turn_14 rfl (by decide) (by decide)
      rw [if_neg hx1]
      exact XH.none) (fun M1 v2 => ?_)
  refine x_i2l dL_turn_7 ?_
  refine x_lastL (j := 0) kd_121 (by decide) (by decide) dL_turn_8 ?_
  refine GX.wr (fun M3 => ?_)
  refine x_goto (tgt := 15) rfl dL_turn_9 ?_
  refine x_iconst (v := 0) (by decide) dL_turn_15 ?_
  exact h_ireturn rfl (by decide) (by decide) dL_turn_16
abbrev miL_order : MI := (cL_order, 5, (some .int), yL_order)
def fL_order (M : Mem) (x1 : Int32) (x2 : Int32) : RS := cI (fX11_order M x1 x2) (fun M1 v2 => wr (sl M1 121 0 (Int32.toInt64 v2)) (fun M3 => some (M3, .inr (some (.int 0))))) (fun Mx x => if x = 1 then some (Mx, .inr (some (.int 1))) else none)
theorem SL_order (M : Mem) (x1 : Int32) (x2 : Int32) : CTH 8 miL_order [(0, 10, 13, 18)] 1 6 [.ref 0, .int x1, .int x2, .ref 121] M (fL_order M x1 x2) := by
  refine CTH.of (by decide) (by simp [lg_sl, Value.category]) ?_
  show GH [(0, 10, 13, 18)] 8 1 6 miL_order 0 0 0 [(0, .ref 0), (1, .int x1), (2, .int x2), (3, .ref 121)] [] M (cI (fX11_order M x1 x2) (fun M1 v2 => wr (sl M1 121 0 (Int32.toInt64 v2)) (fun M3 => some (M3, .inr (some (.int 0))))) (fun Mx x => if x = 1 then some (Mx, .inr (some (.int 1))) else none))
  refine x_aload_n 3 rfl rfl dL_order_0 ?_
  refine x_iconst (v := 0) (by decide) dL_order_1 ?_
  refine x_aload_n 0 rfl rfl dL_order_2 ?_
  refine x_iload_n 1 rfl rfl dL_order_3 ?_
  refine x_iload_n 2 rfl rfl dL_order_4 ?_
  refine x_callVI (y := miX11_order) (As := [.int x1, .int x2]) (rest := [.int 0, .ref 121]) clX11 kd_0 rfl moX11_order rfl mlL_37 (by decide) (by decide) (by simp [Value.category]) rfl dL_order_5 (SX11_order  M x1 x2) (fun Mx x => by
      show XH _ _ _ _ _ _ _ _ _ _ _ (if x = 1 then some (Mx, .inr (some (.int 1))) else none)
      by_cases hx1 : x = 1
      · subst hx1; rw [if_pos rfl]; exact h_hand [] ⟨0, 10, 13, 18⟩ [] rfl (fun _ h => absurd h List.not_mem_nil) (by decide) (by decide) clk_18 (i := 4) (by decide) (Or.inr ⟨dL_order_13, rfl⟩) dL_order_15 (by decide) dL_order_16 rfl (by decide) (by decide)
      rw [if_neg hx1]
      exact XH.none) (fun M1 v2 => ?_)
  refine x_i2l dL_order_8 ?_
  refine x_lastL (j := 0) kd_121 (by decide) (by decide) dL_order_9 ?_
  refine GX.wr (fun M3 => ?_)
  refine x_goto (tgt := 17) rfl dL_order_10 ?_
  refine x_iconst (v := 0) (by decide) dL_order_17 ?_
  exact h_ireturn rfl (by decide) (by decide) dL_order_18
abbrev miL_exchange : MI := (cL_exchange, 5, (some .int), yL_exchange)
def fL_exchange_b16 (M : Mem) (s0 : Int64) (s1 : Int32) : RS := chk (inb s1 1) (wr (sl M 121 (ix s1) s0) (fun M4 => some (M4, .inr (some (.int 0)))))
theorem SL_exchange_b16 (M : Mem) (s0 : Int64) (s1 : Int32) : GH [(0, 17, 20, 18)] 8 2 12 miL_exchange 2 12 16 [] [.long s0, .int s1, .ref 121] M (fL_exchange_b16 M s0 s1) := by
  show GH [(0, 17, 20, 18)] 8 2 12 miL_exchange 2 12 16 [] [.long s0, .int s1, .ref 121] M (chk (inb s1 1) (wr (sl M 121 (ix s1) s0) (fun M4 => some (M4, .inr (some (.int 0))))))
  refine x_last kd_121 dL_exchange_16 (fun hi3 => ?_)
  refine GX.wr (fun M4 => ?_)
  refine x_goto (tgt := 24) rfl dL_exchange_17 ?_
  refine x_iconst (v := 0) (by decide) dL_exchange_24 ?_
  exact h_ireturn rfl (by decide) (by decide) dL_exchange_25
def fL_exchange (M : Mem) (x1 : Int32) (x2 : Int32) : RS := cI (fX11_exchange M x1 x2) (fun M1 v2 => if v2 = 0 then fL_exchange_b16  M1 0 0 else fL_exchange_b16  M1 1 0) (fun Mx x => if x = 1 then some (Mx, .inr (some (.int 1))) else none)
theorem SL_exchange (M : Mem) (x1 : Int32) (x2 : Int32) : CTH 8 miL_exchange [(0, 17, 20, 18)] 2 12 [.ref 0, .int x1, .int x2, .ref 121] M (fL_exchange M x1 x2) := by
  refine CTH.of (by decide) (by simp [lg_sl, Value.category]) ?_
  show GH [(0, 17, 20, 18)] 8 2 12 miL_exchange 0 0 0 [(0, .ref 0), (1, .int x1), (2, .int x2), (3, .ref 121)] [] M (cI (fX11_exchange M x1 x2) (fun M1 v2 => if v2 = 0 then fL_exchange_b16  M1 0 0 else fL_exchange_b16  M1 1 0) (fun Mx x => if x = 1 then some (Mx, .inr (some (.int 1))) else none))
  refine x_aload_n 3 rfl rfl dL_exchange_0 ?_
  refine x_iconst (v := 0) (by decide) dL_exchange_1 ?_
  refine x_aload_n 0 rfl rfl dL_exchange_2 ?_
  refine x_iload_n 1 rfl rfl dL_exchange_3 ?_
  refine x_iload_n 2 rfl rfl dL_exchange_4 ?_
  refine x_callVI (y := miX11_exchange) (As := [.int x1, .int x2]) (rest := [.int 0, .ref 121]) clX11 kd_0 rfl moX11_exchange rfl mlL_40 (by decide) (by decide) (by simp [Value.category]) rfl dL_exchange_5 (SX11_exchange  M x1 x2) (fun Mx x => by
      show XH _ _ _ _ _ _ _ _ _ _ _ (if x = 1 then some (Mx, .inr (some (.int 1))) else none)
      by_cases hx1 : x = 1
      · subst hx1; rw [if_pos rfl]; exact h_hand [] ⟨0, 17, 20, 18⟩ [] rfl (fun _ h => absurd h List.not_mem_nil) (by decide) (by decide) clk_18 (i := 4) (by decide) (Or.inr ⟨dL_exchange_20, rfl⟩) dL_exchange_22 (by decide) dL_exchange_23 rfl (by decide) (by decide)
      rw [if_neg hx1]
      exact XH.none) (fun M1 v2 => ?_)
  refine x_if_eq (tgt := 15) rfl dL_exchange_8 (fun c => ?_) (fun c => ?_)
  · refine x_lconst (v := 0) (by decide) dL_exchange_15 ?_
    exact GX.pick [] rfl <| SL_exchange_b16  M1 0 0
  · refine x_lconst (v := 1) (by decide) dL_exchange_11 ?_
    refine x_goto (tgt := 16) rfl dL_exchange_12 ?_
    exact GX.pick [] rfl <| SL_exchange_b16  M1 1 0
abbrev miL_best : MI := (cL_best, 4, (some .int), yL_best)
def fL_best (M : Mem) (x1 : Int32) : RS := cL (fX11_best M x1) (fun M1 v2 => wr (sl M1 121 0 v2) (fun M3 => some (M3, .inr (some (.int 0))))) (fun Mx x => if x = 1 then some (Mx, .inr (some (.int 1))) else none)
theorem SL_best (M : Mem) (x1 : Int32) : CTH 8 miL_best [(0, 8, 11, 18)] 1 6 [.ref 0, .int x1, .ref 121] M (fL_best M x1) := by
  refine CTH.of (by decide) (by simp [lg_sl, Value.category]) ?_
  show GH [(0, 8, 11, 18)] 8 1 6 miL_best 0 0 0 [(0, .ref 0), (1, .int x1), (2, .ref 121)] [] M (cL (fX11_best M x1) (fun M1 v2 => wr (sl M1 121 0 v2) (fun M3 => some (M3, .inr (some (.int 0))))) (fun Mx x => if x = 1 then some (Mx, .inr (some (.int 1))) else none))
  refine x_aload_n 2 rfl rfl dL_best_0 ?_
  refine x_iconst (v := 0) (by decide) dL_best_1 ?_
  refine x_aload_n 0 rfl rfl dL_best_2 ?_
  refine x_iload_n 1 rfl rfl dL_best_3 ?_
  refine x_callVL (y := miX11_best) (As := [.int x1]) (rest := [.int 0, .ref 121]) clX11 kd_0 rfl moX11_best rfl mlL_44 (by decide) (by decide) (by simp [Value.category]) rfl dL_best_4 (SX11_best  M x1) (fun Mx x => by
      show XH _ _ _ _ _ _ _ _ _ _ _ (if x = 1 then some (Mx, .inr (some (.int 1))) else none)
      by_cases hx1 : x = 1
      · subst hx1; rw [if_pos rfl]; exact h_hand [] ⟨0, 8, 11, 18⟩ [] rfl (fun _ h => absurd h List.not_mem_nil) (by decide) (by decide) clk_18 (i := 3) (by decide) (Or.inl ⟨3, rfl, dL_best_11, rfl⟩) dL_best_12 (by decide) dL_best_13 rfl (by decide) (by decide)
      rw [if_neg hx1]
      exact XH.none) (fun M1 v2 => ?_)
  refine x_lastL (j := 0) kd_121 (by decide) (by decide) dL_best_7 ?_
  refine GX.wr (fun M3 => ?_)
  refine x_goto (tgt := 14) rfl dL_best_8 ?_
  refine x_iconst (v := 0) (by decide) dL_best_14 ?_
  exact h_ireturn rfl (by decide) (by decide) dL_best_15
abbrev miL_fairest : MI := (cL_fairest, 4, (some .int), yL_fairest)
def fL_fairest (M : Mem) (x1 : Int32) : RS := cI (fX11_fairest M x1) (fun M1 v2 => wr (sl M1 121 0 (Int32.toInt64 v2)) (fun M3 => some (M3, .inr (some (.int 0))))) (fun Mx x => if x = 1 then some (Mx, .inr (some (.int 1))) else none)
theorem SL_fairest (M : Mem) (x1 : Int32) : CTH 8 miL_fairest [(0, 9, 12, 18)] 1 6 [.ref 0, .int x1, .ref 121] M (fL_fairest M x1) := by
  refine CTH.of (by decide) (by simp [lg_sl, Value.category]) ?_
  show GH [(0, 9, 12, 18)] 8 1 6 miL_fairest 0 0 0 [(0, .ref 0), (1, .int x1), (2, .ref 121)] [] M (cI (fX11_fairest M x1) (fun M1 v2 => wr (sl M1 121 0 (Int32.toInt64 v2)) (fun M3 => some (M3, .inr (some (.int 0))))) (fun Mx x => if x = 1 then some (Mx, .inr (some (.int 1))) else none))
  refine x_aload_n 2 rfl rfl dL_fairest_0 ?_
  refine x_iconst (v := 0) (by decide) dL_fairest_1 ?_
  refine x_aload_n 0 rfl rfl dL_fairest_2 ?_
  refine x_iload_n 1 rfl rfl dL_fairest_3 ?_
  refine x_callVI (y := miX11_fairest) (As := [.int x1]) (rest := [.int 0, .ref 121]) clX11 kd_0 rfl moX11_fairest rfl mlL_48 (by decide) (by decide) (by simp [Value.category]) rfl dL_fairest_4 (SX11_fairest  M x1) (fun Mx x => by
      show XH _ _ _ _ _ _ _ _ _ _ _ (if x = 1 then some (Mx, .inr (some (.int 1))) else none)
      by_cases hx1 : x = 1
      · subst hx1; rw [if_pos rfl]; exact h_hand [] ⟨0, 9, 12, 18⟩ [] rfl (fun _ h => absurd h List.not_mem_nil) (by decide) (by decide) clk_18 (i := 3) (by decide) (Or.inl ⟨3, rfl, dL_fairest_12, rfl⟩) dL_fairest_13 (by decide) dL_fairest_14 rfl (by decide) (by decide)
      rw [if_neg hx1]
      exact XH.none) (fun M1 v2 => ?_)
  refine x_i2l dL_fairest_7 ?_
  refine x_lastL (j := 0) kd_121 (by decide) (by decide) dL_fairest_8 ?_
  refine GX.wr (fun M3 => ?_)
  refine x_goto (tgt := 15) rfl dL_fairest_9 ?_
  refine x_iconst (v := 0) (by decide) dL_fairest_15 ?_
  exact h_ireturn rfl (by decide) (by decide) dL_fairest_16
abbrev miL_then : MI := (cL_then, 5, (some .int), yL_then)
def fL_then (M : Mem) (x1 : Int32) (x2 : Int32) : RS := cI (fX11_then M x1 x2) (fun M1 v2 => wr (sl M1 121 0 (Int32.toInt64 v2)) (fun M3 => some (M3, .inr (some (.int 0))))) (fun Mx x => if x = 1 then some (Mx, .inr (some (.int 1))) else if x = 2 then some (Mx, .inr (some (.int 2))) else none)
theorem SL_then (M : Mem) (x1 : Int32) (x2 : Int32) : CTH 8 miL_then [(0, 10, 13, 18), (0, 10, 17, 13)] 2 12 [.ref 0, .int x1, .int x2, .ref 121] M (fL_then M x1 x2) := by
  refine CTH.of (by decide) (by simp [lg_sl, Value.category]) ?_
  show GH [(0, 10, 13, 18), (0, 10, 17, 13)] 8 2 12 miL_then 0 0 0 [(0, .ref 0), (1, .int x1), (2, .int x2), (3, .ref 121)] [] M (cI (fX11_then M x1 x2) (fun M1 v2 => wr (sl M1 121 0 (Int32.toInt64 v2)) (fun M3 => some (M3, .inr (some (.int 0))))) (fun Mx x => if x = 1 then some (Mx, .inr (some (.int 1))) else if x = 2 then some (Mx, .inr (some (.int 2))) else none))
  refine x_aload_n 3 rfl rfl dL_then_0 ?_
  refine x_iconst (v := 0) (by decide) dL_then_1 ?_
  refine x_aload_n 0 rfl rfl dL_then_2 ?_
  refine x_iload_n 1 rfl rfl dL_then_3 ?_
  refine x_iload_n 2 rfl rfl dL_then_4 ?_
  refine x_callVI (y := miX11_then) (As := [.int x1, .int x2]) (rest := [.int 0, .ref 121]) clX11 kd_0 rfl moX11_then rfl mlL_51 (by decide) (by decide) (by simp [Value.category]) rfl dL_then_5 (SX11_then  M x1 x2) (fun Mx x => by
      show XH _ _ _ _ _ _ _ _ _ _ _ (if x = 1 then some (Mx, .inr (some (.int 1))) else if x = 2 then some (Mx, .inr (some (.int 2))) else none)
      by_cases hx1 : x = 1
      · subst hx1; rw [if_pos rfl]; exact h_hand [] ⟨0, 10, 13, 18⟩ [⟨0, 10, 17, 13⟩] rfl (fun _ h => absurd h List.not_mem_nil) (by decide) (by decide) clk_18 (i := 4) (by decide) (Or.inr ⟨dL_then_13, rfl⟩) dL_then_15 (by decide) dL_then_16 rfl (by decide) (by decide)
      rw [if_neg hx1]
      by_cases hx2 : x = 2
      · subst hx2; rw [if_pos rfl]; exact h_hand [⟨0, 10, 13, 18⟩] ⟨0, 10, 17, 13⟩ [] rfl (List.forall_mem_cons.mpr ⟨Or.inr ⟨by decide, nseN, clk_18, Or.inl ⟨rfl, rfl⟩⟩, (fun _ h => absurd h List.not_mem_nil)⟩) (by decide) (by decide) clk_13 (i := 4) (by decide) (Or.inr ⟨dL_then_17, rfl⟩) dL_then_19 (by decide) dL_then_20 rfl (by decide) (by decide)
      rw [if_neg hx2]
      exact XH.none) (fun M1 v2 => ?_)
  refine x_i2l dL_then_8 ?_
  refine x_lastL (j := 0) kd_121 (by decide) (by decide) dL_then_9 ?_
  refine GX.wr (fun M3 => ?_)
  refine x_goto (tgt := 21) rfl dL_then_10 ?_
  refine x_iconst (v := 0) (by decide) dL_then_21 ?_
  exact h_ireturn rfl (by decide) (by decide) dL_then_22
abbrev miL_starves : MI := (cL_starves, 4, (some .int), yL_starves)
def fL_starves (M : Mem) (x1 : Int32) : RS := cI (fX11_starves M x1) (fun M1 v2 => wr (sl M1 121 0 (Int32.toInt64 v2)) (fun M3 => some (M3, .inr (some (.int 0))))) (fun Mx x => if x = 1 then some (Mx, .inr (some (.int 1))) else none)
theorem SL_starves (M : Mem) (x1 : Int32) : CTH 8 miL_starves [(0, 9, 12, 18)] 1 6 [.ref 0, .int x1, .ref 121] M (fL_starves M x1) := by
  refine CTH.of (by decide) (by simp [lg_sl, Value.category]) ?_
  show GH [(0, 9, 12, 18)] 8 1 6 miL_starves 0 0 0 [(0, .ref 0), (1, .int x1), (2, .ref 121)] [] M (cI (fX11_starves M x1) (fun M1 v2 => wr (sl M1 121 0 (Int32.toInt64 v2)) (fun M3 => some (M3, .inr (some (.int 0))))) (fun Mx x => if x = 1 then some (Mx, .inr (some (.int 1))) else none))
  refine x_aload_n 2 rfl rfl dL_starves_0 ?_
  refine x_iconst (v := 0) (by decide) dL_starves_1 ?_
  refine x_aload_n 0 rfl rfl dL_starves_2 ?_
  refine x_iload_n 1 rfl rfl dL_starves_3 ?_
  refine x_callVI (y := miX11_starves) (As := [.int x1]) (rest := [.int 0, .ref 121]) clX11 kd_0 rfl moX11_starves rfl mlL_54 (by decide) (by decide) (by simp [Value.category]) rfl dL_starves_4 (SX11_starves  M x1) (fun Mx x => by
      show XH _ _ _ _ _ _ _ _ _ _ _ (if x = 1 then some (Mx, .inr (some (.int 1))) else none)
      by_cases hx1 : x = 1
      · subst hx1; rw [if_pos rfl]; exact h_hand [] ⟨0, 9, 12, 18⟩ [] rfl (fun _ h => absurd h List.not_mem_nil) (by decide) (by decide) clk_18 (i := 3) (by decide) (Or.inl ⟨3, rfl, dL_starves_12, rfl⟩) dL_starves_13 (by decide) dL_starves_14 rfl (by decide) (by decide)
      rw [if_neg hx1]
      exact XH.none) (fun M1 v2 => ?_)
  refine x_i2l dL_starves_7 ?_
  refine x_lastL (j := 0) kd_121 (by decide) (by decide) dL_starves_8 ?_
  refine GX.wr (fun M3 => ?_)
  refine x_goto (tgt := 15) rfl dL_starves_9 ?_
  refine x_iconst (v := 0) (by decide) dL_starves_15 ?_
  exact h_ireturn rfl (by decide) (by decide) dL_starves_16
abbrev miL_tithes : MI := (cL_tithes, 4, (some .int), yL_tithes)
def fL_tithes (M : Mem) (x1 : Int32) : RS := cI (fX11_tithes M x1) (fun M1 v2 => wr (sl M1 121 0 (Int32.toInt64 v2)) (fun M3 => some (M3, .inr (some (.int 0))))) (fun Mx x => if x = 2 then some (Mx, .inr (some (.int 1))) else none)
theorem SL_tithes (M : Mem) (x1 : Int32) : CTH 8 miL_tithes [(0, 9, 12, 13)] 1 6 [.ref 0, .int x1, .ref 121] M (fL_tithes M x1) := by
  refine CTH.of (by decide) (by simp [lg_sl, Value.category]) ?_
  show GH [(0, 9, 12, 13)] 8 1 6 miL_tithes 0 0 0 [(0, .ref 0), (1, .int x1), (2, .ref 121)] [] M (cI (fX11_tithes M x1) (fun M1 v2 => wr (sl M1 121 0 (Int32.toInt64 v2)) (fun M3 => some (M3, .inr (some (.int 0))))) (fun Mx x => if x = 2 then some (Mx, .inr (some (.int 1))) else none))
  refine x_aload_n 2 rfl rfl dL_tithes_0 ?_
  refine x_iconst (v := 0) (by decide) dL_tithes_1 ?_
  refine x_aload_n 0 rfl rfl dL_tithes_2 ?_
  refine x_iload_n 1 rfl rfl dL_tithes_3 ?_
  refine x_callVI (y := miX11_tithes) (As := [.int x1]) (rest := [.int 0, .ref 121]) clX11 kd_0 rfl moX11_tithes rfl mlL_57 (by decide) (by decide) (by simp [Value.category]) rfl dL_tithes_4 (SX11_tithes  M x1) (fun Mx x => by
      show XH _ _ _ _ _ _ _ _ _ _ _ (if x = 2 then some (Mx, .inr (some (.int 1))) else none)
      by_cases hx2 : x = 2
      · subst hx2; rw [if_pos rfl]; exact h_hand [] ⟨0, 9, 12, 13⟩ [] rfl (fun _ h => absurd h List.not_mem_nil) (by decide) (by decide) clk_13 (i := 3) (by decide) (Or.inl ⟨3, rfl, dL_tithes_12, rfl⟩) dL_tithes_13 (by decide) dL_tithes_14 rfl (by decide) (by decide)
      rw [if_neg hx2]
      exact XH.none) (fun M1 v2 => ?_)
  refine x_i2l dL_tithes_7 ?_
  refine x_lastL (j := 0) kd_121 (by decide) (by decide) dL_tithes_8 ?_
  refine GX.wr (fun M3 => ?_)
  refine x_goto (tgt := 15) rfl dL_tithes_9 ?_
  refine x_iconst (v := 0) (by decide) dL_tithes_15 ?_
  exact h_ireturn rfl (by decide) (by decide) dL_tithes_16
abbrev miL_lotsFor : MI := (cL_lotsFor, 5, (some .int), yL_lotsFor)
def fL_lotsFor (M : Mem) (x1 : Int32) (x2 : Int32) : RS := cI (fX11_lotsFor M x1 x2) (fun M1 v2 => wr (sl M1 121 0 (Int32.toInt64 v2)) (fun M3 => some (M3, .inr (some (.int 0))))) (fun Mx x => if x = 1 then some (Mx, .inr (some (.int 1))) else if x = 2 then some (Mx, .inr (some (.int 2))) else none)
theorem SL_lotsFor (M : Mem) (x1 : Int32) (x2 : Int32) : CTH 8 miL_lotsFor [(0, 10, 13, 18), (0, 10, 17, 13)] 2 12 [.ref 0, .int x1, .int x2, .ref 121] M (fL_lotsFor M x1 x2) := by
  refine CTH.of (by decide) (by simp [lg_sl, Value.category]) ?_
  show GH [(0, 10, 13, 18), (0, 10, 17, 13)] 8 2 12 miL_lotsFor 0 0 0 [(0, .ref 0), (1, .int x1), (2, .int x2), (3, .ref 121)] [] M (cI (fX11_lotsFor M x1 x2) (fun M1 v2 => wr (sl M1 121 0 (Int32.toInt64 v2)) (fun M3 => some (M3, .inr (some (.int 0))))) (fun Mx x => if x = 1 then some (Mx, .inr (some (.int 1))) else if x = 2 then some (Mx, .inr (some (.int 2))) else none))
  refine x_aload_n 3 rfl rfl dL_lotsFor_0 ?_
  refine x_iconst (v := 0) (by decide) dL_lotsFor_1 ?_
  refine x_aload_n 0 rfl rfl dL_lotsFor_2 ?_
  refine x_iload_n 1 rfl rfl dL_lotsFor_3 ?_
  refine x_iload_n 2 rfl rfl dL_lotsFor_4 ?_
  refine x_callVI (y := miX11_lotsFor) (As := [.int x1, .int x2]) (rest := [.int 0, .ref 121]) clX11 kd_0 rfl moX11_lotsFor rfl mlL_60 (by decide) (by decide) (by simp [Value.category]) rfl dL_lotsFor_5 (SX11_lotsFor  M x1 x2) (fun Mx x => by
      show XH _ _ _ _ _ _ _ _ _ _ _ (if x = 1 then some (Mx, .inr (some (.int 1))) else if x = 2 then some (Mx, .inr (some (.int 2))) else none)
      by_cases hx1 : x = 1
      · subst hx1; rw [if_pos rfl]; exact h_hand [] ⟨0, 10, 13, 18⟩ [⟨0, 10, 17, 13⟩] rfl (fun _ h => absurd h List.not_mem_nil) (by decide) (by decide) clk_18 (i := 4) (by decide) (Or.inr ⟨dL_lotsFor_13, rfl⟩) dL_lotsFor_15 (by decide) dL_lotsFor_16 rfl (by decide) (by decide)
      rw [if_neg hx1]
      by_cases hx2 : x = 2
      · subst hx2; rw [if_pos rfl]; exact h_hand [⟨0, 10, 13, 18⟩] ⟨0, 10, 17, 13⟩ [] rfl (List.forall_mem_cons.mpr ⟨Or.inr ⟨by decide, nseN, clk_18, Or.inl ⟨rfl, rfl⟩⟩, (fun _ h => absurd h List.not_mem_nil)⟩) (by decide) (by decide) clk_13 (i := 4) (by decide) (Or.inr ⟨dL_lotsFor_17, rfl⟩) dL_lotsFor_19 (by decide) dL_lotsFor_20 rfl (by decide) (by decide)
      rw [if_neg hx2]
      exact XH.none) (fun M1 v2 => ?_)
  refine x_i2l dL_lotsFor_8 ?_
  refine x_lastL (j := 0) kd_121 (by decide) (by decide) dL_lotsFor_9 ?_
  refine GX.wr (fun M3 => ?_)
  refine x_goto (tgt := 21) rfl dL_lotsFor_10 ?_
  refine x_iconst (v := 0) (by decide) dL_lotsFor_21 ?_
  exact h_ireturn rfl (by decide) (by decide) dL_lotsFor_22
abbrev miL_change : MI := (cL_change, 4, (some .int), yL_change)
def fL_change (M : Mem) (x1 : Int32) : RS := cI (fX11_change M x1) (fun M1 v2 => wr (sl M1 121 0 (Int32.toInt64 v2)) (fun M3 => some (M3, .inr (some (.int 0))))) (fun Mx x => if x = 2 then some (Mx, .inr (some (.int 1))) else none)
theorem SL_change (M : Mem) (x1 : Int32) : CTH 8 miL_change [(0, 9, 12, 13)] 1 6 [.ref 0, .int x1, .ref 121] M (fL_change M x1) := by
  refine CTH.of (by decide) (by simp [lg_sl, Value.category]) ?_
  show GH [(0, 9, 12, 13)] 8 1 6 miL_change 0 0 0 [(0, .ref 0), (1, .int x1), (2, .ref 121)] [] M (cI (fX11_change M x1) (fun M1 v2 => wr (sl M1 121 0 (Int32.toInt64 v2)) (fun M3 => some (M3, .inr (some (.int 0))))) (fun Mx x => if x = 2 then some (Mx, .inr (some (.int 1))) else none))
  refine x_aload_n 2 rfl rfl dL_change_0 ?_
  refine x_iconst (v := 0) (by decide) dL_change_1 ?_
  refine x_aload_n 0 rfl rfl dL_change_2 ?_
  refine x_iload_n 1 rfl rfl dL_change_3 ?_
  refine x_callVI (y := miX11_change) (As := [.int x1]) (rest := [.int 0, .ref 121]) clX11 kd_0 rfl moX11_change rfl mlL_63 (by decide) (by decide) (by simp [Value.category]) rfl dL_change_4 (SX11_change  M x1) (fun Mx x => by
      show XH _ _ _ _ _ _ _ _ _ _ _ (if x = 2 then some (Mx, .inr (some (.int 1))) else none)
      by_cases hx2 : x = 2
      · subst hx2; rw [if_pos rfl]; exact h_hand [] ⟨0, 9, 12, 13⟩ [] rfl (fun _ h => absurd h List.not_mem_nil) (by decide) (by decide) clk_13 (i := 3) (by decide) (Or.inl ⟨3, rfl, dL_change_12, rfl⟩) dL_change_13 (by decide) dL_change_14 rfl (by decide) (by decide)
      rw [if_neg hx2]
      exact XH.none) (fun M1 v2 => ?_)
  refine x_i2l dL_change_7 ?_
  refine x_lastL (j := 0) kd_121 (by decide) (by decide) dL_change_8 ?_
  refine GX.wr (fun M3 => ?_)
  refine x_goto (tgt := 15) rfl dL_change_9 ?_
  refine x_iconst (v := 0) (by decide) dL_change_15 ?_
  exact h_ireturn rfl (by decide) (by decide) dL_change_16
abbrev miL_envied : MI := (cL_envied, 4, (some .int), yL_envied)
def fL_envied (M : Mem) (x1 : Int32) : RS := cI (fX11_envied M x1) (fun M1 v2 => wr (sl M1 121 0 (Int32.toInt64 v2)) (fun M3 => some (M3, .inr (some (.int 0))))) (fun Mx x => if x = 1 then some (Mx, .inr (some (.int 1))) else none)
theorem SL_envied (M : Mem) (x1 : Int32) : CTH 8 miL_envied [(0, 9, 12, 18)] 1 6 [.ref 0, .int x1, .ref 121] M (fL_envied M x1) := by
  refine CTH.of (by decide) (by simp [lg_sl, Value.category]) ?_
  show GH [(0, 9, 12, 18)] 8 1 6 miL_envied 0 0 0 [(0, .ref 0), (1, .int x1), (2, .ref 121)] [] M (cI (fX11_envied M x1) (fun M1 v2 => wr (sl M1 121 0 (Int32.toInt64 v2)) (fun M3 => some (M3, .inr (some (.int 0))))) (fun Mx x => if x = 1 then some (Mx, .inr (some (.int 1))) else none))
  refine x_aload_n 2 rfl rfl dL_envied_0 ?_
  refine x_iconst (v := 0) (by decide) dL_envied_1 ?_
  refine x_aload_n 0 rfl rfl dL_envied_2 ?_
  refine x_iload_n 1 rfl rfl dL_envied_3 ?_
  refine x_callVI (y := miX11_envied) (As := [.int x1]) (rest := [.int 0, .ref 121]) clX11 kd_0 rfl moX11_envied rfl mlL_66 (by decide) (by decide) (by simp [Value.category]) rfl dL_envied_4 (SX11_envied  M x1) (fun Mx x => by
      show XH _ _ _ _ _ _ _ _ _ _ _ (if x = 1 then some (Mx, .inr (some (.int 1))) else none)
      by_cases hx1 : x = 1
      · subst hx1; rw [if_pos rfl]; exact h_hand [] ⟨0, 9, 12, 18⟩ [] rfl (fun _ h => absurd h List.not_mem_nil) (by decide) (by decide) clk_18 (i := 3) (by decide) (Or.inl ⟨3, rfl, dL_envied_12, rfl⟩) dL_envied_13 (by decide) dL_envied_14 rfl (by decide) (by decide)
      rw [if_neg hx1]
      exact XH.none) (fun M1 v2 => ?_)
  refine x_i2l dL_envied_7 ?_
  refine x_lastL (j := 0) kd_121 (by decide) (by decide) dL_envied_8 ?_
  refine GX.wr (fun M3 => ?_)
  refine x_goto (tgt := 15) rfl dL_envied_9 ?_
  refine x_iconst (v := 0) (by decide) dL_envied_15 ?_
  exact h_ireturn rfl (by decide) (by decide) dL_envied_16
abbrev miL_without : MI := (cL_without, 5, (some .int), yL_without)
def fL_without (M : Mem) (x1 : Int32) (x2 : Int32) : RS := cI (fX11_without M x1 x2) (fun M1 v2 => wr (sl M1 121 0 (Int32.toInt64 v2)) (fun M3 => some (M3, .inr (some (.int 0))))) (fun Mx x => if x = 1 then some (Mx, .inr (some (.int 1))) else if x = 2 then some (Mx, .inr (some (.int 2))) else none)
theorem SL_without (M : Mem) (x1 : Int32) (x2 : Int32) : CTH 8 miL_without [(0, 10, 13, 18), (0, 10, 17, 13)] 3 18 [.ref 0, .int x1, .int x2, .ref 121] M (fL_without M x1 x2) := by
  refine CTH.of (by decide) (by simp [lg_sl, Value.category]) ?_
  show GH [(0, 10, 13, 18), (0, 10, 17, 13)] 8 3 18 miL_without 0 0 0 [(0, .ref 0), (1, .int x1), (2, .int x2), (3, .ref 121)] [] M (cI (fX11_without M x1 x2) (fun M1 v2 => wr (sl M1 121 0 (Int32.toInt64 v2)) (fun M3 => some (M3, .inr (some (.int 0))))) (fun Mx x => if x = 1 then some (Mx, .inr (some (.int 1))) else if x = 2 then some (Mx, .inr (some (.int 2))) else none))
  refine x_aload_n 3 rfl rfl dL_without_0 ?_
  refine x_iconst (v := 0) (by decide) dL_without_1 ?_
  refine x_aload_n 0 rfl rfl dL_without_2 ?_
  refine x_iload_n 1 rfl rfl dL_without_3 ?_
  refine x_iload_n 2 rfl rfl dL_without_4 ?_
  refine x_callVI (y := miX11_without) (As := [.int x1, .int x2]) (rest := [.int 0, .ref 121]) clX11 kd_0 rfl moX11_without rfl mlL_69 (by decide) (by decide) (by simp [Value.category]) rfl dL_without_5 (SX11_without  M x1 x2) (fun Mx x => by
      show XH _ _ _ _ _ _ _ _ _ _ _ (if x = 1 then some (Mx, .inr (some (.int 1))) else if x = 2 then some (Mx, .inr (some (.int 2))) else none)
      by_cases hx1 : x = 1
      · subst hx1; rw [if_pos rfl]; exact h_hand [] ⟨0, 10, 13, 18⟩ [⟨0, 10, 17, 13⟩] rfl (fun _ h => absurd h List.not_mem_nil) (by decide) (by decide) clk_18 (i := 4) (by decide) (Or.inr ⟨dL_without_13, rfl⟩) dL_without_15 (by decide) dL_without_16 rfl (by decide) (by decide)
      rw [if_neg hx1]
      by_cases hx2 : x = 2
      · subst hx2; rw [if_pos rfl]; exact h_hand [⟨0, 10, 13, 18⟩] ⟨0, 10, 17, 13⟩ [] rfl (List.forall_mem_cons.mpr ⟨Or.inr ⟨by decide, nseN, clk_18, Or.inl ⟨rfl, rfl⟩⟩, (fun _ h => absurd h List.not_mem_nil)⟩) (by decide) (by decide) clk_13 (i := 4) (by decide) (Or.inr ⟨dL_without_17, rfl⟩) dL_without_19 (by decide) dL_without_20 rfl (by decide) (by decide)
      rw [if_neg hx2]
      exact XH.none) (fun M1 v2 => ?_)
  refine x_i2l dL_without_8 ?_
  refine x_lastL (j := 0) kd_121 (by decide) (by decide) dL_without_9 ?_
  refine GX.wr (fun M3 => ?_)
  refine x_goto (tgt := 21) rfl dL_without_10 ?_
  refine x_iconst (v := 0) (by decide) dL_without_21 ?_
  exact h_ireturn rfl (by decide) (by decide) dL_without_22
abbrev miL_lastPlace : MI := (cL_lastPlace, 4, (some .int), yL_lastPlace)
def fL_lastPlace (M : Mem) (x1 : Int32) : RS := cI (fX11_lastPlace M x1) (fun M1 v2 => wr (sl M1 121 0 (Int32.toInt64 v2)) (fun M3 => some (M3, .inr (some (.int 0))))) (fun Mx x => if x = 1 then some (Mx, .inr (some (.int 1))) else none)
theorem SL_lastPlace (M : Mem) (x1 : Int32) : CTH 8 miL_lastPlace [(0, 9, 12, 18)] 1 6 [.ref 0, .int x1, .ref 121] M (fL_lastPlace M x1) := by
  refine CTH.of (by decide) (by simp [lg_sl, Value.category]) ?_
  show GH [(0, 9, 12, 18)] 8 1 6 miL_lastPlace 0 0 0 [(0, .ref 0), (1, .int x1), (2, .ref 121)] [] M (cI (fX11_lastPlace M x1) (fun M1 v2 => wr (sl M1 121 0 (Int32.toInt64 v2)) (fun M3 => some (M3, .inr (some (.int 0))))) (fun Mx x => if x = 1 then some (Mx, .inr (some (.int 1))) else none))
  refine x_aload_n 2 rfl rfl dL_lastPlace_0 ?_
  refine x_iconst (v := 0) (by decide) dL_lastPlace_1 ?_
  refine x_aload_n 0 rfl rfl dL_lastPlace_2 ?_
  refine x_iload_n 1 rfl rfl dL_lastPlace_3 ?_
  refine x_callVI (y := miX11_lastPlace) (As := [.int x1]) (rest := [.int 0, .ref 121]) clX11 kd_0 rfl moX11_lastPlace rfl mlL_72 (by decide) (by decide) (by simp [Value.category]) rfl dL_lastPlace_4 (SX11_lastPlace  M x1) (fun Mx x => by
      show XH _ _ _ _ _ _ _ _ _ _ _ (if x = 1 then some (Mx, .inr (some (.int 1))) else none)
      by_cases hx1 : x = 1
      · subst hx1; rw [if_pos rfl]; exact h_hand [] ⟨0, 9, 12, 18⟩ [] rfl (fun _ h => absurd h List.not_mem_nil) (by decide) (by decide) clk_18 (i := 3) (by decide) (Or.inl ⟨3, rfl, dL_lastPlace_12, rfl⟩) dL_lastPlace_13 (by decide) dL_lastPlace_14 rfl (by decide) (by decide)
      rw [if_neg hx1]
      exact XH.none) (fun M1 v2 => ?_)
  refine x_i2l dL_lastPlace_7 ?_
  refine x_lastL (j := 0) kd_121 (by decide) (by decide) dL_lastPlace_8 ?_
  refine GX.wr (fun M3 => ?_)
  refine x_goto (tgt := 15) rfl dL_lastPlace_9 ?_
  refine x_iconst (v := 0) (by decide) dL_lastPlace_15 ?_
  exact h_ireturn rfl (by decide) (by decide) dL_lastPlace_16
abbrev miL_famine : MI := (cL_famine, 4, (some .int), yL_famine)
def fL_famine (M : Mem) (x1 : Int32) : RS := cI (fX11_famine M x1) (fun M1 v2 => wr (sl M1 121 0 (Int32.toInt64 v2)) (fun M3 => some (M3, .inr (some (.int 0))))) (fun Mx x => if x = 2 then some (Mx, .inr (some (.int 1))) else none)
theorem SL_famine (M : Mem) (x1 : Int32) : CTH 8 miL_famine [(0, 9, 12, 13)] 1 6 [.ref 0, .int x1, .ref 121] M (fL_famine M x1) := by
  refine CTH.of (by decide) (by simp [lg_sl, Value.category]) ?_
  show GH [(0, 9, 12, 13)] 8 1 6 miL_famine 0 0 0 [(0, .ref 0), (1, .int x1), (2, .ref 121)] [] M (cI (fX11_famine M x1) (fun M1 v2 => wr (sl M1 121 0 (Int32.toInt64 v2)) (fun M3 => some (M3, .inr (some (.int 0))))) (fun Mx x => if x = 2 then some (Mx, .inr (some (.int 1))) else none))
  refine x_aload_n 2 rfl rfl dL_famine_0 ?_
  refine x_iconst (v := 0) (by decide) dL_famine_1 ?_
  refine x_aload_n 0 rfl rfl dL_famine_2 ?_
  refine x_iload_n 1 rfl rfl dL_famine_3 ?_
  refine x_callVI (y := miX11_famine) (As := [.int x1]) (rest := [.int 0, .ref 121]) clX11 kd_0 rfl moX11_famine rfl mlL_75 (by decide) (by decide) (by simp [Value.category]) rfl dL_famine_4 (SX11_famine  M x1) (fun Mx x => by
      show XH _ _ _ _ _ _ _ _ _ _ _ (if x = 2 then some (Mx, .inr (some (.int 1))) else none)
      by_cases hx2 : x = 2
      · subst hx2; rw [if_pos rfl]; exact h_hand [] ⟨0, 9, 12, 13⟩ [] rfl (fun _ h => absurd h List.not_mem_nil) (by decide) (by decide) clk_13 (i := 3) (by decide) (Or.inl ⟨3, rfl, dL_famine_12, rfl⟩) dL_famine_13 (by decide) dL_famine_14 rfl (by decide) (by decide)
      rw [if_neg hx2]
      exact XH.none) (fun M1 v2 => ?_)
  refine x_i2l dL_famine_7 ?_
  refine x_lastL (j := 0) kd_121 (by decide) (by decide) dL_famine_8 ?_
  refine GX.wr (fun M3 => ?_)
  refine x_goto (tgt := 15) rfl dL_famine_9 ?_
  refine x_iconst (v := 0) (by decide) dL_famine_15 ?_
  exact h_ireturn rfl (by decide) (by decide) dL_famine_16
abbrev miL_bushels : MI := (cL_bushels, 5, (some .int), yL_bushels)
def fL_bushels (M : Mem) (x1 : Int32) (x2 : Int32) : RS := cI (fX11_bushels M x1 x2) (fun M1 v2 => wr (sl M1 121 0 (Int32.toInt64 v2)) (fun M3 => some (M3, .inr (some (.int 0))))) (fun Mx x => if x = 1 then some (Mx, .inr (some (.int 1))) else if x = 2 then some (Mx, .inr (some (.int 2))) else none)
theorem SL_bushels (M : Mem) (x1 : Int32) (x2 : Int32) : CTH 8 miL_bushels [(0, 10, 13, 18), (0, 10, 17, 13)] 2 12 [.ref 0, .int x1, .int x2, .ref 121] M (fL_bushels M x1 x2) := by
  refine CTH.of (by decide) (by simp [lg_sl, Value.category]) ?_
  show GH [(0, 10, 13, 18), (0, 10, 17, 13)] 8 2 12 miL_bushels 0 0 0 [(0, .ref 0), (1, .int x1), (2, .int x2), (3, .ref 121)] [] M (cI (fX11_bushels M x1 x2) (fun M1 v2 => wr (sl M1 121 0 (Int32.toInt64 v2)) (fun M3 => some (M3, .inr (some (.int 0))))) (fun Mx x => if x = 1 then some (Mx, .inr (some (.int 1))) else if x = 2 then some (Mx, .inr (some (.int 2))) else none))
  refine x_aload_n 3 rfl rfl dL_bushels_0 ?_
  refine x_iconst (v := 0) (by decide) dL_bushels_1 ?_
  refine x_aload_n 0 rfl rfl dL_bushels_2 ?_
  refine x_iload_n 1 rfl rfl dL_bushels_3 ?_
  refine x_iload_n 2 rfl rfl dL_bushels_4 ?_
  refine x_callVI (y := miX11_bushels) (As := [.int x1, .int x2]) (rest := [.int 0, .ref 121]) clX11 kd_0 rfl moX11_bushels rfl mlL_78 (by decide) (by decide) (by simp [Value.category]) rfl dL_bushels_5 (SX11_bushels  M x1 x2) (fun Mx x => by
      show XH _ _ _ _ _ _ _ _ _ _ _ (if x = 1 then some (Mx, .inr (some (.int 1))) else if x = 2 then some (Mx, .inr (some (.int 2))) else none)
      by_cases hx1 : x = 1
      · subst hx1; rw [if_pos rfl]; exact h_hand [] ⟨0, 10, 13, 18⟩ [⟨0, 10, 17, 13⟩] rfl (fun _ h => absurd h List.not_mem_nil) (by decide) (by decide) clk_18 (i := 4) (by decide) (Or.inr ⟨dL_bushels_13, rfl⟩) dL_bushels_15 (by decide) dL_bushels_16 rfl (by decide) (by decide)
      rw [if_neg hx1]
      by_cases hx2 : x = 2
      · subst hx2; rw [if_pos rfl]; exact h_hand [⟨0, 10, 13, 18⟩] ⟨0, 10, 17, 13⟩ [] rfl (List.forall_mem_cons.mpr ⟨Or.inr ⟨by decide, nseN, clk_18, Or.inl ⟨rfl, rfl⟩⟩, (fun _ h => absurd h List.not_mem_nil)⟩) (by decide) (by decide) clk_13 (i := 4) (by decide) (Or.inr ⟨dL_bushels_17, rfl⟩) dL_bushels_19 (by decide) dL_bushels_20 rfl (by decide) (by decide)
      rw [if_neg hx2]
      exact XH.none) (fun M1 v2 => ?_)
  refine x_i2l dL_bushels_8 ?_
  refine x_lastL (j := 0) kd_121 (by decide) (by decide) dL_bushels_9 ?_
  refine GX.wr (fun M3 => ?_)
  refine x_goto (tgt := 21) rfl dL_bushels_10 ?_
  refine x_iconst (v := 0) (by decide) dL_bushels_21 ?_
  exact h_ireturn rfl (by decide) (by decide) dL_bushels_22
abbrev miL_richest : MI := (cL_richest, 4, (some .int), yL_richest)
def fL_richest (M : Mem) (x1 : Int32) : RS := cI (fX11_richest M x1) (fun M1 v2 => wr (sl M1 121 0 (Int32.toInt64 v2)) (fun M3 => some (M3, .inr (some (.int 0))))) (fun Mx x => if x = 2 then some (Mx, .inr (some (.int 1))) else none)
theorem SL_richest (M : Mem) (x1 : Int32) : CTH 8 miL_richest [(0, 9, 12, 13)] 1 6 [.ref 0, .int x1, .ref 121] M (fL_richest M x1) := by
  refine CTH.of (by decide) (by simp [lg_sl, Value.category]) ?_
  show GH [(0, 9, 12, 13)] 8 1 6 miL_richest 0 0 0 [(0, .ref 0), (1, .int x1), (2, .ref 121)] [] M (cI (fX11_richest M x1) (fun M1 v2 => wr (sl M1 121 0 (Int32.toInt64 v2)) (fun M3 => some (M3, .inr (some (.int 0))))) (fun Mx x => if x = 2 then some (Mx, .inr (some (.int 1))) else none))
  refine x_aload_n 2 rfl rfl dL_richest_0 ?_
  refine x_iconst (v := 0) (by decide) dL_richest_1 ?_
  refine x_aload_n 0 rfl rfl dL_richest_2 ?_
  refine x_iload_n 1 rfl rfl dL_richest_3 ?_
  refine x_callVI (y := miX11_richest) (As := [.int x1]) (rest := [.int 0, .ref 121]) clX11 kd_0 rfl moX11_richest rfl mlL_81 (by decide) (by decide) (by simp [Value.category]) rfl dL_richest_4 (SX11_richest  M x1) (fun Mx x => by
      show XH _ _ _ _ _ _ _ _ _ _ _ (if x = 2 then some (Mx, .inr (some (.int 1))) else none)
      by_cases hx2 : x = 2
      · subst hx2; rw [if_pos rfl]; exact h_hand [] ⟨0, 9, 12, 13⟩ [] rfl (fun _ h => absurd h List.not_mem_nil) (by decide) (by decide) clk_13 (i := 3) (by decide) (Or.inl ⟨3, rfl, dL_richest_12, rfl⟩) dL_richest_13 (by decide) dL_richest_14 rfl (by decide) (by decide)
      rw [if_neg hx2]
      exact XH.none) (fun M1 v2 => ?_)
  refine x_i2l dL_richest_7 ?_
  refine x_lastL (j := 0) kd_121 (by decide) (by decide) dL_richest_8 ?_
  refine GX.wr (fun M3 => ?_)
  refine x_goto (tgt := 15) rfl dL_richest_9 ?_
  refine x_iconst (v := 0) (by decide) dL_richest_15 ?_
  exact h_ireturn rfl (by decide) (by decide) dL_richest_16
abbrev miL_see : MI := (cL_see, 6, (some .int), yL_see)
def fL_see (M : Mem) (x1 : Int32) (x2 : Int32) (x3 : Int32) : RS := cI (fX11_see M x1 x2 x3) (fun M1 v2 => wr (sl M1 121 0 (Int32.toInt64 v2)) (fun M3 => some (M3, .inr (some (.int 0))))) (fun Mx x => if x = 1 then some (Mx, .inr (some (.int 1))) else none)
theorem SL_see (M : Mem) (x1 : Int32) (x2 : Int32) (x3 : Int32) : CTH 8 miL_see [(0, 12, 15, 18)] 1 6 [.ref 0, .int x1, .int x2, .int x3, .ref 121] M (fL_see M x1 x2 x3) := by
  refine CTH.of (by decide) (by simp [lg_sl, Value.category]) ?_
  show GH [(0, 12, 15, 18)] 8 1 6 miL_see 0 0 0 [(0, .ref 0), (1, .int x1), (2, .int x2), (3, .int x3), (4, .ref 121)] [] M (cI (fX11_see M x1 x2 x3) (fun M1 v2 => wr (sl M1 121 0 (Int32.toInt64 v2)) (fun M3 => some (M3, .inr (some (.int 0))))) (fun Mx x => if x = 1 then some (Mx, .inr (some (.int 1))) else none))
  refine x_aload 4 rfl dL_see_0 ?_
  refine x_iconst (v := 0) (by decide) dL_see_2 ?_
  refine x_aload_n 0 rfl rfl dL_see_3 ?_
  refine x_iload_n 1 rfl rfl dL_see_4 ?_
  refine x_iload_n 2 rfl rfl dL_see_5 ?_
  refine x_iload_n 3 rfl rfl dL_see_6 ?_
  refine x_callVI (y := miX11_see) (As := [.int x1, .int x2, .int x3]) (rest := [.int 0, .ref 121]) clX11 kd_0 rfl moX11_see rfl mlL_84 (by decide) (by decide) (by simp [Value.category]) rfl dL_see_7 (SX11_see  M x1 x2 x3) (fun Mx x => by
      show XH _ _ _ _ _ _ _ _ _ _ _ (if x = 1 then some (Mx, .inr (some (.int 1))) else none)
      by_cases hx1 : x = 1
      · subst hx1; rw [if_pos rfl]; exact h_hand [] ⟨0, 12, 15, 18⟩ [] rfl (fun _ h => absurd h List.not_mem_nil) (by decide) (by decide) clk_18 (i := 5) (by decide) (Or.inr ⟨dL_see_15, rfl⟩) dL_see_17 (by decide) dL_see_18 rfl (by decide) (by decide)
      rw [if_neg hx1]
      exact XH.none) (fun M1 v2 => ?_)
  refine x_i2l dL_see_10 ?_
  refine x_lastL (j := 0) kd_121 (by decide) (by decide) dL_see_11 ?_
  refine GX.wr (fun M3 => ?_)
  refine x_goto (tgt := 19) rfl dL_see_12 ?_
  refine x_iconst (v := 0) (by decide) dL_see_19 ?_
  exact h_ireturn rfl (by decide) (by decide) dL_see_20
abbrev miL_look : MI := (cL_look, 5, (some .int), yL_look)
def fL_look (M : Mem) (x1 : Int32) (x2 : Int32) : RS := cI (fX11_look M x1 x2) (fun M1 v2 => wr (sl M1 121 0 (Int32.toInt64 v2)) (fun M3 => some (M3, .inr (some (.int 0))))) (fun Mx x => if x = 1 then some (Mx, .inr (some (.int 1))) else none)
theorem SL_look (M : Mem) (x1 : Int32) (x2 : Int32) : CTH 8 miL_look [(0, 10, 13, 18)] 2 12 [.ref 0, .int x1, .int x2, .ref 121] M (fL_look M x1 x2) := by
  refine CTH.of (by decide) (by simp [lg_sl, Value.category]) ?_
  show GH [(0, 10, 13, 18)] 8 2 12 miL_look 0 0 0 [(0, .ref 0), (1, .int x1), (2, .int x2), (3, .ref 121)] [] M (cI (fX11_look M x1 x2) (fun M1 v2 => wr (sl M1 121 0 (Int32.toInt64 v2)) (fun M3 => some (M3, .inr (some (.int 0))))) (fun Mx x => if x = 1 then some (Mx, .inr (some (.int 1))) else none))
  refine x_aload_n 3 rfl rfl dL_look_0 ?_
  refine x_iconst (v := 0) (by decide) dL_look_1 ?_
  refine x_aload_n 0 rfl rfl dL_look_2 ?_
  refine x_iload_n 1 rfl rfl dL_look_3 ?_
  refine x_iload_n 2 rfl rfl dL_look_4 ?_
  refine x_callVI (y := miX11_look) (As := [.int x1, .int x2]) (rest := [.int 0, .ref 121]) clX11 kd_0 rfl moX11_look rfl mlL_87 (by decide) (by decide) (by simp [Value.category]) rfl dL_look_5 (SX11_look  M x1 x2) (fun Mx x => by
      show XH _ _ _ _ _ _ _ _ _ _ _ (if x = 1 then some (Mx, .inr (some (.int 1))) else none)
      by_cases hx1 : x = 1
      · subst hx1; rw [if_pos rfl]; exact h_hand [] ⟨0, 10, 13, 18⟩ [] rfl (fun _ h => absurd h List.not_mem_nil) (by decide) (by decide) clk_18 (i := 4) (by decide) (Or.inr ⟨dL_look_13, rfl⟩) dL_look_15 (by decide) dL_look_16 rfl (by decide) (by decide)
      rw [if_neg hx1]
      exact XH.none) (fun M1 v2 => ?_)
  refine x_i2l dL_look_8 ?_
  refine x_lastL (j := 0) kd_121 (by decide) (by decide) dL_look_9 ?_
  refine GX.wr (fun M3 => ?_)
  refine x_goto (tgt := 17) rfl dL_look_10 ?_
  refine x_iconst (v := 0) (by decide) dL_look_17 ?_
  exact h_ireturn rfl (by decide) (by decide) dL_look_18
abbrev miL_game : MI := (cL_game, 7, (some .int), yL_game)
def fL_game (M : Mem) (x1 : Int32) (x2 : Int32) (x3 : Int32) (x4 : Int32) : RS := cI (fX11_game M x1 x2 x3 x4) (fun M1 v2 => wr (sl M1 121 0 (Int32.toInt64 v2)) (fun M3 => some (M3, .inr (some (.int 0))))) (fun Mx x => if x = 1 then some (Mx, .inr (some (.int 1))) else if x = 2 then some (Mx, .inr (some (.int 2))) else none)
theorem SL_game (M : Mem) (x1 : Int32) (x2 : Int32) (x3 : Int32) (x4 : Int32) : CTH 8 miL_game [(0, 14, 17, 18), (0, 14, 21, 13)] 5 30 [.ref 0, .int x1, .int x2, .int x3, .int x4, .ref 121] M (fL_game M x1 x2 x3 x4) := by
  refine CTH.of (by decide) (by simp [lg_sl, Value.category]) ?_
  show GH [(0, 14, 17, 18), (0, 14, 21, 13)] 8 5 30 miL_game 0 0 0 [(0, .ref 0), (1, .int x1), (2, .int x2), (3, .int x3), (4, .int x4), (5, .ref 121)] [] M (cI (fX11_game M x1 x2 x3 x4) (fun M1 v2 => wr (sl M1 121 0 (Int32.toInt64 v2)) (fun M3 => some (M3, .inr (some (.int 0))))) (fun Mx x => if x = 1 then some (Mx, .inr (some (.int 1))) else if x = 2 then some (Mx, .inr (some (.int 2))) else none))
  refine x_aload 5 rfl dL_game_0 ?_
  refine x_iconst (v := 0) (by decide) dL_game_2 ?_
  refine x_aload_n 0 rfl rfl dL_game_3 ?_
  refine x_iload_n 1 rfl rfl dL_game_4 ?_
  refine x_iload_n 2 rfl rfl dL_game_5 ?_
  refine x_iload_n 3 rfl rfl dL_game_6 ?_
  refine x_iload 4 rfl dL_game_7 ?_
  refine x_callVI (y := miX11_game) (As := [.int x1, .int x2, .int x3, .int x4]) (rest := [.int 0, .ref 121]) clX11 kd_0 rfl moX11_game rfl mlL_90 (by decide) (by decide) (by simp [Value.category]) rfl dL_game_9 (SX11_game  M x1 x2 x3 x4) (fun Mx x => by
      show XH _ _ _ _ _ _ _ _ _ _ _ (if x = 1 then some (Mx, .inr (some (.int 1))) else if x = 2 then some (Mx, .inr (some (.int 2))) else none)
      by_cases hx1 : x = 1
      · subst hx1; rw [if_pos rfl]; exact h_hand [] ⟨0, 14, 17, 18⟩ [⟨0, 14, 21, 13⟩] rfl (fun _ h => absurd h List.not_mem_nil) (by decide) (by decide) clk_18 (i := 6) (by decide) (Or.inr ⟨dL_game_17, rfl⟩) dL_game_19 (by decide) dL_game_20 rfl (by decide) (by decide)
      rw [if_neg hx1]
      by_cases hx2 : x = 2
      · subst hx2; rw [if_pos rfl]; exact h_hand [⟨0, 14, 17, 18⟩] ⟨0, 14, 21, 13⟩ [] rfl (List.forall_mem_cons.mpr ⟨Or.inr ⟨by decide, nseN, clk_18, Or.inl ⟨rfl, rfl⟩⟩, (fun _ h => absurd h List.not_mem_nil)⟩) (by decide) (by decide) clk_13 (i := 6) (by decide) (Or.inr ⟨dL_game_21, rfl⟩) dL_game_23 (by decide) dL_game_24 rfl (by decide) (by decide)
      rw [if_neg hx2]
      exact XH.none) (fun M1 v2 => ?_)
  refine x_i2l dL_game_12 ?_
  refine x_lastL (j := 0) kd_121 (by decide) (by decide) dL_game_13 ?_
  refine GX.wr (fun M3 => ?_)
  refine x_goto (tgt := 25) rfl dL_game_14 ?_
  refine x_iconst (v := 0) (by decide) dL_game_25 ?_
  exact h_ireturn rfl (by decide) (by decide) dL_game_26
abbrev miL_founders : MI := (cL_founders, 6, (some .int), yL_founders)
def fL_founders (M : Mem) (x1 : Int32) (x2 : Int32) (x3 : Int32) : RS := cI (fX11_founders M x1 x2 x3) (fun M1 v2 => wr (sl M1 121 0 (Int32.toInt64 v2)) (fun M3 => some (M3, .inr (some (.int 0))))) (fun Mx x => if x = 1 then some (Mx, .inr (some (.int 1))) else if x = 2 then some (Mx, .inr (some (.int 2))) else none)
theorem SL_founders (M : Mem) (x1 : Int32) (x2 : Int32) (x3 : Int32) : CTH 8 miL_founders [(0, 12, 15, 18), (0, 12, 19, 13)] 2 12 [.ref 0, .int x1, .int x2, .int x3, .ref 121] M (fL_founders M x1 x2 x3) := by
  refine CTH.of (by decide) (by simp [lg_sl, Value.category]) ?_
  show GH [(0, 12, 15, 18), (0, 12, 19, 13)] 8 2 12 miL_founders 0 0 0 [(0, .ref 0), (1, .int x1), (2, .int x2), (3, .int x3), (4, .ref 121)] [] M (cI (fX11_founders M x1 x2 x3) (fun M1 v2 => wr (sl M1 121 0 (Int32.toInt64 v2)) (fun M3 => some (M3, .inr (some (.int 0))))) (fun Mx x => if x = 1 then some (Mx, .inr (some (.int 1))) else if x = 2 then some (Mx, .inr (some (.int 2))) else none))
  refine x_aload 4 rfl dL_founders_0 ?_
  refine x_iconst (v := 0) (by decide) dL_founders_2 ?_
  refine x_aload_n 0 rfl rfl dL_founders_3 ?_
  refine x_iload_n 1 rfl rfl dL_founders_4 ?_
  refine x_iload_n 2 rfl rfl dL_founders_5 ?_
  refine x_iload_n 3 rfl rfl dL_founders_6 ?_
  refine x_callVI (y := miX11_founders) (As := [.int x1, .int x2, .int x3]) (rest := [.int 0, .ref 121]) clX11 kd_0 rfl moX11_founders rfl mlL_94 (by decide) (by decide) (by simp [Value.category]) rfl dL_founders_7 (SX11_founders  M x1 x2 x3) (fun Mx x => by
      show XH _ _ _ _ _ _ _ _ _ _ _ (if x = 1 then some (Mx, .inr (some (.int 1))) else if x = 2 then some (Mx, .inr (some (.int 2))) else none)
      by_cases hx1 : x = 1
      · subst hx1; rw [if_pos rfl]; exact h_hand [] ⟨0, 12, 15, 18⟩ [⟨0, 12, 19, 13⟩] rfl (fun _ h => absurd h List.not_mem_nil) (by decide) (by decide) clk_18 (i := 5) (by decide) (Or.inr ⟨dL_founders_15, rfl⟩) dL_founders_17 (by decide) dL_founders_18 rfl (by decide) (by decide)
      rw [if_neg hx1]
      by_cases hx2 : x = 2
      · subst hx2; rw [if_pos rfl]; exact h_hand [⟨0, 12, 15, 18⟩] ⟨0, 12, 19, 13⟩ [] rfl (List.forall_mem_cons.mpr ⟨Or.inr ⟨by decide, nseN, clk_18, Or.inl ⟨rfl, rfl⟩⟩, (fun _ h => absurd h List.not_mem_nil)⟩) (by decide) (by decide) clk_13 (i := 5) (by decide) (Or.inr ⟨dL_founders_19, rfl⟩) dL_founders_21 (by decide) dL_founders_22 rfl (by decide) (by decide)
      rw [if_neg hx2]
      exact XH.none) (fun M1 v2 => ?_)
  refine x_i2l dL_founders_10 ?_
  refine x_lastL (j := 0) kd_121 (by decide) (by decide) dL_founders_11 ?_
  refine GX.wr (fun M3 => ?_)
  refine x_goto (tgt := 23) rfl dL_founders_12 ?_
  refine x_iconst (v := 0) (by decide) dL_founders_23 ?_
  exact h_ireturn rfl (by decide) (by decide) dL_founders_24
