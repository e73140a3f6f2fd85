/-! the constructors -/
set_option maxHeartbeats 4000000 in
set_option maxRecDepth 100000 in
theorem n_X6 (l : Launch) (D : va_G) (cI cB cZ : ClassId) (a_o : Nat) : KNEW l yX6_init wsX6_init ({ frames := 1, cells := 1, slots := 200, locals := 12 } : Room) (fun _ => True) D [(cI, .int), (cB, .byte), (cZ, .boolean)] [.ref a_o] [(a_o, .inr (5, [.null, .int 0]))] (fun W1 => ∃ q8, W1 = [(a_o, .inr (5, [.ref q8, .int 0])), (q8, .inl (cI, 200, .inl (fun _ => 0)))]) 1 200 := by
  refine KNEW_of (own := RX6) (cc := cX6_init) (maxL := 1) (by decide) rfl rfl rfl (Nat.le_of_ble_eq_true rfl) ?_
  intro p e s m args below meth c A Q hx hb hml hown hts hA hK hN hin hret H locs ls hP hD hS hl
  have hl : lv_has ls 1 [(0, .ref a_o)] := hl
  have u_X6 : ∀ w ∈ u_ws RX6 TX6 2, w ∈ wsX6_init := by decide +kernel
  refine lv_aload_n hx hb dX6_init_0 rfl (lv_at hl 0 rfl) ?_
  refine W.objInit hx hb hown (hts (.methodLink RX6 1 objectInit) (by decide +kernel)) (hts (.instanceMethod objectInit) (by decide +kernel)) (hts _ (List.mem_of_getElem? (i := 3) rfl)) rfl (by rw [hml]; exact hl.1) rfl dX6_init_1 (Nat.le_of_ble_eq_true rfl) (Nat.le_of_ble_eq_true rfl) ?_
  refine W.eq (g2 := F0 m 4 ls []) rfl ?_
  refine lv_aload_n hx hb dX6_init_4 rfl (lv_at hl 0 rfl) ?_
  refine lv_sipush (v := 200) hx hb dX6_init_5 sc_200 ?_
  refine q_newa (cI := cI) (cB := cB) (cZ := cZ) (atype := .int) (ty := .int) hx hb 0 rfl rfl (hts (.arrayClass .int) (by decide +kernel)) hK hP hD hS hA (a0 := (200, .inl (fun _ => 0))) (N' := 200) (fun _ => rfl) (by decide) rfl (Nat.le_of_ble_eq_true rfl) (Nat.le_of_ble_eq_true rfl) (Nat.le_of_ble_eq_true rfl) dX6_init_8 (fun q8 H hP hD hS => ?_)
  have hP : va_P D vwCl [(a_o, .inr (5, [.null, .int 0])), (q8, .inl (cI, 200, .inl (fun _ => 0)))] H := hP
  have hD : va_D A [(a_o, .inr (5, [.null, .int 0])), (q8, .inl (cI, 200, .inl (fun _ => 0)))] := hD
  refine va_putF (D := D) (ci := 5) (v := .ref q8) (ty := .array .int) (C := RX6) (T := TX6) (N := 2) hx hb hts u_X6 tyX6 tyX6_ok nmX6 hown hK hP hD hS 0 rfl rfl 0 (by decide) (hts (.fieldLink RX6 9 "NoWordNo$Text" "bytes" "[I") (by decide +kernel)) (fun _ h9 => h9) rfl hin rfl (tyX6_ok 0 (by decide)) rfl rfl (Nat.le_of_ble_eq_true rfl) dX6_init_10 (fun H locs hP hD hS => ?_)
  have hP : va_P D vwCl [(a_o, .inr (5, [.ref q8, .int 0])), (q8, .inl (cI, 200, .inl (fun _ => 0)))] H := hP
  have hD : va_D A [(a_o, .inr (5, [.ref q8, .int 0])), (q8, .inl (cI, 200, .inl (fun _ => 0)))] := hD
  refine lv_aload_n hx hb dX6_init_13 rfl (lv_at hl 0 rfl) ?_
  refine lv_iconst (v := 0) hx hb dX6_init_14 ic_0 ?_
  refine va_put (D := D) (ci := 5) (v := .int 0) (ty := .int) (C := RX6) (T := TX6) (N := 2) hx hb hts u_X6 tyX6 tyX6_ok nmX6 hown hK hP hD hS 0 rfl rfl 1 (by decide) (hts (.fieldLink RX6 13 "NoWordNo$Text" "size" "I") (by decide +kernel)) (fun _ h9 => h9) rfl (tyX6_ok 1 (by decide)) rfl rfl (Nat.le_of_ble_eq_true rfl) dX6_init_15 (fun H locs hP hD hS => ?_)
  have hP : va_P D vwCl [(a_o, .inr (5, [.ref q8, .int 0])), (q8, .inl (cI, 200, .inl (fun _ => 0)))] H := hP
  have hD : va_D A [(a_o, .inr (5, [.ref q8, .int 0])), (q8, .inl (cI, 200, .inl (fun _ => 0)))] := hD
  exact hret H locs _ _ _ _ _ (Nat.le_of_ble_eq_true rfl) (Nat.le_of_ble_eq_true rfl) ⟨q8, rfl⟩ hP hD hS dX6_init_18

set_option maxHeartbeats 4000000 in
set_option maxRecDepth 100000 in
theorem n_X8 (l : Launch) (D : va_G) (cI cB cZ : ClassId) (a_o : Nat) : KNEW l yX8_init wsX8_init ({ frames := 1, cells := 2, slots := 33, locals := 12 } : Room) (fun _ => True) D [(cI, .int), (cB, .byte), (cZ, .boolean)] [.ref a_o] [(a_o, .inr (7, [.null, .null, .int 0, .int 0]))] (fun W1 => ∃ q6 q14, W1 = [(a_o, .inr (7, [.ref q6, .ref q14, .int 0, .int 1])), (q6, .inl (cI, 3, .inl (fun _ => 0))), (q14, .inl (cI, 30, .inl (fun _ => 0)))]) 2 33 := by
  refine KNEW_of (own := RX8) (cc := cX8_init) (maxL := 1) (by decide) rfl rfl rfl (Nat.le_of_ble_eq_true rfl) ?_
  intro p e s m args below meth c A Q hx hb hml hown hts hA hK hN hin hret H locs ls hP hD hS hl
  have hl : lv_has ls 1 [(0, .ref a_o)] := hl
  have u_X8 : ∀ w ∈ u_ws RX8 TX8 4, w ∈ wsX8_init := by decide +kernel
  refine lv_aload_n hx hb dX8_init_0 rfl (lv_at hl 0 rfl) ?_
  refine W.objInit hx hb hown (hts (.methodLink RX8 1 objectInit) (by decide +kernel)) (hts (.instanceMethod objectInit) (by decide +kernel)) (hts _ (List.mem_of_getElem? (i := 3) rfl)) rfl (by rw [hml]; exact hl.1) rfl dX8_init_1 (Nat.le_of_ble_eq_true rfl) (Nat.le_of_ble_eq_true rfl) ?_
  refine W.eq (g2 := F0 m 4 ls []) rfl ?_
  refine lv_aload_n hx hb dX8_init_4 rfl (lv_at hl 0 rfl) ?_
  refine lv_iconst (v := 3) hx hb dX8_init_5 ic_3 ?_
  refine q_newa (cI := cI) (cB := cB) (cZ := cZ) (atype := .int) (ty := .int) hx hb 0 rfl rfl (hts (.arrayClass .int) (by decide +kernel)) hK hP hD hS hA (a0 := (3, .inl (fun _ => 0))) (N' := 3) (fun _ => rfl) (by decide) rfl (Nat.le_of_ble_eq_true rfl) (Nat.le_of_ble_eq_true rfl) (Nat.le_of_ble_eq_true rfl) dX8_init_6 (fun q6 H hP hD hS => ?_)
  have hP : va_P D vwCl [(a_o, .inr (7, [.null, .null, .int 0, .int 0])), (q6, .inl (cI, 3, .inl (fun _ => 0)))] H := hP
  have hD : va_D A [(a_o, .inr (7, [.null, .null, .int 0, .int 0])), (q6, .inl (cI, 3, .inl (fun _ => 0)))] := hD
  refine va_putF (D := D) (ci := 7) (v := .ref q6) (ty := .array .int) (C := RX8) (T := TX8) (N := 4) hx hb hts u_X8 tyX8 tyX8_ok nmX8 hown hK hP hD hS 0 rfl rfl 0 (by decide) (hts (.fieldLink RX8 9 "NoWordNo$Tongue" "values" "[I") (by decide +kernel)) (fun _ h9 => h9) rfl hin rfl (tyX8_ok 0 (by decide)) rfl rfl (Nat.le_of_ble_eq_true rfl) dX8_init_8 (fun H locs hP hD hS => ?_)
  have hP : va_P D vwCl [(a_o, .inr (7, [.ref q6, .null, .int 0, .int 0])), (q6, .inl (cI, 3, .inl (fun _ => 0)))] H := hP
  have hD : va_D A [(a_o, .inr (7, [.ref q6, .null, .int 0, .int 0])), (q6, .inl (cI, 3, .inl (fun _ => 0)))] := hD
  refine lv_aload_n hx hb dX8_init_11 rfl (lv_at hl 0 rfl) ?_
  refine lv_bipush (v := 30) hx hb dX8_init_12 bc_30 ?_
  refine q_newa (cI := cI) (cB := cB) (cZ := cZ) (atype := .int) (ty := .int) hx hb 0 rfl rfl (hts (.arrayClass .int) (by decide +kernel)) hK hP hD hS hA (a0 := (30, .inl (fun _ => 0))) (N' := 30) (fun _ => rfl) (by decide) rfl (Nat.le_of_ble_eq_true rfl) (Nat.le_of_ble_eq_true rfl) (Nat.le_of_ble_eq_true rfl) dX8_init_14 (fun q14 H hP hD hS => ?_)
  have hP : va_P D vwCl [(a_o, .inr (7, [.ref q6, .null, .int 0, .int 0])), (q6, .inl (cI, 3, .inl (fun _ => 0))), (q14, .inl (cI, 30, .inl (fun _ => 0)))] H := hP
  have hD : va_D A [(a_o, .inr (7, [.ref q6, .null, .int 0, .int 0])), (q6, .inl (cI, 3, .inl (fun _ => 0))), (q14, .inl (cI, 30, .inl (fun _ => 0)))] := hD
  refine va_putF (D := D) (ci := 7) (v := .ref q14) (ty := .array .int) (C := RX8) (T := TX8) (N := 4) hx hb hts u_X8 tyX8 tyX8_ok nmX8 hown hK hP hD hS 0 rfl rfl 1 (by decide) (hts (.fieldLink RX8 13 "NoWordNo$Tongue" "left" "[I") (by decide +kernel)) (fun _ h9 => h9) rfl hin rfl (tyX8_ok 1 (by decide)) rfl rfl (Nat.le_of_ble_eq_true rfl) dX8_init_16 (fun H locs hP hD hS => ?_)
  have hP : va_P D vwCl [(a_o, .inr (7, [.ref q6, .ref q14, .int 0, .int 0])), (q6, .inl (cI, 3, .inl (fun _ => 0))), (q14, .inl (cI, 30, .inl (fun _ => 0)))] H := hP
  have hD : va_D A [(a_o, .inr (7, [.ref q6, .ref q14, .int 0, .int 0])), (q6, .inl (cI, 3, .inl (fun _ => 0))), (q14, .inl (cI, 30, .inl (fun _ => 0)))] := hD
  refine lv_aload_n hx hb dX8_init_19 rfl (lv_at hl 0 rfl) ?_
  refine lv_iconst (v := 0) hx hb dX8_init_20 ic_0 ?_
  refine va_put (D := D) (ci := 7) (v := .int 0) (ty := .int) (C := RX8) (T := TX8) (N := 4) hx hb hts u_X8 tyX8 tyX8_ok nmX8 hown hK hP hD hS 0 rfl rfl 2 (by decide) (hts (.fieldLink RX8 16 "NoWordNo$Tongue" "choices" "I") (by decide +kernel)) (fun _ h9 => h9) rfl (tyX8_ok 2 (by decide)) rfl rfl (Nat.le_of_ble_eq_true rfl) dX8_init_21 (fun H locs hP hD hS => ?_)
  have hP : va_P D vwCl [(a_o, .inr (7, [.ref q6, .ref q14, .int 0, .int 0])), (q6, .inl (cI, 3, .inl (fun _ => 0))), (q14, .inl (cI, 30, .inl (fun _ => 0)))] H := hP
  have hD : va_D A [(a_o, .inr (7, [.ref q6, .ref q14, .int 0, .int 0])), (q6, .inl (cI, 3, .inl (fun _ => 0))), (q14, .inl (cI, 30, .inl (fun _ => 0)))] := hD
  refine lv_aload_n hx hb dX8_init_24 rfl (lv_at hl 0 rfl) ?_
  refine lv_iconst (v := 1) hx hb dX8_init_25 ic_1 ?_
  refine va_put (D := D) (ci := 7) (v := .int 1) (ty := .int) (C := RX8) (T := TX8) (N := 4) hx hb hts u_X8 tyX8 tyX8_ok nmX8 hown hK hP hD hS 0 rfl rfl 3 (by decide) (hts (.fieldLink RX8 20 "NoWordNo$Tongue" "worlds" "I") (by decide +kernel)) (fun _ h9 => h9) rfl (tyX8_ok 3 (by decide)) rfl rfl (Nat.le_of_ble_eq_true rfl) dX8_init_26 (fun H locs hP hD hS => ?_)
  have hP : va_P D vwCl [(a_o, .inr (7, [.ref q6, .ref q14, .int 0, .int 1])), (q6, .inl (cI, 3, .inl (fun _ => 0))), (q14, .inl (cI, 30, .inl (fun _ => 0)))] H := hP
  have hD : va_D A [(a_o, .inr (7, [.ref q6, .ref q14, .int 0, .int 1])), (q6, .inl (cI, 3, .inl (fun _ => 0))), (q14, .inl (cI, 30, .inl (fun _ => 0)))] := hD
  exact hret H locs _ _ _ _ _ (Nat.le_of_ble_eq_true rfl) (Nat.le_of_ble_eq_true rfl) ⟨q6, q14, rfl⟩ hP hD hS dX8_init_29

set_option maxHeartbeats 4000000 in
set_option maxRecDepth 100000 in
theorem n_X0 (l : Launch) (D : va_G) (cI cB cZ : ClassId) (a_o : Nat) : KNEW l yX0_init wsX0_init ({ frames := 1, cells := 3, slots := 19, locals := 12 } : Room) (fun _ => True) D [(cI, .int), (cB, .byte), (cZ, .boolean)] [.ref a_o] [(a_o, .inr (0, [.null, .null, .null, .int 0, .int 0, .int 0]))] (fun W1 => ∃ q7 q15 q22, W1 = [(a_o, .inr (0, [.ref q7, .ref q15, .ref q22, .int 0, .int 0, .int 0])), (q7, .inl (cI, 8, .inl (fun _ => 0))), (q15, .inl (cI, 8, .inl (fun _ => 0))), (q22, .inl (cI, 3, .inl (fun _ => 0)))]) 3 19 := by
  refine KNEW_of (own := RX0) (cc := cX0_init) (maxL := 1) (by decide) rfl rfl rfl (Nat.le_of_ble_eq_true rfl) ?_
  intro p e s m args below meth c A Q hx hb hml hown hts hA hK hN hin hret H locs ls hP hD hS hl
  have hl : lv_has ls 1 [(0, .ref a_o)] := hl
  have u_X0 : ∀ w ∈ u_ws RX0 TX0 6, w ∈ wsX0_init := by decide +kernel
  refine lv_aload_n hx hb dX0_init_0 rfl (lv_at hl 0 rfl) ?_
  refine W.objInit hx hb hown (hts (.methodLink RX0 1 objectInit) (by decide +kernel)) (hts (.instanceMethod objectInit) (by decide +kernel)) (hts _ (List.mem_of_getElem? (i := 3) rfl)) rfl (by rw [hml]; exact hl.1) rfl dX0_init_1 (Nat.le_of_ble_eq_true rfl) (Nat.le_of_ble_eq_true rfl) ?_
  refine W.eq (g2 := F0 m 4 ls []) rfl ?_
  refine lv_aload_n hx hb dX0_init_4 rfl (lv_at hl 0 rfl) ?_
  refine lv_bipush (v := 8) hx hb dX0_init_5 bc_8 ?_
  refine q_newa (cI := cI) (cB := cB) (cZ := cZ) (atype := .int) (ty := .int) hx hb 0 rfl rfl (hts (.arrayClass .int) (by decide +kernel)) hK hP hD hS hA (a0 := (8, .inl (fun _ => 0))) (N' := 8) (fun _ => rfl) (by decide) rfl (Nat.le_of_ble_eq_true rfl) (Nat.le_of_ble_eq_true rfl) (Nat.le_of_ble_eq_true rfl) dX0_init_7 (fun q7 H hP hD hS => ?_)
  have hP : va_P D vwCl [(a_o, .inr (0, [.null, .null, .null, .int 0, .int 0, .int 0])), (q7, .inl (cI, 8, .inl (fun _ => 0)))] H := hP
  have hD : va_D A [(a_o, .inr (0, [.null, .null, .null, .int 0, .int 0, .int 0])), (q7, .inl (cI, 8, .inl (fun _ => 0)))] := hD
  refine va_putF (D := D) (ci := 0) (v := .ref q7) (ty := .array .int) (C := RX0) (T := TX0) (N := 6) hx hb hts u_X0 tyX0 tyX0_ok nmX0 hown hK hP hD hS 0 rfl rfl 0 (by decide) (hts (.fieldLink RX0 9 "NoWordNo$Kept" "left" "[I") (by decide +kernel)) (fun _ h9 => h9) rfl hin rfl (tyX0_ok 0 (by decide)) rfl rfl (Nat.le_of_ble_eq_true rfl) dX0_init_9 (fun H locs hP hD hS => ?_)
  have hP : va_P D vwCl [(a_o, .inr (0, [.ref q7, .null, .null, .int 0, .int 0, .int 0])), (q7, .inl (cI, 8, .inl (fun _ => 0)))] H := hP
  have hD : va_D A [(a_o, .inr (0, [.ref q7, .null, .null, .int 0, .int 0, .int 0])), (q7, .inl (cI, 8, .inl (fun _ => 0)))] := hD
  refine lv_aload_n hx hb dX0_init_12 rfl (lv_at hl 0 rfl) ?_
  refine lv_bipush (v := 8) hx hb dX0_init_13 bc_8 ?_
  refine q_newa (cI := cI) (cB := cB) (cZ := cZ) (atype := .int) (ty := .int) hx hb 0 rfl rfl (hts (.arrayClass .int) (by decide +kernel)) hK hP hD hS hA (a0 := (8, .inl (fun _ => 0))) (N' := 8) (fun _ => rfl) (by decide) rfl (Nat.le_of_ble_eq_true rfl) (Nat.le_of_ble_eq_true rfl) (Nat.le_of_ble_eq_true rfl) dX0_init_15 (fun q15 H hP hD hS => ?_)
  have hP : va_P D vwCl [(a_o, .inr (0, [.ref q7, .null, .null, .int 0, .int 0, .int 0])), (q7, .inl (cI, 8, .inl (fun _ => 0))), (q15, .inl (cI, 8, .inl (fun _ => 0)))] H := hP
  have hD : va_D A [(a_o, .inr (0, [.ref q7, .null, .null, .int 0, .int 0, .int 0])), (q7, .inl (cI, 8, .inl (fun _ => 0))), (q15, .inl (cI, 8, .inl (fun _ => 0)))] := hD
  refine va_putF (D := D) (ci := 0) (v := .ref q15) (ty := .array .int) (C := RX0) (T := TX0) (N := 6) hx hb hts u_X0 tyX0 tyX0_ok nmX0 hown hK hP hD hS 0 rfl rfl 1 (by decide) (hts (.fieldLink RX0 13 "NoWordNo$Kept" "signs" "[I") (by decide +kernel)) (fun _ h9 => h9) rfl hin rfl (tyX0_ok 1 (by decide)) rfl rfl (Nat.le_of_ble_eq_true rfl) dX0_init_17 (fun H locs hP hD hS => ?_)
  have hP : va_P D vwCl [(a_o, .inr (0, [.ref q7, .ref q15, .null, .int 0, .int 0, .int 0])), (q7, .inl (cI, 8, .inl (fun _ => 0))), (q15, .inl (cI, 8, .inl (fun _ => 0)))] H := hP
  have hD : va_D A [(a_o, .inr (0, [.ref q7, .ref q15, .null, .int 0, .int 0, .int 0])), (q7, .inl (cI, 8, .inl (fun _ => 0))), (q15, .inl (cI, 8, .inl (fun _ => 0)))] := hD
  refine lv_aload_n hx hb dX0_init_20 rfl (lv_at hl 0 rfl) ?_
  refine lv_iconst (v := 3) hx hb dX0_init_21 ic_3 ?_
  refine q_newa (cI := cI) (cB := cB) (cZ := cZ) (atype := .int) (ty := .int) hx hb 0 rfl rfl (hts (.arrayClass .int) (by decide +kernel)) hK hP hD hS hA (a0 := (3, .inl (fun _ => 0))) (N' := 3) (fun _ => rfl) (by decide) rfl (Nat.le_of_ble_eq_true rfl) (Nat.le_of_ble_eq_true rfl) (Nat.le_of_ble_eq_true rfl) dX0_init_22 (fun q22 H hP hD hS => ?_)
  have hP : va_P D vwCl [(a_o, .inr (0, [.ref q7, .ref q15, .null, .int 0, .int 0, .int 0])), (q7, .inl (cI, 8, .inl (fun _ => 0))), (q15, .inl (cI, 8, .inl (fun _ => 0))), (q22, .inl (cI, 3, .inl (fun _ => 0)))] H := hP
  have hD : va_D A [(a_o, .inr (0, [.ref q7, .ref q15, .null, .int 0, .int 0, .int 0])), (q7, .inl (cI, 8, .inl (fun _ => 0))), (q15, .inl (cI, 8, .inl (fun _ => 0))), (q22, .inl (cI, 3, .inl (fun _ => 0)))] := hD
  refine va_putF (D := D) (ci := 0) (v := .ref q22) (ty := .array .int) (C := RX0) (T := TX0) (N := 6) hx hb hts u_X0 tyX0 tyX0_ok nmX0 hown hK hP hD hS 0 rfl rfl 2 (by decide) (hts (.fieldLink RX0 16 "NoWordNo$Kept" "wordSets" "[I") (by decide +kernel)) (fun _ h9 => h9) rfl hin rfl (tyX0_ok 2 (by decide)) rfl rfl (Nat.le_of_ble_eq_true rfl) dX0_init_24 (fun H locs hP hD hS => ?_)
  have hP : va_P D vwCl [(a_o, .inr (0, [.ref q7, .ref q15, .ref q22, .int 0, .int 0, .int 0])), (q7, .inl (cI, 8, .inl (fun _ => 0))), (q15, .inl (cI, 8, .inl (fun _ => 0))), (q22, .inl (cI, 3, .inl (fun _ => 0)))] H := hP
  have hD : va_D A [(a_o, .inr (0, [.ref q7, .ref q15, .ref q22, .int 0, .int 0, .int 0])), (q7, .inl (cI, 8, .inl (fun _ => 0))), (q15, .inl (cI, 8, .inl (fun _ => 0))), (q22, .inl (cI, 3, .inl (fun _ => 0)))] := hD
  refine lv_aload_n hx hb dX0_init_27 rfl (lv_at hl 0 rfl) ?_
  refine lv_iconst (v := 0) hx hb dX0_init_28 ic_0 ?_
  refine va_put (D := D) (ci := 0) (v := .int 0) (ty := .int) (C := RX0) (T := TX0) (N := 6) hx hb hts u_X0 tyX0 tyX0_ok nmX0 hown hK hP hD hS 0 rfl rfl 3 (by decide) (hts (.fieldLink RX0 19 "NoWordNo$Kept" "sayings" "I") (by decide +kernel)) (fun _ h9 => h9) rfl (tyX0_ok 3 (by decide)) rfl rfl (Nat.le_of_ble_eq_true rfl) dX0_init_29 (fun H locs hP hD hS => ?_)
  have hP : va_P D vwCl [(a_o, .inr (0, [.ref q7, .ref q15, .ref q22, .int 0, .int 0, .int 0])), (q7, .inl (cI, 8, .inl (fun _ => 0))), (q15, .inl (cI, 8, .inl (fun _ => 0))), (q22, .inl (cI, 3, .inl (fun _ => 0)))] H := hP
  have hD : va_D A [(a_o, .inr (0, [.ref q7, .ref q15, .ref q22, .int 0, .int 0, .int 0])), (q7, .inl (cI, 8, .inl (fun _ => 0))), (q15, .inl (cI, 8, .inl (fun _ => 0))), (q22, .inl (cI, 3, .inl (fun _ => 0)))] := hD
  refine lv_aload_n hx hb dX0_init_32 rfl (lv_at hl 0 rfl) ?_
  refine lv_iconst (v := 0) hx hb dX0_init_33 ic_0 ?_
  refine va_put (D := D) (ci := 0) (v := .int 0) (ty := .int) (C := RX0) (T := TX0) (N := 6) hx hb hts u_X0 tyX0 tyX0_ok nmX0 hown hK hP hD hS 0 rfl rfl 4 (by decide) (hts (.fieldLink RX0 23 "NoWordNo$Kept" "words" "I") (by decide +kernel)) (fun _ h9 => h9) rfl (tyX0_ok 4 (by decide)) rfl rfl (Nat.le_of_ble_eq_true rfl) dX0_init_34 (fun H locs hP hD hS => ?_)
  have hP : va_P D vwCl [(a_o, .inr (0, [.ref q7, .ref q15, .ref q22, .int 0, .int 0, .int 0])), (q7, .inl (cI, 8, .inl (fun _ => 0))), (q15, .inl (cI, 8, .inl (fun _ => 0))), (q22, .inl (cI, 3, .inl (fun _ => 0)))] H := hP
  have hD : va_D A [(a_o, .inr (0, [.ref q7, .ref q15, .ref q22, .int 0, .int 0, .int 0])), (q7, .inl (cI, 8, .inl (fun _ => 0))), (q15, .inl (cI, 8, .inl (fun _ => 0))), (q22, .inl (cI, 3, .inl (fun _ => 0)))] := hD
  refine lv_aload_n hx hb dX0_init_37 rfl (lv_at hl 0 rfl) ?_
  refine lv_iconst (v := 0) hx hb dX0_init_38 ic_0 ?_
  refine va_put (D := D) (ci := 0) (v := .int 0) (ty := .boolean) (C := RX0) (T := TX0) (N := 6) hx hb hts u_X0 tyX0 tyX0_ok nmX0 hown hK hP hD hS 0 rfl rfl 5 (by decide) (hts (.fieldLink RX0 26 "NoWordNo$Kept" "filled" "Z") (by decide +kernel)) (fun _ h9 => h9) rfl (tyX0_ok 5 (by decide)) rfl rfl (Nat.le_of_ble_eq_true rfl) dX0_init_39 (fun H locs hP hD hS => ?_)
  have hP : va_P D vwCl [(a_o, .inr (0, [.ref q7, .ref q15, .ref q22, .int 0, .int 0, .int 0])), (q7, .inl (cI, 8, .inl (fun _ => 0))), (q15, .inl (cI, 8, .inl (fun _ => 0))), (q22, .inl (cI, 3, .inl (fun _ => 0)))] H := hP
  have hD : va_D A [(a_o, .inr (0, [.ref q7, .ref q15, .ref q22, .int 0, .int 0, .int 0])), (q7, .inl (cI, 8, .inl (fun _ => 0))), (q15, .inl (cI, 8, .inl (fun _ => 0))), (q22, .inl (cI, 3, .inl (fun _ => 0)))] := hD
  exact hret H locs _ _ _ _ _ (Nat.le_of_ble_eq_true rfl) (Nat.le_of_ble_eq_true rfl) ⟨q7, q15, q22, rfl⟩ hP hD hS dX0_init_42

set_option maxHeartbeats 4000000 in
set_option maxRecDepth 100000 in
theorem n_X5 (l : Launch) (D : va_G) (cI cB cZ : ClassId) (a_o a_1 a_2 : Nat) : KNEW l yX5_init wsX5_init ({ frames := 1, cells := 0, slots := 0, locals := 12 } : Room) (fun _ => True) D [(cI, .int), (cB, .byte), (cZ, .boolean)] [.ref a_o, .ref a_1, .ref a_2] [(a_o, .inr (4, [.null, .null]))] (fun W1 => W1 = [(a_o, .inr (4, [.ref a_1, .ref a_2]))]) 0 0 := by
  refine KNEW_of (own := RX5) (cc := cX5_init) (maxL := 3) (by decide) rfl rfl rfl (Nat.le_of_ble_eq_true rfl) ?_
  intro p e s m args below meth c A Q hx hb hml hown hts hA hK hN hin hret H locs ls hP hD hS hl
  have hl : lv_has ls 3 [(0, .ref a_o), (1, .ref a_1), (2, .ref a_2)] := hl
  have u_X5 : ∀ w ∈ u_ws RX5 TX5 2, w ∈ wsX5_init := by decide +kernel
  refine lv_aload_n hx hb dX5_init_0 rfl (lv_at hl 0 rfl) ?_
  refine W.objInit hx hb hown (hts (.methodLink RX5 3 objectInit) (by decide +kernel)) (hts (.instanceMethod objectInit) (by decide +kernel)) (hts _ (List.mem_of_getElem? (i := 3) rfl)) rfl (by rw [hml]; exact hl.1) rfl dX5_init_1 (Nat.le_of_ble_eq_true rfl) (Nat.le_of_ble_eq_true rfl) ?_
  refine W.eq (g2 := F0 m 4 ls []) rfl ?_
  refine lv_aload_n hx hb dX5_init_4 rfl (lv_at hl 0 rfl) ?_
  refine lv_aload_n hx hb dX5_init_5 rfl (lv_at hl 1 rfl) ?_
  refine va_putF (D := D) (ci := 4) (v := .ref a_1) (ty := .object "NoWordNo$Tongue") (C := RX5) (T := TX5) (N := 2) hx hb hts u_X5 tyX5 tyX5_ok nmX5 hown hK hP hD hS 0 rfl rfl 0 (by decide) (hts (.fieldLink RX5 9 "NoWordNo$Signs" "tongue" "LNoWordNo$Tongue;") (by decide +kernel)) (fun _ h9 => h9) rfl hin rfl (tyX5_ok 0 (by decide)) rfl rfl (Nat.le_of_ble_eq_true rfl) dX5_init_6 (fun H locs hP hD hS => ?_)
  have hP : va_P D vwCl [(a_o, .inr (4, [.ref a_1, .null]))] H := hP
  have hD : va_D A [(a_o, .inr (4, [.ref a_1, .null]))] := hD
  refine lv_aload_n hx hb dX5_init_9 rfl (lv_at hl 0 rfl) ?_
  refine lv_aload_n hx hb dX5_init_10 rfl (lv_at hl 2 rfl) ?_
  refine va_putF (D := D) (ci := 4) (v := .ref a_2) (ty := .object "NoWordNo$Kept") (C := RX5) (T := TX5) (N := 2) hx hb hts u_X5 tyX5 tyX5_ok nmX5 hown hK hP hD hS 0 rfl rfl 1 (by decide) (hts (.fieldLink RX5 15 "NoWordNo$Signs" "kept" "LNoWordNo$Kept;") (by decide +kernel)) (fun _ h9 => h9) rfl hin rfl (tyX5_ok 1 (by decide)) rfl rfl (Nat.le_of_ble_eq_true rfl) dX5_init_11 (fun H locs hP hD hS => ?_)
  have hP : va_P D vwCl [(a_o, .inr (4, [.ref a_1, .ref a_2]))] H := hP
  have hD : va_D A [(a_o, .inr (4, [.ref a_1, .ref a_2]))] := hD
  exact hret H locs _ _ _ _ _ (Nat.le_of_ble_eq_true rfl) (Nat.le_of_ble_eq_true rfl) rfl hP hD hS dX5_init_14

set_option maxHeartbeats 4000000 in
set_option maxRecDepth 100000 in
theorem n_X7 (l : Launch) (D : va_G) (cI cB cZ : ClassId) (a_o a_1 : Nat) : KNEW l yX7_init wsX7_init ({ frames := 1, cells := 0, slots := 0, locals := 12 } : Room) (fun _ => True) D [(cI, .int), (cB, .byte), (cZ, .boolean)] [.ref a_o, .ref a_1] [(a_o, .inr (6, [.null, .int 0, .int 0, .int 0]))] (fun W1 => W1 = [(a_o, .inr (6, [.ref a_1, .int 0, .int 0, .int 0]))]) 0 0 := by
  refine KNEW_of (own := RX7) (cc := cX7_init) (maxL := 2) (by decide) rfl rfl rfl (Nat.le_of_ble_eq_true rfl) ?_
  intro p e s m args below meth c A Q hx hb hml hown hts hA hK hN hin hret H locs ls hP hD hS hl
  have hl : lv_has ls 2 [(0, .ref a_o), (1, .ref a_1)] := hl
  have u_X7 : ∀ w ∈ u_ws RX7 TX7 4, w ∈ wsX7_init := by decide +kernel
  refine lv_aload_n hx hb dX7_init_0 rfl (lv_at hl 0 rfl) ?_
  refine W.objInit hx hb hown (hts (.methodLink RX7 1 objectInit) (by decide +kernel)) (hts (.instanceMethod objectInit) (by decide +kernel)) (hts _ (List.mem_of_getElem? (i := 3) rfl)) rfl (by rw [hml]; exact hl.1) rfl dX7_init_1 (Nat.le_of_ble_eq_true rfl) (Nat.le_of_ble_eq_true rfl) ?_
  refine W.eq (g2 := F0 m 4 ls []) rfl ?_
  refine lv_aload_n hx hb dX7_init_4 rfl (lv_at hl 0 rfl) ?_
  refine lv_iconst (v := 0) hx hb dX7_init_5 ic_0 ?_
  refine va_put (D := D) (ci := 6) (v := .int 0) (ty := .int) (C := RX7) (T := TX7) (N := 4) hx hb hts u_X7 tyX7 tyX7_ok nmX7 hown hK hP hD hS 0 rfl rfl 1 (by decide) (hts (.fieldLink RX7 7 "NoWordNo$Tokens" "next" "I") (by decide +kernel)) (fun _ h9 => h9) rfl (tyX7_ok 1 (by decide)) rfl rfl (Nat.le_of_ble_eq_true rfl) dX7_init_6 (fun H locs hP hD hS => ?_)
  have hP : va_P D vwCl [(a_o, .inr (6, [.null, .int 0, .int 0, .int 0]))] H := hP
  have hD : va_D A [(a_o, .inr (6, [.null, .int 0, .int 0, .int 0]))] := hD
  refine lv_aload_n hx hb dX7_init_9 rfl (lv_at hl 0 rfl) ?_
  refine lv_iconst (v := 0) hx hb dX7_init_10 ic_0 ?_
  refine va_put (D := D) (ci := 6) (v := .int 0) (ty := .int) (C := RX7) (T := TX7) (N := 4) hx hb hts u_X7 tyX7 tyX7_ok nmX7 hown hK hP hD hS 0 rfl rfl 2 (by decide) (hts (.fieldLink RX7 13 "NoWordNo$Tokens" "place" "I") (by decide +kernel)) (fun _ h9 => h9) rfl (tyX7_ok 2 (by decide)) rfl rfl (Nat.le_of_ble_eq_true rfl) dX7_init_11 (fun H locs hP hD hS => ?_)
  have hP : va_P D vwCl [(a_o, .inr (6, [.null, .int 0, .int 0, .int 0]))] H := hP
  have hD : va_D A [(a_o, .inr (6, [.null, .int 0, .int 0, .int 0]))] := hD
  refine lv_aload_n hx hb dX7_init_14 rfl (lv_at hl 0 rfl) ?_
  refine lv_iconst (v := 0) hx hb dX7_init_15 ic_0 ?_
  refine va_put (D := D) (ci := 6) (v := .int 0) (ty := .int) (C := RX7) (T := TX7) (N := 4) hx hb hts u_X7 tyX7 tyX7_ok nmX7 hown hK hP hD hS 0 rfl rfl 3 (by decide) (hts (.fieldLink RX7 16 "NoWordNo$Tokens" "kind" "I") (by decide +kernel)) (fun _ h9 => h9) rfl (tyX7_ok 3 (by decide)) rfl rfl (Nat.le_of_ble_eq_true rfl) dX7_init_16 (fun H locs hP hD hS => ?_)
  have hP : va_P D vwCl [(a_o, .inr (6, [.null, .int 0, .int 0, .int 0]))] H := hP
  have hD : va_D A [(a_o, .inr (6, [.null, .int 0, .int 0, .int 0]))] := hD
  refine lv_aload_n hx hb dX7_init_19 rfl (lv_at hl 0 rfl) ?_
  refine lv_aload_n hx hb dX7_init_20 rfl (lv_at hl 1 rfl) ?_
  refine va_putF (D := D) (ci := 6) (v := .ref a_1) (ty := .object "NoWordNo$Text") (C := RX7) (T := TX7) (N := 4) hx hb hts u_X7 tyX7 tyX7_ok nmX7 hown hK hP hD hS 0 rfl rfl 0 (by decide) (hts (.fieldLink RX7 19 "NoWordNo$Tokens" "text" "LNoWordNo$Text;") (by decide +kernel)) (fun _ h9 => h9) rfl hin rfl (tyX7_ok 0 (by decide)) rfl rfl (Nat.le_of_ble_eq_true rfl) dX7_init_21 (fun H locs hP hD hS => ?_)
  have hP : va_P D vwCl [(a_o, .inr (6, [.ref a_1, .int 0, .int 0, .int 0]))] H := hP
  have hD : va_D A [(a_o, .inr (6, [.ref a_1, .int 0, .int 0, .int 0]))] := hD
  exact hret H locs _ _ _ _ _ (Nat.le_of_ble_eq_true rfl) (Nat.le_of_ble_eq_true rfl) rfl hP hD hS dX7_init_24

set_option maxHeartbeats 4000000 in
set_option maxRecDepth 100000 in
theorem n_X9 (l : Launch) (D : va_G) (cI cB cZ : ClassId) (a_o a_1 : Nat) : KNEW l yX9_init wsX9_init ({ frames := 1, cells := 0, slots := 0, locals := 12 } : Room) (fun _ => True) D [(cI, .int), (cB, .byte), (cZ, .boolean)] [.ref a_o, .ref a_1] [(a_o, .inr (8, [.null]))] (fun W1 => W1 = [(a_o, .inr (8, [.ref a_1]))]) 0 0 := by
  refine KNEW_of (own := RX9) (cc := cX9_init) (maxL := 2) (by decide) rfl rfl rfl (Nat.le_of_ble_eq_true rfl) ?_
  intro p e s m args below meth c A Q hx hb hml hown hts hA hK hN hin hret H locs ls hP hD hS hl
  have hl : lv_has ls 2 [(0, .ref a_o), (1, .ref a_1)] := hl
  have u_X9 : ∀ w ∈ u_ws RX9 TX9 1, w ∈ wsX9_init := by decide +kernel
  refine lv_aload_n hx hb dX9_init_0 rfl (lv_at hl 0 rfl) ?_
  refine W.objInit hx hb hown (hts (.methodLink RX9 1 objectInit) (by decide +kernel)) (hts (.instanceMethod objectInit) (by decide +kernel)) (hts _ (List.mem_of_getElem? (i := 3) rfl)) rfl (by rw [hml]; exact hl.1) rfl dX9_init_1 (Nat.le_of_ble_eq_true rfl) (Nat.le_of_ble_eq_true rfl) ?_
  refine W.eq (g2 := F0 m 4 ls []) rfl ?_
  refine lv_aload_n hx hb dX9_init_4 rfl (lv_at hl 0 rfl) ?_
  refine lv_aload_n hx hb dX9_init_5 rfl (lv_at hl 1 rfl) ?_
  refine va_putF (D := D) (ci := 8) (v := .ref a_1) (ty := .object "NoWordNo$Tongue") (C := RX9) (T := TX9) (N := 1) hx hb hts u_X9 tyX9 tyX9_ok nmX9 hown hK hP hD hS 0 rfl rfl 0 (by decide) (hts (.fieldLink RX9 7 "NoWordNo$Two" "tongue" "LNoWordNo$Tongue;") (by decide +kernel)) (fun _ h9 => h9) rfl hin rfl (tyX9_ok 0 (by decide)) rfl rfl (Nat.le_of_ble_eq_true rfl) dX9_init_6 (fun H locs hP hD hS => ?_)
  have hP : va_P D vwCl [(a_o, .inr (8, [.ref a_1]))] H := hP
  have hD : va_D A [(a_o, .inr (8, [.ref a_1]))] := hD
  exact hret H locs _ _ _ _ _ (Nat.le_of_ble_eq_true rfl) (Nat.le_of_ble_eq_true rfl) rfl hP hD hS dX9_init_9

set_option maxHeartbeats 4000000 in
set_option maxRecDepth 100000 in
theorem n_X3 (l : Launch) (D : va_G) (cI cB cZ : ClassId) (a_o a_1 a_2 : Nat) : KNEW l yX3_init wsX3_init ({ frames := 1, cells := 0, slots := 0, locals := 12 } : Room) (fun _ => True) D [(cI, .int), (cB, .byte), (cZ, .boolean)] [.ref a_o, .ref a_1, .ref a_2] [(a_o, .inr (3, [.null, .null, .int 0, .int 0, .int 0]))] (fun W1 => W1 = [(a_o, .inr (3, [.ref a_1, .ref a_2, .int 0, .int 0, .int 0]))]) 0 0 := by
  refine KNEW_of (own := RX3) (cc := cX3_init) (maxL := 3) (by decide) rfl rfl rfl (Nat.le_of_ble_eq_true rfl) ?_
  intro p e s m args below meth c A Q hx hb hml hown hts hA hK hN hin hret H locs ls hP hD hS hl
  have hl : lv_has ls 3 [(0, .ref a_o), (1, .ref a_1), (2, .ref a_2)] := hl
  have u_X3 : ∀ w ∈ u_ws RX3 TX3 5, w ∈ wsX3_init := by decide +kernel
  refine lv_aload_n hx hb dX3_init_0 rfl (lv_at hl 0 rfl) ?_
  refine W.objInit hx hb hown (hts (.methodLink RX3 1 objectInit) (by decide +kernel)) (hts (.instanceMethod objectInit) (by decide +kernel)) (hts _ (List.mem_of_getElem? (i := 3) rfl)) rfl (by rw [hml]; exact hl.1) rfl dX3_init_1 (Nat.le_of_ble_eq_true rfl) (Nat.le_of_ble_eq_true rfl) ?_
  refine W.eq (g2 := F0 m 4 ls []) rfl ?_
  refine lv_aload_n hx hb dX3_init_4 rfl (lv_at hl 0 rfl) ?_
  refine lv_iconst (v := 0) hx hb dX3_init_5 ic_0 ?_
  refine va_put (D := D) (ci := 3) (v := .int 0) (ty := .int) (C := RX3) (T := TX3) (N := 5) hx hb hts u_X3 tyX3 tyX3_ok nmX3 hown hK hP hD hS 0 rfl rfl 2 (by decide) (hts (.fieldLink RX3 7 "NoWordNo$Refusals" "sign" "I") (by decide +kernel)) (fun _ h9 => h9) rfl (tyX3_ok 2 (by decide)) rfl rfl (Nat.le_of_ble_eq_true rfl) dX3_init_6 (fun H locs hP hD hS => ?_)
  have hP : va_P D vwCl [(a_o, .inr (3, [.null, .null, .int 0, .int 0, .int 0]))] H := hP
  have hD : va_D A [(a_o, .inr (3, [.null, .null, .int 0, .int 0, .int 0]))] := hD
  refine lv_aload_n hx hb dX3_init_9 rfl (lv_at hl 0 rfl) ?_
  refine lv_iconst (v := 0) hx hb dX3_init_10 ic_0 ?_
  refine va_put (D := D) (ci := 3) (v := .int 0) (ty := .int) (C := RX3) (T := TX3) (N := 5) hx hb hts u_X3 tyX3 tyX3_ok nmX3 hown hK hP hD hS 0 rfl rfl 3 (by decide) (hts (.fieldLink RX3 13 "NoWordNo$Refusals" "sum" "I") (by decide +kernel)) (fun _ h9 => h9) rfl (tyX3_ok 3 (by decide)) rfl rfl (Nat.le_of_ble_eq_true rfl) dX3_init_11 (fun H locs hP hD hS => ?_)
  have hP : va_P D vwCl [(a_o, .inr (3, [.null, .null, .int 0, .int 0, .int 0]))] H := hP
  have hD : va_D A [(a_o, .inr (3, [.null, .null, .int 0, .int 0, .int 0]))] := hD
  refine lv_aload_n hx hb dX3_init_14 rfl (lv_at hl 0 rfl) ?_
  refine lv_iconst (v := 0) hx hb dX3_init_15 ic_0 ?_
  refine va_put (D := D) (ci := 3) (v := .int 0) (ty := .boolean) (C := RX3) (T := TX3) (N := 5) hx hb hts u_X3 tyX3 tyX3_ok nmX3 hown hK hP hD hS 0 rfl rfl 4 (by decide) (hts (.fieldLink RX3 16 "NoWordNo$Refusals" "known" "Z") (by decide +kernel)) (fun _ h9 => h9) rfl (tyX3_ok 4 (by decide)) rfl rfl (Nat.le_of_ble_eq_true rfl) dX3_init_16 (fun H locs hP hD hS => ?_)
  have hP : va_P D vwCl [(a_o, .inr (3, [.null, .null, .int 0, .int 0, .int 0]))] H := hP
  have hD : va_D A [(a_o, .inr (3, [.null, .null, .int 0, .int 0, .int 0]))] := hD
  refine lv_aload_n hx hb dX3_init_19 rfl (lv_at hl 0 rfl) ?_
  refine lv_aload_n hx hb dX3_init_20 rfl (lv_at hl 1 rfl) ?_
  refine va_putF (D := D) (ci := 3) (v := .ref a_1) (ty := .object "NoWordNo$Tongue") (C := RX3) (T := TX3) (N := 5) hx hb hts u_X3 tyX3 tyX3_ok nmX3 hown hK hP hD hS 0 rfl rfl 0 (by decide) (hts (.fieldLink RX3 20 "NoWordNo$Refusals" "tongue" "LNoWordNo$Tongue;") (by decide +kernel)) (fun _ h9 => h9) rfl hin rfl (tyX3_ok 0 (by decide)) rfl rfl (Nat.le_of_ble_eq_true rfl) dX3_init_21 (fun H locs hP hD hS => ?_)
  have hP : va_P D vwCl [(a_o, .inr (3, [.ref a_1, .null, .int 0, .int 0, .int 0]))] H := hP
  have hD : va_D A [(a_o, .inr (3, [.ref a_1, .null, .int 0, .int 0, .int 0]))] := hD
  refine lv_aload_n hx hb dX3_init_24 rfl (lv_at hl 0 rfl) ?_
  refine lv_aload_n hx hb dX3_init_25 rfl (lv_at hl 2 rfl) ?_
  refine va_putF (D := D) (ci := 3) (v := .ref a_2) (ty := .object "NoWordNo$Lengths") (C := RX3) (T := TX3) (N := 5) hx hb hts u_X3 tyX3 tyX3_ok nmX3 hown hK hP hD hS 0 rfl rfl 1 (by decide) (hts (.fieldLink RX3 24 "NoWordNo$Refusals" "tried" "LNoWordNo$Lengths;") (by decide +kernel)) (fun _ h9 => h9) rfl hin rfl (tyX3_ok 1 (by decide)) rfl rfl (Nat.le_of_ble_eq_true rfl) dX3_init_26 (fun H locs hP hD hS => ?_)
  have hP : va_P D vwCl [(a_o, .inr (3, [.ref a_1, .ref a_2, .int 0, .int 0, .int 0]))] H := hP
  have hD : va_D A [(a_o, .inr (3, [.ref a_1, .ref a_2, .int 0, .int 0, .int 0]))] := hD
  exact hret H locs _ _ _ _ _ (Nat.le_of_ble_eq_true rfl) (Nat.le_of_ble_eq_true rfl) rfl hP hD hS dX3_init_29

