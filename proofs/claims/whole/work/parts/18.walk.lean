abbrev rmX11_due : Room := { frames := 2, cells := 0, slots := 0, locals := 44 }
theorem hdX11_due : yX11_due.cls = RX11 ∧ yX11_due.cls ≠ "java/lang/invoke/MethodHandle" ∧ yX11_due.cls ≠ "java/lang/invoke/VarHandle" ∧ (parseMethodDescriptor yX11_due.desc).map (fun d => d.parameters.length) = some 1 := by decide +kernel
set_option maxRecDepth 100000 in
set_option maxHeartbeats 4000000 in
theorem c_X11_due (l : Launch) (D : va_G) (cI cB cZ : ClassId) (a_o : Nat) (o_trace : Int64) (o_typed : Int32) (o_choices : Int32) (o_worlds : Int32) (w_o_values : Value) (o_at : Int32) (o_start : Int32) (o_sort : Int32) (o_value : Int32) (o_fault : Int32) (w_o_draft : Value) (w_o_sayings : Value) (w_o_leaves : Value) (w_o_signs : Value) (w_o_words : Value) (w_o_word : Value) (w_o_isKept : Value) (w_o_some : Value) (w_o_every : Value) (o_deep : Int32) (o_many : Int32) (w_o_length : Value) (w_o_found : Value) (o_foundMany : Int32) (a_text : Nat) (f_text : Nat → Int32) (p1 : Int32) (z : Int32 × Int32 × Int32 × Int32 × Int32 × Int32) (h : P_X11_due p1 o_typed o_at o_start o_sort o_value o_fault f_text = some z) : KI l yX11_due wsX11_due rmX11_due D [(cI, .int), (cB, .byte), (cZ, .boolean)] [.ref a_o, .int p1] [(a_o, .inr (10, [.long o_trace, .ref a_text, .int o_typed, .int o_choices, .int o_worlds, w_o_values, .int o_at, .int o_start, .int o_sort, .int o_value, .int o_fault, w_o_draft, w_o_sayings, w_o_leaves, w_o_signs, w_o_words, w_o_word, w_o_isKept, w_o_some, w_o_every, .int o_deep, .int o_many, w_o_length, w_o_found, .int o_foundMany])), (a_text, .inl (cB, 200, .inl f_text))] [(a_o, .inr (10, [.long o_trace, .ref a_text, .int o_typed, .int o_choices, .int o_worlds, w_o_values, .int z.2.1, .int z.2.2.1, .int z.2.2.2.1, .int z.2.2.2.2.1, .int z.2.2.2.2.2, w_o_draft, w_o_sayings, w_o_leaves, w_o_signs, w_o_words, w_o_word, w_o_isKept, w_o_some, w_o_every, .int o_deep, .int o_many, w_o_length, w_o_found, .int o_foundMany])), (a_text, .inl (cB, 200, .inl f_text))] z.1 := by
  refine KI_of (own := RX11) (cc := cX11_due) (maxL := 3) (ret := some .int) (by decide) rfl rfl (Nat.le_of_ble_eq_true rfl) (Or.inl rfl) ?_
  intro p e s m args below meth c A Q hx hb hml hown hts hA hZ hK hret H locs ls hP hD hS hl
  have hl : lv_has ls 3 [(0, .ref a_o), (1, .int p1)] := hl
  have hF : CallFix p m c cX11_due 3 s args wsX11_due RX11 := ⟨hx, hb, hml, hown, hts⟩
  have u_X11 : ∀ w ∈ u_ws RX11 TX11 25, w ∈ wsX11_due := by decide +kernel
  have k_f0 := hts (.fieldLink RX11 74 "NoWordNoModel" "value" "I") (by decide +kernel)
  have k_f1 := hts (.fieldLink RX11 85 "NoWordNoModel" "fault" "I") (by decide +kernel)
  have k_f2 := hts (.fieldLink RX11 71 "NoWordNoModel" "start" "I") (by decide +kernel)
  unfold P_X11_due at h
  refine lv_aload_n hx hb dX11_due_0 rfl (lv_at hl 0 rfl) ?_
  refine va_get (D := D) (ci := 10) (v := .int o_value) (C := RX11) (T := TX11) (N := 25) hx hb hts u_X11 hown hK hP 0 rfl rfl 9 (by decide) k_f0 (fun _ h9 => h9) rfl dX11_due_1 ?_
  refine lv_istore_n (lv' := [(2, .int o_value), (0, .ref a_o), (1, .int p1)]) hx hb dX11_due_4 rfl hl (by decide) rfl (fun ls hl => ?_)
  refine lv_aload_n hx hb dX11_due_5 rfl (lv_at hl 1 rfl) ?_
  refine va_get (D := D) (ci := 10) (v := .int o_fault) (C := RX11) (T := TX11) (N := 25) hx hb hts u_X11 hown hK hP 0 rfl rfl 10 (by decide) k_f1 (fun _ h9 => h9) rfl dX11_due_6 ?_
  refine lv_bipush (v := (-9)) hx hb dX11_due_9 bc_m9 ?_
  refine lv_icmp_ne (tgt := 33) hx hb dX11_due_11 (by decide) (fun c_11 => ?_) (fun c_11 => ?_)
  · replace h := if_e c_11 h
    refine lv_iload_n hx hb dX11_due_33 rfl (lv_at hl 0 rfl) ?_
    have hz := Option.some.inj h
    subst hz
    exact hret H locs 34 ls (fun ty h => by cases h; rfl) hP hD hS dX11_due_34
  · replace h := it_e c_11 h
    refine lv_iload_n hx hb dX11_due_14 rfl (lv_at hl 2 rfl) ?_
    refine lv_if_eq (tgt := 25) hx hb dX11_due_15 (by decide) (fun c_15 => ?_) (fun c_15 => ?_)
    · replace h := it_e c_15 h
      refine lv_aload_n hx hb dX11_due_25 rfl (lv_at hl 1 rfl) ?_
      refine lv_aload_n hx hb dX11_due_26 rfl (lv_at hl 1 rfl) ?_
      refine va_get (D := D) (ci := 10) (v := .int o_start) (C := RX11) (T := TX11) (N := 25) hx hb hts u_X11 hown hK hP 0 rfl rfl 7 (by decide) k_f2 (fun _ h9 => h9) rfl dX11_due_27 ?_
      refine va_put (D := D) (ci := 10) (v := .int o_start) (ty := .int) (C := RX11) (T := TX11) (N := 25) hx hb hts u_X11 tyX11 tyX11_ok nmX11 hown hK hP hD hS 0 rfl rfl 10 (by decide) k_f1 (fun _ h9 => h9) rfl (tyX11_ok 10 (by decide)) rfl rfl (Nat.le_of_ble_eq_true rfl) dX11_due_30 (fun H locs hP hD hS => ?_)
      have hP : va_P D vwCl [(a_o, .inr (10, [.long o_trace, .ref a_text, .int o_typed, .int o_choices, .int o_worlds, w_o_values, .int o_at, .int o_start, .int o_sort, .int o_value, .int o_start, w_o_draft, w_o_sayings, w_o_leaves, w_o_signs, w_o_words, w_o_word, w_o_isKept, w_o_some, w_o_every, .int o_deep, .int o_many, w_o_length, w_o_found, .int o_foundMany])), (a_text, .inl (cB, 200, .inl f_text))] H := hP
      have hD : va_D A [(a_o, .inr (10, [.long o_trace, .ref a_text, .int o_typed, .int o_choices, .int o_worlds, w_o_values, .int o_at, .int o_start, .int o_sort, .int o_value, .int o_start, w_o_draft, w_o_sayings, w_o_leaves, w_o_signs, w_o_words, w_o_word, w_o_isKept, w_o_some, w_o_every, .int o_deep, .int o_many, w_o_length, w_o_found, .int o_foundMany])), (a_text, .inl (cB, 200, .inl f_text))] := hD
      refine lv_iload_n hx hb dX11_due_33 rfl (lv_at hl 0 rfl) ?_
      have hz := Option.some.inj h
      subst hz
      exact hret H locs 34 ls (fun ty h => by cases h; rfl) hP hD hS dX11_due_34
    · replace h := if_e c_15 h
      refine lv_aload_n hx hb dX11_due_18 rfl (lv_at hl 1 rfl) ?_
      obtain ⟨z_19, hc_19, h⟩ := bd_e h
      refine q_vV (As := []) (rest := []) (wF := [(a_o, .inr (10, [.long o_trace, .ref a_text, .int o_typed, .int o_choices, .int o_worlds, w_o_values, .int z_19.1, .int z_19.2.1, .int z_19.2.2.1, .int z_19.2.2.2, .int o_fault, w_o_draft, w_o_sayings, w_o_leaves, w_o_signs, w_o_words, w_o_word, w_o_isKept, w_o_some, w_o_every, .int o_deep, .int o_many, w_o_length, w_o_found, .int o_foundMany])), (a_text, .inl (cB, 200, .inl f_text))]) hF hA hZ hK hP hD hS (c_X11_next l D cI cB cZ a_o o_trace o_typed o_choices o_worlds w_o_values o_at o_start o_sort o_value o_fault w_o_draft w_o_sayings w_o_leaves w_o_signs w_o_words w_o_word w_o_isKept w_o_some w_o_every o_deep o_many w_o_length w_o_found o_foundMany a_text f_text z_19 hc_19) rfl gX11_due_X11_next hdX11_next ⟨rfl, rfl⟩ (Nat.le_of_ble_eq_true rfl) (Nat.le_of_ble_eq_true rfl) 10 0 rfl rfl [0, 1] [] rfl rfl rfl rfl (by decide) rfl hl.1 rfl (Nat.le_of_ble_eq_true rfl) (Nat.zero_le _) (Nat.zero_le _) dX11_due_19 (fun H locs hP hD hS => ?_)
      refine lv_goto (tgt := 33) hx hb dX11_due_22 (by decide) ?_
      refine lv_iload_n hx hb dX11_due_33 rfl (lv_at hl 0 rfl) ?_
      have hz := Option.some.inj h
      subst hz
      exact hret H locs 34 ls (fun ty h => by cases h; rfl) hP hD hS dX11_due_34
abbrev rmX11_tongue : Room := { frames := 3, cells := 0, slots := 0, locals := 66 }
theorem hdX11_tongue : yX11_tongue.cls = RX11 ∧ yX11_tongue.cls ≠ "java/lang/invoke/MethodHandle" ∧ yX11_tongue.cls ≠ "java/lang/invoke/VarHandle" ∧ (parseMethodDescriptor yX11_tongue.desc).map (fun d => d.parameters.length) = some 0 := by decide +kernel
set_option maxRecDepth 100000 in
set_option maxHeartbeats 4000000 in
theorem c_X11_tongue (l : Launch) (D : va_G) (cI cB cZ : ClassId) (a_o : Nat) (o_trace : Int64) (o_typed : Int32) (o_choices : Int32) (o_worlds : Int32) (o_at : Int32) (o_start : Int32) (o_sort : Int32) (o_value : Int32) (o_fault : Int32) (w_o_leaves : Value) (w_o_signs : Value) (w_o_word : Value) (w_o_some : Value) (w_o_every : Value) (o_deep : Int32) (o_many : Int32) (w_o_length : Value) (w_o_found : Value) (o_foundMany : Int32) (a_text : Nat) (f_text : Nat → Int32) (a_values : Nat) (f_values : Nat → Int32) (a_draft : Nat) (f_draft : Nat → Int32) (a_sayings : Nat) (f_sayings : Nat → Int32) (a_words : Nat) (f_words : Nat → Int32) (a_isKept : Nat) (f_isKept : Nat → Int32) (z : Int32 × Int32 × Int32 × Int32 × Int32 × Int32 × Int32 × Int32 × Int32 × (Nat → Int32) × (Nat → Int32) × (Nat → Int32) × (Nat → Int32) × (Nat → Int32)) (h : P_X11_tongue o_typed o_choices o_worlds o_at o_start o_sort o_value o_fault f_text f_values f_draft f_sayings f_words f_isKept = some z) : KI l yX11_tongue wsX11_tongue rmX11_tongue D [(cI, .int), (cB, .byte), (cZ, .boolean)] [.ref a_o] [(a_o, .inr (10, [.long o_trace, .ref a_text, .int o_typed, .int o_choices, .int o_worlds, .ref a_values, .int o_at, .int o_start, .int o_sort, .int o_value, .int o_fault, .ref a_draft, .ref a_sayings, w_o_leaves, w_o_signs, .ref a_words, w_o_word, .ref a_isKept, w_o_some, w_o_every, .int o_deep, .int o_many, w_o_length, w_o_found, .int o_foundMany])), (a_text, .inl (cB, 200, .inl f_text)), (a_values, .inl (cI, 3, .inl f_values)), (a_draft, .inl (cI, 3, .inl f_draft)), (a_sayings, .inl (cI, 3, .inl f_sayings)), (a_words, .inl (cI, 3, .inl f_words)), (a_isKept, .inl (cZ, 2, .inl f_isKept))] [(a_o, .inr (10, [.long o_trace, .ref a_text, .int z.2.1, .int z.2.2.1, .int z.2.2.2.1, .ref a_values, .int z.2.2.2.2.1, .int z.2.2.2.2.2.1, .int z.2.2.2.2.2.2.1, .int z.2.2.2.2.2.2.2.1, .int z.2.2.2.2.2.2.2.2.1, .ref a_draft, .ref a_sayings, w_o_leaves, w_o_signs, .ref a_words, w_o_word, .ref a_isKept, w_o_some, w_o_every, .int o_deep, .int o_many, w_o_length, w_o_found, .int o_foundMany])), (a_text, .inl (cB, 200, .inl f_text)), (a_values, .inl (cI, 3, .inl z.2.2.2.2.2.2.2.2.2.1)), (a_draft, .inl (cI, 3, .inl z.2.2.2.2.2.2.2.2.2.2.1)), (a_sayings, .inl (cI, 3, .inl z.2.2.2.2.2.2.2.2.2.2.2.1)), (a_words, .inl (cI, 3, .inl z.2.2.2.2.2.2.2.2.2.2.2.2.1)), (a_isKept, .inl (cZ, 2, .inl z.2.2.2.2.2.2.2.2.2.2.2.2.2))] z.1 := by
  refine KI_of (own := RX11) (cc := cX11_tongue) (maxL := 4) (ret := some .int) (by decide) rfl rfl (Nat.le_of_ble_eq_true rfl) (Or.inl rfl) ?_
  intro p e s m args below meth c A Q hx hb hml hown hts hA hZ hK hret H locs ls hP hD hS hl
  have hl : lv_has ls 4 [(0, .ref a_o)] := hl
  have hF : CallFix p m c cX11_tongue 4 s args wsX11_tongue RX11 := ⟨hx, hb, hml, hown, hts⟩
  have u_X11 : ∀ w ∈ u_ws RX11 TX11 25, w ∈ wsX11_tongue := by decide +kernel
  have k_f0 := hts (.fieldLink RX11 64 "NoWordNoModel" "at" "I") (by decide +kernel)
  have k_f1 := hts (.fieldLink RX11 85 "NoWordNoModel" "fault" "I") (by decide +kernel)
  have k_f2 := hts (.fieldLink RX11 95 "NoWordNoModel" "choices" "I") (by decide +kernel)
  have k_f3 := hts (.fieldLink RX11 51 "NoWordNoModel" "worlds" "I") (by decide +kernel)
  have k_f4 := hts (.fieldLink RX11 20 "NoWordNoModel" "sayings" "[I") (by decide +kernel)
  have k_f5 := hts (.fieldLink RX11 29 "NoWordNoModel" "words" "[I") (by decide +kernel)
  have k_f6 := hts (.fieldLink RX11 35 "NoWordNoModel" "isKept" "[Z") (by decide +kernel)
  have k_f7 := hts (.fieldLink RX11 59 "NoWordNoModel" "typed" "I") (by decide +kernel)
  have k_f8 := hts (.fieldLink RX11 13 "NoWordNoModel" "values" "[I") (by decide +kernel)
  have k_f9 := hts (.fieldLink RX11 17 "NoWordNoModel" "draft" "[I") (by decide +kernel)
  have k_f10 := hts (.fieldLink RX11 77 "NoWordNoModel" "sort" "I") (by decide +kernel)
  have k_f11 := hts (.fieldLink RX11 74 "NoWordNoModel" "value" "I") (by decide +kernel)
  unfold P_X11_tongue at h
  refine lv_aload_n hx hb dX11_tongue_0 rfl (lv_at hl 0 rfl) ?_
  refine lv_iconst (v := 0) hx hb dX11_tongue_1 ic_0 ?_
  refine va_put (D := D) (ci := 10) (v := .int 0) (ty := .int) (C := RX11) (T := TX11) (N := 25) hx hb hts u_X11 tyX11 tyX11_ok nmX11 hown hK hP hD hS 0 rfl rfl 6 (by decide) k_f0 (fun _ h9 => h9) rfl (tyX11_ok 6 (by decide)) rfl rfl (Nat.le_of_ble_eq_true rfl) dX11_tongue_2 (fun H locs hP hD hS => ?_)
  have hP : va_P D vwCl [(a_o, .inr (10, [.long o_trace, .ref a_text, .int o_typed, .int o_choices, .int o_worlds, .ref a_values, .int 0, .int o_start, .int o_sort, .int o_value, .int o_fault, .ref a_draft, .ref a_sayings, w_o_leaves, w_o_signs, .ref a_words, w_o_word, .ref a_isKept, w_o_some, w_o_every, .int o_deep, .int o_many, w_o_length, w_o_found, .int o_foundMany])), (a_text, .inl (cB, 200, .inl f_text)), (a_values, .inl (cI, 3, .inl f_values)), (a_draft, .inl (cI, 3, .inl f_draft)), (a_sayings, .inl (cI, 3, .inl f_sayings)), (a_words, .inl (cI, 3, .inl f_words)), (a_isKept, .inl (cZ, 2, .inl f_isKept))] H := hP
  have hD : va_D A [(a_o, .inr (10, [.long o_trace, .ref a_text, .int o_typed, .int o_choices, .int o_worlds, .ref a_values, .int 0, .int o_start, .int o_sort, .int o_value, .int o_fault, .ref a_draft, .ref a_sayings, w_o_leaves, w_o_signs, .ref a_words, w_o_word, .ref a_isKept, w_o_some, w_o_every, .int o_deep, .int o_many, w_o_length, w_o_found, .int o_foundMany])), (a_text, .inl (cB, 200, .inl f_text)), (a_values, .inl (cI, 3, .inl f_values)), (a_draft, .inl (cI, 3, .inl f_draft)), (a_sayings, .inl (cI, 3, .inl f_sayings)), (a_words, .inl (cI, 3, .inl f_words)), (a_isKept, .inl (cZ, 2, .inl f_isKept))] := hD
  refine lv_aload_n hx hb dX11_tongue_5 rfl (lv_at hl 0 rfl) ?_
  refine lv_bipush (v := (-9)) hx hb dX11_tongue_6 bc_m9 ?_
  refine va_put (D := D) (ci := 10) (v := .int (-9)) (ty := .int) (C := RX11) (T := TX11) (N := 25) hx hb hts u_X11 tyX11 tyX11_ok nmX11 hown hK hP hD hS 0 rfl rfl 10 (by decide) k_f1 (fun _ h9 => h9) rfl (tyX11_ok 10 (by decide)) rfl rfl (Nat.le_of_ble_eq_true rfl) dX11_tongue_8 (fun H locs hP hD hS => ?_)
  have hP : va_P D vwCl [(a_o, .inr (10, [.long o_trace, .ref a_text, .int o_typed, .int o_choices, .int o_worlds, .ref a_values, .int 0, .int o_start, .int o_sort, .int o_value, .int (-9), .ref a_draft, .ref a_sayings, w_o_leaves, w_o_signs, .ref a_words, w_o_word, .ref a_isKept, w_o_some, w_o_every, .int o_deep, .int o_many, w_o_length, w_o_found, .int o_foundMany])), (a_text, .inl (cB, 200, .inl f_text)), (a_values, .inl (cI, 3, .inl f_values)), (a_draft, .inl (cI, 3, .inl f_draft)), (a_sayings, .inl (cI, 3, .inl f_sayings)), (a_words, .inl (cI, 3, .inl f_words)), (a_isKept, .inl (cZ, 2, .inl f_isKept))] H := hP
  have hD : va_D A [(a_o, .inr (10, [.long o_trace, .ref a_text, .int o_typed, .int o_choices, .int o_worlds, .ref a_values, .int 0, .int o_start, .int o_sort, .int o_value, .int (-9), .ref a_draft, .ref a_sayings, w_o_leaves, w_o_signs, .ref a_words, w_o_word, .ref a_isKept, w_o_some, w_o_every, .int o_deep, .int o_many, w_o_length, w_o_found, .int o_foundMany])), (a_text, .inl (cB, 200, .inl f_text)), (a_values, .inl (cI, 3, .inl f_values)), (a_draft, .inl (cI, 3, .inl f_draft)), (a_sayings, .inl (cI, 3, .inl f_sayings)), (a_words, .inl (cI, 3, .inl f_words)), (a_isKept, .inl (cZ, 2, .inl f_isKept))] := hD
  refine lv_iconst (v := 0) hx hb dX11_tongue_11 ic_0 ?_
  refine lv_istore_n (lv' := [(1, .int 0), (0, .ref a_o)]) hx hb dX11_tongue_12 rfl hl (by decide) rfl (fun ls hl => ?_)
  refine lv_iconst (v := 1) hx hb dX11_tongue_13 ic_1 ?_
  refine lv_istore_n (lv' := [(2, .int 1), (1, .int 0), (0, .ref a_o)]) hx hb dX11_tongue_14 rfl hl (by decide) rfl (fun ls hl => ?_)
  refine lv_aload_n hx hb dX11_tongue_15 rfl (lv_at hl 2 rfl) ?_
  obtain ⟨z_16, hc_16, h⟩ := bd_e h
  refine q_vV (As := []) (rest := []) (wF := [(a_values, .inl (cI, 3, .inl f_values)), (a_draft, .inl (cI, 3, .inl f_draft)), (a_sayings, .inl (cI, 3, .inl f_sayings)), (a_words, .inl (cI, 3, .inl f_words)), (a_isKept, .inl (cZ, 2, .inl f_isKept)), (a_o, .inr (10, [.long o_trace, .ref a_text, .int o_typed, .int o_choices, .int o_worlds, .ref a_values, .int z_16.1, .int z_16.2.1, .int z_16.2.2.1, .int z_16.2.2.2, .int (-9), .ref a_draft, .ref a_sayings, w_o_leaves, w_o_signs, .ref a_words, w_o_word, .ref a_isKept, w_o_some, w_o_every, .int o_deep, .int o_many, w_o_length, w_o_found, .int o_foundMany])), (a_text, .inl (cB, 200, .inl f_text))]) hF hA hZ hK hP hD hS (c_X11_next l D cI cB cZ a_o o_trace o_typed o_choices o_worlds (.ref a_values) 0 o_start o_sort o_value (-9) (.ref a_draft) (.ref a_sayings) w_o_leaves w_o_signs (.ref a_words) w_o_word (.ref a_isKept) w_o_some w_o_every o_deep o_many w_o_length w_o_found o_foundMany a_text f_text z_16 hc_16) rfl gX11_tongue_X11_next hdX11_next ⟨rfl, rfl⟩ (Nat.le_of_ble_eq_true rfl) (Nat.le_of_ble_eq_true rfl) 10 0 rfl rfl [0, 1] [2, 3, 4, 5, 6] rfl rfl rfl rfl (by decide) rfl hl.1 rfl (Nat.le_of_ble_eq_true rfl) (Nat.zero_le _) (Nat.zero_le _) dX11_tongue_16 (fun H locs hP hD hS => ?_)
  obtain ⟨k145, hk145, h⟩ := jn_e h
  have Jk145 : ∀ (x145_l1 : Int32) (x145_l2 : Int32) (x145_o_at : Int32) (x145_o_start : Int32) (x145_o_sort : Int32) (x145_o_value : Int32) (x145_o_fault : Int32) (x145_f_draft : (Nat → Int32)) (H : Heap) (locs : List Loc) (ls : Array Slot), k145 x145_l1 x145_l2 x145_o_at x145_o_start x145_o_sort x145_o_value x145_o_fault x145_f_draft = some z → va_P D vwCl [(a_values, .inl (cI, 3, .inl f_values)), (a_draft, .inl (cI, 3, .inl x145_f_draft)), (a_sayings, .inl (cI, 3, .inl f_sayings)), (a_words, .inl (cI, 3, .inl f_words)), (a_isKept, .inl (cZ, 2, .inl f_isKept)), (a_o, .inr (10, [.long o_trace, .ref a_text, .int o_typed, .int o_choices, .int o_worlds, .ref a_values, .int x145_o_at, .int x145_o_start, .int x145_o_sort, .int x145_o_value, .int x145_o_fault, .ref a_draft, .ref a_sayings, w_o_leaves, w_o_signs, .ref a_words, w_o_word, .ref a_isKept, w_o_some, w_o_every, .int o_deep, .int o_many, w_o_length, w_o_found, .int o_foundMany])), (a_text, .inl (cB, 200, .inl f_text))] H → va_D A [(a_values, .inl (cI, 3, .inl f_values)), (a_draft, .inl (cI, 3, .inl x145_f_draft)), (a_sayings, .inl (cI, 3, .inl f_sayings)), (a_words, .inl (cI, 3, .inl f_words)), (a_isKept, .inl (cZ, 2, .inl f_isKept)), (a_o, .inr (10, [.long o_trace, .ref a_text, .int o_typed, .int o_choices, .int o_worlds, .ref a_values, .int x145_o_at, .int x145_o_start, .int x145_o_sort, .int x145_o_value, .int x145_o_fault, .ref a_draft, .ref a_sayings, w_o_leaves, w_o_signs, .ref a_words, w_o_word, .ref a_isKept, w_o_some, w_o_every, .int o_deep, .int o_many, w_o_length, w_o_found, .int o_foundMany])), (a_text, .inl (cB, 200, .inl f_text))] → va_S A s.heap H locs → lv_has ls 4 [(0, .ref a_o), (1, .int x145_l1), (2, .int x145_l2)] → W p l e rmX11_tongue s m args below meth c H locs 0 0 Q (F0 m 145 ls []) := by
    intro x145_l1 x145_l2 x145_o_at x145_o_start x145_o_sort x145_o_value x145_o_fault x145_f_draft H locs ls h hP hD hS hl
    rw [hk145] at h
    refine lv_aload_n hx hb dX11_tongue_145 rfl (lv_at hl 0 rfl) ?_
    refine va_get (D := D) (ci := 10) (v := .int x145_o_fault) (C := RX11) (T := TX11) (N := 25) hx hb hts u_X11 hown hK hP 5 rfl rfl 10 (by decide) k_f1 (fun _ h9 => h9) rfl dX11_tongue_146 ?_
    refine lv_bipush (v := (-9)) hx hb dX11_tongue_149 bc_m9 ?_
    refine lv_icmp_eq (tgt := 162) hx hb dX11_tongue_151 (by decide) (fun c_151 => ?_) (fun c_151 => ?_)
    · replace h := it_e c_151 h
      refine lv_aload_n hx hb dX11_tongue_162 rfl (lv_at hl 0 rfl) ?_
      refine lv_iload_n hx hb dX11_tongue_163 rfl (lv_at hl 1 rfl) ?_
      refine va_put (D := D) (ci := 10) (v := .int x145_l1) (ty := .int) (C := RX11) (T := TX11) (N := 25) hx hb hts u_X11 tyX11 tyX11_ok nmX11 hown hK hP hD hS 5 rfl rfl 3 (by decide) k_f2 (fun _ h9 => h9) rfl (tyX11_ok 3 (by decide)) rfl rfl (Nat.le_of_ble_eq_true rfl) dX11_tongue_164 (fun H locs hP hD hS => ?_)
      have hP : va_P D vwCl [(a_values, .inl (cI, 3, .inl f_values)), (a_draft, .inl (cI, 3, .inl x145_f_draft)), (a_sayings, .inl (cI, 3, .inl f_sayings)), (a_words, .inl (cI, 3, .inl f_words)), (a_isKept, .inl (cZ, 2, .inl f_isKept)), (a_o, .inr (10, [.long o_trace, .ref a_text, .int o_typed, .int x145_l1, .int o_worlds, .ref a_values, .int x145_o_at, .int x145_o_start, .int x145_o_sort, .int x145_o_value, .int x145_o_fault, .ref a_draft, .ref a_sayings, w_o_leaves, w_o_signs, .ref a_words, w_o_word, .ref a_isKept, w_o_some, w_o_every, .int o_deep, .int o_many, w_o_length, w_o_found, .int o_foundMany])), (a_text, .inl (cB, 200, .inl f_text))] H := hP
      have hD : va_D A [(a_values, .inl (cI, 3, .inl f_values)), (a_draft, .inl (cI, 3, .inl x145_f_draft)), (a_sayings, .inl (cI, 3, .inl f_sayings)), (a_words, .inl (cI, 3, .inl f_words)), (a_isKept, .inl (cZ, 2, .inl f_isKept)), (a_o, .inr (10, [.long o_trace, .ref a_text, .int o_typed, .int x145_l1, .int o_worlds, .ref a_values, .int x145_o_at, .int x145_o_start, .int x145_o_sort, .int x145_o_value, .int x145_o_fault, .ref a_draft, .ref a_sayings, w_o_leaves, w_o_signs, .ref a_words, w_o_word, .ref a_isKept, w_o_some, w_o_every, .int o_deep, .int o_many, w_o_length, w_o_found, .int o_foundMany])), (a_text, .inl (cB, 200, .inl f_text))] := hD
      refine lv_aload_n hx hb dX11_tongue_167 rfl (lv_at hl 0 rfl) ?_
      refine lv_iload_n hx hb dX11_tongue_168 rfl (lv_at hl 2 rfl) ?_
      refine va_put (D := D) (ci := 10) (v := .int x145_l2) (ty := .int) (C := RX11) (T := TX11) (N := 25) hx hb hts u_X11 tyX11 tyX11_ok nmX11 hown hK hP hD hS 5 rfl rfl 4 (by decide) k_f3 (fun _ h9 => h9) rfl (tyX11_ok 4 (by decide)) rfl rfl (Nat.le_of_ble_eq_true rfl) dX11_tongue_169 (fun H locs hP hD hS => ?_)
      have hP : va_P D vwCl [(a_values, .inl (cI, 3, .inl f_values)), (a_draft, .inl (cI, 3, .inl x145_f_draft)), (a_sayings, .inl (cI, 3, .inl f_sayings)), (a_words, .inl (cI, 3, .inl f_words)), (a_isKept, .inl (cZ, 2, .inl f_isKept)), (a_o, .inr (10, [.long o_trace, .ref a_text, .int o_typed, .int x145_l1, .int x145_l2, .ref a_values, .int x145_o_at, .int x145_o_start, .int x145_o_sort, .int x145_o_value, .int x145_o_fault, .ref a_draft, .ref a_sayings, w_o_leaves, w_o_signs, .ref a_words, w_o_word, .ref a_isKept, w_o_some, w_o_every, .int o_deep, .int o_many, w_o_length, w_o_found, .int o_foundMany])), (a_text, .inl (cB, 200, .inl f_text))] H := hP
      have hD : va_D A [(a_values, .inl (cI, 3, .inl f_values)), (a_draft, .inl (cI, 3, .inl x145_f_draft)), (a_sayings, .inl (cI, 3, .inl f_sayings)), (a_words, .inl (cI, 3, .inl f_words)), (a_isKept, .inl (cZ, 2, .inl f_isKept)), (a_o, .inr (10, [.long o_trace, .ref a_text, .int o_typed, .int x145_l1, .int x145_l2, .ref a_values, .int x145_o_at, .int x145_o_start, .int x145_o_sort, .int x145_o_value, .int x145_o_fault, .ref a_draft, .ref a_sayings, w_o_leaves, w_o_signs, .ref a_words, w_o_word, .ref a_isKept, w_o_some, w_o_every, .int o_deep, .int o_many, w_o_length, w_o_found, .int o_foundMany])), (a_text, .inl (cB, 200, .inl f_text))] := hD
      refine lv_iconst (v := 0) hx hb dX11_tongue_172 ic_0 ?_
      refine lv_istore_n (lv' := [(3, .int 0), (0, .ref a_o), (1, .int x145_l1), (2, .int x145_l2)]) hx hb dX11_tongue_173 rfl hl (by decide) rfl (fun ls hl => ?_)
      obtain ⟨k206, hk206, h⟩ := jn_e h
      have Jk206 : ∀ (x206_f_values : (Nat → Int32)) (H : Heap) (locs : List Loc) (ls : Array Slot), k206 x206_f_values = some z → va_P D vwCl [(a_values, .inl (cI, 3, .inl x206_f_values)), (a_draft, .inl (cI, 3, .inl x145_f_draft)), (a_sayings, .inl (cI, 3, .inl f_sayings)), (a_words, .inl (cI, 3, .inl f_words)), (a_isKept, .inl (cZ, 2, .inl f_isKept)), (a_o, .inr (10, [.long o_trace, .ref a_text, .int o_typed, .int x145_l1, .int x145_l2, .ref a_values, .int x145_o_at, .int x145_o_start, .int x145_o_sort, .int x145_o_value, .int x145_o_fault, .ref a_draft, .ref a_sayings, w_o_leaves, w_o_signs, .ref a_words, w_o_word, .ref a_isKept, w_o_some, w_o_every, .int o_deep, .int o_many, w_o_length, w_o_found, .int o_foundMany])), (a_text, .inl (cB, 200, .inl f_text))] H → va_D A [(a_values, .inl (cI, 3, .inl x206_f_values)), (a_draft, .inl (cI, 3, .inl x145_f_draft)), (a_sayings, .inl (cI, 3, .inl f_sayings)), (a_words, .inl (cI, 3, .inl f_words)), (a_isKept, .inl (cZ, 2, .inl f_isKept)), (a_o, .inr (10, [.long o_trace, .ref a_text, .int o_typed, .int x145_l1, .int x145_l2, .ref a_values, .int x145_o_at, .int x145_o_start, .int x145_o_sort, .int x145_o_value, .int x145_o_fault, .ref a_draft, .ref a_sayings, w_o_leaves, w_o_signs, .ref a_words, w_o_word, .ref a_isKept, w_o_some, w_o_every, .int o_deep, .int o_many, w_o_length, w_o_found, .int o_foundMany])), (a_text, .inl (cB, 200, .inl f_text))] → va_S A s.heap H locs → lv_has ls 4 [(0, .ref a_o), (1, .int x145_l1)] → W p l e rmX11_tongue s m args below meth c H locs 0 0 Q (F0 m 206 ls []) := by
        intro x206_f_values H locs ls h hP hD hS hl
        rw [hk206] at h
        refine lv_aload_n hx hb dX11_tongue_206 rfl (lv_at hl 0 rfl) ?_
        refine va_get (D := D) (ci := 10) (v := .ref a_sayings) (C := RX11) (T := TX11) (N := 25) hx hb hts u_X11 hown hK hP 5 rfl rfl 12 (by decide) k_f4 (fun _ h9 => h9) rfl dX11_tongue_207 ?_
        refine lv_iconst (v := 0) hx hb dX11_tongue_210 ic_0 ?_
        refine lv_iconst (v := 0) hx hb dX11_tongue_211 ic_0 ?_
        obtain ⟨hi_212, h⟩ := ck_e h
        refine va_iast hx hb hK hP hD hS 2 0 rfl rfl hi_212 dX11_tongue_212 (fun H locs hP hD hS => ?_)
        have hP : va_P D vwCl [(a_values, .inl (cI, 3, .inl x206_f_values)), (a_draft, .inl (cI, 3, .inl x145_f_draft)), (a_sayings, .inl (cI, 3, .inl (upd f_sayings (0 : Int32).toNatClampNeg 0))), (a_words, .inl (cI, 3, .inl f_words)), (a_isKept, .inl (cZ, 2, .inl f_isKept)), (a_o, .inr (10, [.long o_trace, .ref a_text, .int o_typed, .int x145_l1, .int x145_l2, .ref a_values, .int x145_o_at, .int x145_o_start, .int x145_o_sort, .int x145_o_value, .int x145_o_fault, .ref a_draft, .ref a_sayings, w_o_leaves, w_o_signs, .ref a_words, w_o_word, .ref a_isKept, w_o_some, w_o_every, .int o_deep, .int o_many, w_o_length, w_o_found, .int o_foundMany])), (a_text, .inl (cB, 200, .inl f_text))] H := hP
        have hD : va_D A [(a_values, .inl (cI, 3, .inl x206_f_values)), (a_draft, .inl (cI, 3, .inl x145_f_draft)), (a_sayings, .inl (cI, 3, .inl (upd f_sayings (0 : Int32).toNatClampNeg 0))), (a_words, .inl (cI, 3, .inl f_words)), (a_isKept, .inl (cZ, 2, .inl f_isKept)), (a_o, .inr (10, [.long o_trace, .ref a_text, .int o_typed, .int x145_l1, .int x145_l2, .ref a_values, .int x145_o_at, .int x145_o_start, .int x145_o_sort, .int x145_o_value, .int x145_o_fault, .ref a_draft, .ref a_sayings, w_o_leaves, w_o_signs, .ref a_words, w_o_word, .ref a_isKept, w_o_some, w_o_every, .int o_deep, .int o_many, w_o_length, w_o_found, .int o_foundMany])), (a_text, .inl (cB, 200, .inl f_text))] := hD
        refine lv_aload_n hx hb dX11_tongue_213 rfl (lv_at hl 0 rfl) ?_
        refine va_get (D := D) (ci := 10) (v := .ref a_words) (C := RX11) (T := TX11) (N := 25) hx hb hts u_X11 hown hK hP 5 rfl rfl 15 (by decide) k_f5 (fun _ h9 => h9) rfl dX11_tongue_214 ?_
        refine lv_iconst (v := 0) hx hb dX11_tongue_217 ic_0 ?_
        refine lv_iconst (v := 0) hx hb dX11_tongue_218 ic_0 ?_
        obtain ⟨hi_219, h⟩ := ck_e h
        refine va_iast hx hb hK hP hD hS 3 0 rfl rfl hi_219 dX11_tongue_219 (fun H locs hP hD hS => ?_)
        have hP : va_P D vwCl [(a_values, .inl (cI, 3, .inl x206_f_values)), (a_draft, .inl (cI, 3, .inl x145_f_draft)), (a_sayings, .inl (cI, 3, .inl (upd f_sayings (0 : Int32).toNatClampNeg 0))), (a_words, .inl (cI, 3, .inl (upd f_words (0 : Int32).toNatClampNeg 0))), (a_isKept, .inl (cZ, 2, .inl f_isKept)), (a_o, .inr (10, [.long o_trace, .ref a_text, .int o_typed, .int x145_l1, .int x145_l2, .ref a_values, .int x145_o_at, .int x145_o_start, .int x145_o_sort, .int x145_o_value, .int x145_o_fault, .ref a_draft, .ref a_sayings, w_o_leaves, w_o_signs, .ref a_words, w_o_word, .ref a_isKept, w_o_some, w_o_every, .int o_deep, .int o_many, w_o_length, w_o_found, .int o_foundMany])), (a_text, .inl (cB, 200, .inl f_text))] H := hP
        have hD : va_D A [(a_values, .inl (cI, 3, .inl x206_f_values)), (a_draft, .inl (cI, 3, .inl x145_f_draft)), (a_sayings, .inl (cI, 3, .inl (upd f_sayings (0 : Int32).toNatClampNeg 0))), (a_words, .inl (cI, 3, .inl (upd f_words (0 : Int32).toNatClampNeg 0))), (a_isKept, .inl (cZ, 2, .inl f_isKept)), (a_o, .inr (10, [.long o_trace, .ref a_text, .int o_typed, .int x145_l1, .int x145_l2, .ref a_values, .int x145_o_at, .int x145_o_start, .int x145_o_sort, .int x145_o_value, .int x145_o_fault, .ref a_draft, .ref a_sayings, w_o_leaves, w_o_signs, .ref a_words, w_o_word, .ref a_isKept, w_o_some, w_o_every, .int o_deep, .int o_many, w_o_length, w_o_found, .int o_foundMany])), (a_text, .inl (cB, 200, .inl f_text))] := hD
        refine lv_aload_n hx hb dX11_tongue_220 rfl (lv_at hl 0 rfl) ?_
        refine va_get (D := D) (ci := 10) (v := .ref a_isKept) (C := RX11) (T := TX11) (N := 25) hx hb hts u_X11 hown hK hP 5 rfl rfl 17 (by decide) k_f6 (fun _ h9 => h9) rfl dX11_tongue_221 ?_
        refine lv_iconst (v := 0) hx hb dX11_tongue_224 ic_0 ?_
        refine lv_iconst (v := 0) hx hb dX11_tongue_225 ic_0 ?_
        obtain ⟨hi_226, h⟩ := ck_e h
        refine va_zast hx hb hK hP hD hS 4 2 rfl rfl hi_226 dX11_tongue_226 (fun H locs hP hD hS => ?_)
        have hP : va_P D vwCl [(a_values, .inl (cI, 3, .inl x206_f_values)), (a_draft, .inl (cI, 3, .inl x145_f_draft)), (a_sayings, .inl (cI, 3, .inl (upd f_sayings (0 : Int32).toNatClampNeg 0))), (a_words, .inl (cI, 3, .inl (upd f_words (0 : Int32).toNatClampNeg 0))), (a_isKept, .inl (cZ, 2, .inl (upd f_isKept (0 : Int32).toNatClampNeg (vp_nar .boolean 0)))), (a_o, .inr (10, [.long o_trace, .ref a_text, .int o_typed, .int x145_l1, .int x145_l2, .ref a_values, .int x145_o_at, .int x145_o_start, .int x145_o_sort, .int x145_o_value, .int x145_o_fault, .ref a_draft, .ref a_sayings, w_o_leaves, w_o_signs, .ref a_words, w_o_word, .ref a_isKept, w_o_some, w_o_every, .int o_deep, .int o_many, w_o_length, w_o_found, .int o_foundMany])), (a_text, .inl (cB, 200, .inl f_text))] H := hP
        have hD : va_D A [(a_values, .inl (cI, 3, .inl x206_f_values)), (a_draft, .inl (cI, 3, .inl x145_f_draft)), (a_sayings, .inl (cI, 3, .inl (upd f_sayings (0 : Int32).toNatClampNeg 0))), (a_words, .inl (cI, 3, .inl (upd f_words (0 : Int32).toNatClampNeg 0))), (a_isKept, .inl (cZ, 2, .inl (upd f_isKept (0 : Int32).toNatClampNeg (vp_nar .boolean 0)))), (a_o, .inr (10, [.long o_trace, .ref a_text, .int o_typed, .int x145_l1, .int x145_l2, .ref a_values, .int x145_o_at, .int x145_o_start, .int x145_o_sort, .int x145_o_value, .int x145_o_fault, .ref a_draft, .ref a_sayings, w_o_leaves, w_o_signs, .ref a_words, w_o_word, .ref a_isKept, w_o_some, w_o_every, .int o_deep, .int o_many, w_o_length, w_o_found, .int o_foundMany])), (a_text, .inl (cB, 200, .inl f_text))] := hD
        refine lv_aload_n hx hb dX11_tongue_227 rfl (lv_at hl 0 rfl) ?_
        refine va_get (D := D) (ci := 10) (v := .ref a_isKept) (C := RX11) (T := TX11) (N := 25) hx hb hts u_X11 hown hK hP 5 rfl rfl 17 (by decide) k_f6 (fun _ h9 => h9) rfl dX11_tongue_228 ?_
        refine lv_iconst (v := 1) hx hb dX11_tongue_231 ic_1 ?_
        refine lv_iconst (v := 0) hx hb dX11_tongue_232 ic_0 ?_
        obtain ⟨hi_233, h⟩ := ck_e h
        refine va_zast hx hb hK hP hD hS 4 2 rfl rfl hi_233 dX11_tongue_233 (fun H locs hP hD hS => ?_)
        have hP : va_P D vwCl [(a_values, .inl (cI, 3, .inl x206_f_values)), (a_draft, .inl (cI, 3, .inl x145_f_draft)), (a_sayings, .inl (cI, 3, .inl (upd f_sayings (0 : Int32).toNatClampNeg 0))), (a_words, .inl (cI, 3, .inl (upd f_words (0 : Int32).toNatClampNeg 0))), (a_isKept, .inl (cZ, 2, .inl (upd (upd f_isKept (0 : Int32).toNatClampNeg (vp_nar .boolean 0)) (1 : Int32).toNatClampNeg (vp_nar .boolean 0)))), (a_o, .inr (10, [.long o_trace, .ref a_text, .int o_typed, .int x145_l1, .int x145_l2, .ref a_values, .int x145_o_at, .int x145_o_start, .int x145_o_sort, .int x145_o_value, .int x145_o_fault, .ref a_draft, .ref a_sayings, w_o_leaves, w_o_signs, .ref a_words, w_o_word, .ref a_isKept, w_o_some, w_o_every, .int o_deep, .int o_many, w_o_length, w_o_found, .int o_foundMany])), (a_text, .inl (cB, 200, .inl f_text))] H := hP
        have hD : va_D A [(a_values, .inl (cI, 3, .inl x206_f_values)), (a_draft, .inl (cI, 3, .inl x145_f_draft)), (a_sayings, .inl (cI, 3, .inl (upd f_sayings (0 : Int32).toNatClampNeg 0))), (a_words, .inl (cI, 3, .inl (upd f_words (0 : Int32).toNatClampNeg 0))), (a_isKept, .inl (cZ, 2, .inl (upd (upd f_isKept (0 : Int32).toNatClampNeg (vp_nar .boolean 0)) (1 : Int32).toNatClampNeg (vp_nar .boolean 0)))), (a_o, .inr (10, [.long o_trace, .ref a_text, .int o_typed, .int x145_l1, .int x145_l2, .ref a_values, .int x145_o_at, .int x145_o_start, .int x145_o_sort, .int x145_o_value, .int x145_o_fault, .ref a_draft, .ref a_sayings, w_o_leaves, w_o_signs, .ref a_words, w_o_word, .ref a_isKept, w_o_some, w_o_every, .int o_deep, .int o_many, w_o_length, w_o_found, .int o_foundMany])), (a_text, .inl (cB, 200, .inl f_text))] := hD
        refine lv_aload_n hx hb dX11_tongue_234 rfl (lv_at hl 0 rfl) ?_
        refine lv_iconst (v := 0) hx hb dX11_tongue_235 ic_0 ?_
        refine va_put (D := D) (ci := 10) (v := .int 0) (ty := .int) (C := RX11) (T := TX11) (N := 25) hx hb hts u_X11 tyX11 tyX11_ok nmX11 hown hK hP hD hS 5 rfl rfl 2 (by decide) k_f7 (fun _ h9 => h9) rfl (tyX11_ok 2 (by decide)) rfl rfl (Nat.le_of_ble_eq_true rfl) dX11_tongue_236 (fun H locs hP hD hS => ?_)
        have hP : va_P D vwCl [(a_values, .inl (cI, 3, .inl x206_f_values)), (a_draft, .inl (cI, 3, .inl x145_f_draft)), (a_sayings, .inl (cI, 3, .inl (upd f_sayings (0 : Int32).toNatClampNeg 0))), (a_words, .inl (cI, 3, .inl (upd f_words (0 : Int32).toNatClampNeg 0))), (a_isKept, .inl (cZ, 2, .inl (upd (upd f_isKept (0 : Int32).toNatClampNeg (vp_nar .boolean 0)) (1 : Int32).toNatClampNeg (vp_nar .boolean 0)))), (a_o, .inr (10, [.long o_trace, .ref a_text, .int 0, .int x145_l1, .int x145_l2, .ref a_values, .int x145_o_at, .int x145_o_start, .int x145_o_sort, .int x145_o_value, .int x145_o_fault, .ref a_draft, .ref a_sayings, w_o_leaves, w_o_signs, .ref a_words, w_o_word, .ref a_isKept, w_o_some, w_o_every, .int o_deep, .int o_many, w_o_length, w_o_found, .int o_foundMany])), (a_text, .inl (cB, 200, .inl f_text))] H := hP
        have hD : va_D A [(a_values, .inl (cI, 3, .inl x206_f_values)), (a_draft, .inl (cI, 3, .inl x145_f_draft)), (a_sayings, .inl (cI, 3, .inl (upd f_sayings (0 : Int32).toNatClampNeg 0))), (a_words, .inl (cI, 3, .inl (upd f_words (0 : Int32).toNatClampNeg 0))), (a_isKept, .inl (cZ, 2, .inl (upd (upd f_isKept (0 : Int32).toNatClampNeg (vp_nar .boolean 0)) (1 : Int32).toNatClampNeg (vp_nar .boolean 0)))), (a_o, .inr (10, [.long o_trace, .ref a_text, .int 0, .int x145_l1, .int x145_l2, .ref a_values, .int x145_o_at, .int x145_o_start, .int x145_o_sort, .int x145_o_value, .int x145_o_fault, .ref a_draft, .ref a_sayings, w_o_leaves, w_o_signs, .ref a_words, w_o_word, .ref a_isKept, w_o_some, w_o_every, .int o_deep, .int o_many, w_o_length, w_o_found, .int o_foundMany])), (a_text, .inl (cB, 200, .inl f_text))] := hD
        refine lv_iload_n hx hb dX11_tongue_239 rfl (lv_at hl 1 rfl) ?_
        have hz := Option.some.inj h
        subst hz
        exact hret H locs 240 ls (fun ty h => by cases h; rfl) (hP.sub [5, 6, 0, 1, 2, 3, 4] rfl) (hD.sub [5, 6, 0, 1, 2, 3, 4] (by decide) rfl) hS dX11_tongue_240
      have L174 : ∀ (n : Nat), ∀ (x174_l3 : Int32) (x174_f_values : (Nat → Int32)) (H : Heap) (locs : List Loc) (ls : Array Slot), P_X11_tongue_174 x145_l1 x145_f_draft k206 n x174_l3 x174_f_values = some z → va_P D vwCl [(a_values, .inl (cI, 3, .inl x174_f_values)), (a_draft, .inl (cI, 3, .inl x145_f_draft)), (a_sayings, .inl (cI, 3, .inl f_sayings)), (a_words, .inl (cI, 3, .inl f_words)), (a_isKept, .inl (cZ, 2, .inl f_isKept)), (a_o, .inr (10, [.long o_trace, .ref a_text, .int o_typed, .int x145_l1, .int x145_l2, .ref a_values, .int x145_o_at, .int x145_o_start, .int x145_o_sort, .int x145_o_value, .int x145_o_fault, .ref a_draft, .ref a_sayings, w_o_leaves, w_o_signs, .ref a_words, w_o_word, .ref a_isKept, w_o_some, w_o_every, .int o_deep, .int o_many, w_o_length, w_o_found, .int o_foundMany])), (a_text, .inl (cB, 200, .inl f_text))] H → va_D A [(a_values, .inl (cI, 3, .inl x174_f_values)), (a_draft, .inl (cI, 3, .inl x145_f_draft)), (a_sayings, .inl (cI, 3, .inl f_sayings)), (a_words, .inl (cI, 3, .inl f_words)), (a_isKept, .inl (cZ, 2, .inl f_isKept)), (a_o, .inr (10, [.long o_trace, .ref a_text, .int o_typed, .int x145_l1, .int x145_l2, .ref a_values, .int x145_o_at, .int x145_o_start, .int x145_o_sort, .int x145_o_value, .int x145_o_fault, .ref a_draft, .ref a_sayings, w_o_leaves, w_o_signs, .ref a_words, w_o_word, .ref a_isKept, w_o_some, w_o_every, .int o_deep, .int o_many, w_o_length, w_o_found, .int o_foundMany])), (a_text, .inl (cB, 200, .inl f_text))] → va_S A s.heap H locs → lv_has ls 4 [(0, .ref a_o), (1, .int x145_l1), (3, .int x174_l3)] → W p l e rmX11_tongue s m args below meth c H locs 0 0 Q (F0 m 174 ls []) := by
        intro n
        induction n with
        | zero =>
          intro x174_l3 x174_f_values H locs ls h
          exact no_e h
        | succ n ih174 =>
          intro x174_l3 x174_f_values H locs ls h hP hD hS hl
          rw [P_X11_tongue_174] at h
          refine lv_iload_n hx hb dX11_tongue_174 rfl (lv_at hl 2 rfl) ?_
          refine lv_iconst (v := 3) hx hb dX11_tongue_175 ic_3 ?_
          refine lv_icmp_ge (tgt := 206) hx hb dX11_tongue_176 (by decide) (fun c_176 => ?_) (fun c_176 => ?_)
          · replace h := it_e c_176 h
            exact Jk206 x174_f_values H locs ls h hP hD hS (lv_sub hl [0, 1] rfl)
          · replace h := if_e c_176 h
            refine lv_aload_n hx hb dX11_tongue_179 rfl (lv_at hl 0 rfl) ?_
            refine va_get (D := D) (ci := 10) (v := .ref a_values) (C := RX11) (T := TX11) (N := 25) hx hb hts u_X11 hown hK hP 5 rfl rfl 5 (by decide) k_f8 (fun _ h9 => h9) rfl dX11_tongue_180 ?_
            refine lv_iload_n hx hb dX11_tongue_183 rfl (lv_at hl 2 rfl) ?_
            refine lv_iload_n hx hb dX11_tongue_184 rfl (lv_at hl 2 rfl) ?_
            refine lv_iload_n hx hb dX11_tongue_185 rfl (lv_at hl 1 rfl) ?_
            obtain ⟨j199, hj199, h⟩ := jn_e h
            have Jj199 : ∀ (x199_s2 : Int32) (H : Heap) (locs : List Loc) (ls : Array Slot), j199 x199_s2 = some z → va_P D vwCl [(a_values, .inl (cI, 3, .inl x174_f_values)), (a_draft, .inl (cI, 3, .inl x145_f_draft)), (a_sayings, .inl (cI, 3, .inl f_sayings)), (a_words, .inl (cI, 3, .inl f_words)), (a_isKept, .inl (cZ, 2, .inl f_isKept)), (a_o, .inr (10, [.long o_trace, .ref a_text, .int o_typed, .int x145_l1, .int x145_l2, .ref a_values, .int x145_o_at, .int x145_o_start, .int x145_o_sort, .int x145_o_value, .int x145_o_fault, .ref a_draft, .ref a_sayings, w_o_leaves, w_o_signs, .ref a_words, w_o_word, .ref a_isKept, w_o_some, w_o_every, .int o_deep, .int o_many, w_o_length, w_o_found, .int o_foundMany])), (a_text, .inl (cB, 200, .inl f_text))] H → va_D A [(a_values, .inl (cI, 3, .inl x174_f_values)), (a_draft, .inl (cI, 3, .inl x145_f_draft)), (a_sayings, .inl (cI, 3, .inl f_sayings)), (a_words, .inl (cI, 3, .inl f_words)), (a_isKept, .inl (cZ, 2, .inl f_isKept)), (a_o, .inr (10, [.long o_trace, .ref a_text, .int o_typed, .int x145_l1, .int x145_l2, .ref a_values, .int x145_o_at, .int x145_o_start, .int x145_o_sort, .int x145_o_value, .int x145_o_fault, .ref a_draft, .ref a_sayings, w_o_leaves, w_o_signs, .ref a_words, w_o_word, .ref a_isKept, w_o_some, w_o_every, .int o_deep, .int o_many, w_o_length, w_o_found, .int o_foundMany])), (a_text, .inl (cB, 200, .inl f_text))] → va_S A s.heap H locs → lv_has ls 4 [(0, .ref a_o), (1, .int x145_l1), (3, .int x174_l3)] → W p l e rmX11_tongue s m args below meth c H locs 0 0 Q (F0 m 199 ls [.int x199_s2, .int x174_l3, .ref a_values]) := by
              intro x199_s2 H locs ls h hP hD hS hl
              rw [hj199] at h
              obtain ⟨hi_199, h⟩ := ck_e h
              refine va_iast hx hb hK hP hD hS 0 0 rfl rfl hi_199 dX11_tongue_199 (fun H locs hP hD hS => ?_)
              have hP : va_P D vwCl [(a_values, .inl (cI, 3, .inl (upd x174_f_values x174_l3.toNatClampNeg x199_s2))), (a_draft, .inl (cI, 3, .inl x145_f_draft)), (a_sayings, .inl (cI, 3, .inl f_sayings)), (a_words, .inl (cI, 3, .inl f_words)), (a_isKept, .inl (cZ, 2, .inl f_isKept)), (a_o, .inr (10, [.long o_trace, .ref a_text, .int o_typed, .int x145_l1, .int x145_l2, .ref a_values, .int x145_o_at, .int x145_o_start, .int x145_o_sort, .int x145_o_value, .int x145_o_fault, .ref a_draft, .ref a_sayings, w_o_leaves, w_o_signs, .ref a_words, w_o_word, .ref a_isKept, w_o_some, w_o_every, .int o_deep, .int o_many, w_o_length, w_o_found, .int o_foundMany])), (a_text, .inl (cB, 200, .inl f_text))] H := hP
              have hD : va_D A [(a_values, .inl (cI, 3, .inl (upd x174_f_values x174_l3.toNatClampNeg x199_s2))), (a_draft, .inl (cI, 3, .inl x145_f_draft)), (a_sayings, .inl (cI, 3, .inl f_sayings)), (a_words, .inl (cI, 3, .inl f_words)), (a_isKept, .inl (cZ, 2, .inl f_isKept)), (a_o, .inr (10, [.long o_trace, .ref a_text, .int o_typed, .int x145_l1, .int x145_l2, .ref a_values, .int x145_o_at, .int x145_o_start, .int x145_o_sort, .int x145_o_value, .int x145_o_fault, .ref a_draft, .ref a_sayings, w_o_leaves, w_o_signs, .ref a_words, w_o_word, .ref a_isKept, w_o_some, w_o_every, .int o_deep, .int o_many, w_o_length, w_o_found, .int o_foundMany])), (a_text, .inl (cB, 200, .inl f_text))] := hD
              refine lv_iinc (v := x174_l3 + 1) (lv' := [(3, .int (x174_l3 + 1)), (0, .ref a_o), (1, .int x145_l1)]) hx hb dX11_tongue_200 hl (k := 2) rfl (congrArg (x174_l3 + ·) ic_1) (by decide) rfl (fun ls hl => ?_)
              refine lv_goto (tgt := 174) hx hb dX11_tongue_203 (by decide) ?_
              exact ih174 (x174_l3 + 1) (upd x174_f_values x174_l3.toNatClampNeg x199_s2) H locs ls h hP hD hS (lv_sub hl [1, 2, 0] rfl)
            refine lv_icmp_ge (tgt := 198) hx hb dX11_tongue_186 (by decide) (fun c_186 => ?_) (fun c_186 => ?_)
            · replace h := it_e c_186 h
              refine lv_iconst (v := 1) hx hb dX11_tongue_198 ic_1 ?_
              exact Jj199 1 H locs ls h hP hD hS hl
            · replace h := if_e c_186 h
              refine lv_aload_n hx hb dX11_tongue_189 rfl (lv_at hl 0 rfl) ?_
              refine va_get (D := D) (ci := 10) (v := .ref a_draft) (C := RX11) (T := TX11) (N := 25) hx hb hts u_X11 hown hK hP 5 rfl rfl 11 (by decide) k_f9 (fun _ h9 => h9) rfl dX11_tongue_190 ?_
              refine lv_iload_n hx hb dX11_tongue_193 rfl (lv_at hl 2 rfl) ?_
              obtain ⟨hi_194, h⟩ := ck_e h
              refine va_iald hx hb hK hP 1 0 rfl rfl hi_194 dX11_tongue_194 ?_
              refine lv_goto (tgt := 199) hx hb dX11_tongue_195 (by decide) ?_
              exact Jj199 (x145_f_draft x174_l3.toNatClampNeg) H locs ls h hP hD hS hl
      exact L174 QF 0 f_values H locs ls h hP hD hS (lv_sub hl [1, 2, 0] rfl)
    · replace h := if_e c_151 h
      refine lv_bipush (v := (-10)) hx hb dX11_tongue_154 bc_m10 ?_
      refine lv_aload_n hx hb dX11_tongue_156 rfl (lv_at hl 0 rfl) ?_
      refine va_get (D := D) (ci := 10) (v := .int x145_o_fault) (C := RX11) (T := TX11) (N := 25) hx hb hts u_X11 hown hK hP 5 rfl rfl 10 (by decide) k_f1 (fun _ h9 => h9) rfl dX11_tongue_157 ?_
      refine lv_isub hx hb dX11_tongue_160 ?_
      have hz := Option.some.inj h
      subst hz
      exact hret H locs 161 ls (fun ty h => by cases h; rfl) (hP.sub [5, 6, 0, 1, 2, 3, 4] rfl) (hD.sub [5, 6, 0, 1, 2, 3, 4] (by decide) rfl) hS dX11_tongue_161
  have L19 : ∀ (n : Nat), ∀ (x19_l1 : Int32) (x19_l2 : Int32) (x19_o_at : Int32) (x19_o_start : Int32) (x19_o_sort : Int32) (x19_o_value : Int32) (x19_o_fault : Int32) (x19_f_draft : (Nat → Int32)) (H : Heap) (locs : List Loc) (ls : Array Slot), P_X11_tongue_19 o_typed f_text k145 n x19_l1 x19_l2 x19_o_at x19_o_start x19_o_sort x19_o_value x19_o_fault x19_f_draft = some z → va_P D vwCl [(a_values, .inl (cI, 3, .inl f_values)), (a_draft, .inl (cI, 3, .inl x19_f_draft)), (a_sayings, .inl (cI, 3, .inl f_sayings)), (a_words, .inl (cI, 3, .inl f_words)), (a_isKept, .inl (cZ, 2, .inl f_isKept)), (a_o, .inr (10, [.long o_trace, .ref a_text, .int o_typed, .int o_choices, .int o_worlds, .ref a_values, .int x19_o_at, .int x19_o_start, .int x19_o_sort, .int x19_o_value, .int x19_o_fault, .ref a_draft, .ref a_sayings, w_o_leaves, w_o_signs, .ref a_words, w_o_word, .ref a_isKept, w_o_some, w_o_every, .int o_deep, .int o_many, w_o_length, w_o_found, .int o_foundMany])), (a_text, .inl (cB, 200, .inl f_text))] H → va_D A [(a_values, .inl (cI, 3, .inl f_values)), (a_draft, .inl (cI, 3, .inl x19_f_draft)), (a_sayings, .inl (cI, 3, .inl f_sayings)), (a_words, .inl (cI, 3, .inl f_words)), (a_isKept, .inl (cZ, 2, .inl f_isKept)), (a_o, .inr (10, [.long o_trace, .ref a_text, .int o_typed, .int o_choices, .int o_worlds, .ref a_values, .int x19_o_at, .int x19_o_start, .int x19_o_sort, .int x19_o_value, .int x19_o_fault, .ref a_draft, .ref a_sayings, w_o_leaves, w_o_signs, .ref a_words, w_o_word, .ref a_isKept, w_o_some, w_o_every, .int o_deep, .int o_many, w_o_length, w_o_found, .int o_foundMany])), (a_text, .inl (cB, 200, .inl f_text))] → va_S A s.heap H locs → lv_has ls 4 [(0, .ref a_o), (1, .int x19_l1), (2, .int x19_l2)] → W p l e rmX11_tongue s m args below meth c H locs 0 0 Q (F0 m 19 ls []) := by
    intro n
    induction n with
    | zero =>
      intro x19_l1 x19_l2 x19_o_at x19_o_start x19_o_sort x19_o_value x19_o_fault x19_f_draft H locs ls h
      exact no_e h
    | succ n ih19 =>
      intro x19_l1 x19_l2 x19_o_at x19_o_start x19_o_sort x19_o_value x19_o_fault x19_f_draft H locs ls h hP hD hS hl
      rw [P_X11_tongue_19] at h
      refine lv_aload_n hx hb dX11_tongue_19 rfl (lv_at hl 0 rfl) ?_
      refine va_get (D := D) (ci := 10) (v := .int x19_o_fault) (C := RX11) (T := TX11) (N := 25) hx hb hts u_X11 hown hK hP 5 rfl rfl 10 (by decide) k_f1 (fun _ h9 => h9) rfl dX11_tongue_20 ?_
      refine lv_bipush (v := (-9)) hx hb dX11_tongue_23 bc_m9 ?_
      refine lv_icmp_ne (tgt := 145) hx hb dX11_tongue_25 (by decide) (fun c_25 => ?_) (fun c_25 => ?_)
      · replace h := if_e c_25 h
        exact Jk145 x19_l1 x19_l2 x19_o_at x19_o_start x19_o_sort x19_o_value x19_o_fault x19_f_draft H locs ls h hP hD hS hl
      · replace h := it_e c_25 h
        refine lv_aload_n hx hb dX11_tongue_28 rfl (lv_at hl 0 rfl) ?_
        refine va_get (D := D) (ci := 10) (v := .int x19_o_sort) (C := RX11) (T := TX11) (N := 25) hx hb hts u_X11 hown hK hP 5 rfl rfl 8 (by decide) k_f10 (fun _ h9 => h9) rfl dX11_tongue_29 ?_
        refine lv_bipush (v := 9) hx hb dX11_tongue_32 bc_9 ?_
        refine lv_icmp_eq (tgt := 145) hx hb dX11_tongue_34 (by decide) (fun c_34 => ?_) (fun c_34 => ?_)
        · replace h := it_e c_34 h
          exact Jk145 x19_l1 x19_l2 x19_o_at x19_o_start x19_o_sort x19_o_value x19_o_fault x19_f_draft H locs ls h hP hD hS hl
        · replace h := if_e c_34 h
          refine lv_aload_n hx hb dX11_tongue_37 rfl (lv_at hl 0 rfl) ?_
          refine lv_aload_n hx hb dX11_tongue_38 rfl (lv_at hl 0 rfl) ?_
          refine va_get (D := D) (ci := 10) (v := .int x19_o_sort) (C := RX11) (T := TX11) (N := 25) hx hb hts u_X11 hown hK hP 5 rfl rfl 8 (by decide) k_f10 (fun _ h9 => h9) rfl dX11_tongue_39 ?_
          obtain ⟨j54, hj54, h⟩ := jn_e h
          have Jj54 : ∀ (H : Heap) (locs : List Loc) (ls : Array Slot), j54 () = some z → va_P D vwCl [(a_values, .inl (cI, 3, .inl f_values)), (a_draft, .inl (cI, 3, .inl x19_f_draft)), (a_sayings, .inl (cI, 3, .inl f_sayings)), (a_words, .inl (cI, 3, .inl f_words)), (a_isKept, .inl (cZ, 2, .inl f_isKept)), (a_o, .inr (10, [.long o_trace, .ref a_text, .int o_typed, .int o_choices, .int o_worlds, .ref a_values, .int x19_o_at, .int x19_o_start, .int x19_o_sort, .int x19_o_value, .int x19_o_fault, .ref a_draft, .ref a_sayings, w_o_leaves, w_o_signs, .ref a_words, w_o_word, .ref a_isKept, w_o_some, w_o_every, .int o_deep, .int o_many, w_o_length, w_o_found, .int o_foundMany])), (a_text, .inl (cB, 200, .inl f_text))] H → va_D A [(a_values, .inl (cI, 3, .inl f_values)), (a_draft, .inl (cI, 3, .inl x19_f_draft)), (a_sayings, .inl (cI, 3, .inl f_sayings)), (a_words, .inl (cI, 3, .inl f_words)), (a_isKept, .inl (cZ, 2, .inl f_isKept)), (a_o, .inr (10, [.long o_trace, .ref a_text, .int o_typed, .int o_choices, .int o_worlds, .ref a_values, .int x19_o_at, .int x19_o_start, .int x19_o_sort, .int x19_o_value, .int x19_o_fault, .ref a_draft, .ref a_sayings, w_o_leaves, w_o_signs, .ref a_words, w_o_word, .ref a_isKept, w_o_some, w_o_every, .int o_deep, .int o_many, w_o_length, w_o_found, .int o_foundMany])), (a_text, .inl (cB, 200, .inl f_text))] → va_S A s.heap H locs → lv_has ls 4 [(0, .ref a_o), (1, .int x19_l1), (2, .int x19_l2)] → W p l e rmX11_tongue s m args below meth c H locs 0 0 Q (F0 m 54 ls [.ref a_o]) := by
            intro H locs ls h hP hD hS hl
            rw [hj54] at h
            refine lv_iconst (v := 0) hx hb dX11_tongue_54 ic_0 ?_
            obtain ⟨z_55, hc_55, h⟩ := bd_e h
            refine q_iV (As := [.int 0]) (rest := []) (wF := [(a_values, .inl (cI, 3, .inl f_values)), (a_draft, .inl (cI, 3, .inl x19_f_draft)), (a_sayings, .inl (cI, 3, .inl f_sayings)), (a_words, .inl (cI, 3, .inl f_words)), (a_isKept, .inl (cZ, 2, .inl f_isKept)), (a_o, .inr (10, [.long o_trace, .ref a_text, .int o_typed, .int o_choices, .int o_worlds, .ref a_values, .int z_55.2.1, .int z_55.2.2.1, .int z_55.2.2.2.1, .int z_55.2.2.2.2.1, .int z_55.2.2.2.2.2, .ref a_draft, .ref a_sayings, w_o_leaves, w_o_signs, .ref a_words, w_o_word, .ref a_isKept, w_o_some, w_o_every, .int o_deep, .int o_many, w_o_length, w_o_found, .int o_foundMany])), (a_text, .inl (cB, 200, .inl f_text))]) hF hA hZ hK hP hD hS (c_X11_due l D cI cB cZ a_o o_trace o_typed o_choices o_worlds (.ref a_values) x19_o_at x19_o_start x19_o_sort x19_o_value x19_o_fault (.ref a_draft) (.ref a_sayings) w_o_leaves w_o_signs (.ref a_words) w_o_word (.ref a_isKept) w_o_some w_o_every o_deep o_many w_o_length w_o_found o_foundMany a_text f_text 0 z_55 hc_55) rfl gX11_tongue_X11_due hdX11_due ⟨rfl, rfl⟩ (Nat.le_of_ble_eq_true rfl) (Nat.le_of_ble_eq_true rfl) 10 0 rfl rfl [5, 6] [0, 1, 2, 3, 4] rfl rfl rfl rfl (by decide) rfl hl.1 rfl (Nat.le_of_ble_eq_true rfl) (Nat.zero_le _) (Nat.zero_le _) dX11_tongue_55 (fun H locs hP hD hS => ?_)
            refine lv_pop hx hb dX11_tongue_58 rfl ?_
            refine lv_aload_n hx hb dX11_tongue_59 rfl (lv_at hl 0 rfl) ?_
            refine lv_aload_n hx hb dX11_tongue_60 rfl (lv_at hl 0 rfl) ?_
            refine va_get (D := D) (ci := 10) (v := .int z_55.2.2.2.1) (C := RX11) (T := TX11) (N := 25) hx hb hts u_X11 hown hK hP 5 rfl rfl 8 (by decide) k_f10 (fun _ h9 => h9) rfl dX11_tongue_61 ?_
            refine lv_iconst (v := 3) hx hb dX11_tongue_64 ic_3 ?_
            obtain ⟨j96, hj96, h⟩ := jn_e h
            have Jj96 : ∀ (H : Heap) (locs : List Loc) (ls : Array Slot), j96 () = some z → va_P D vwCl [(a_values, .inl (cI, 3, .inl f_values)), (a_draft, .inl (cI, 3, .inl x19_f_draft)), (a_sayings, .inl (cI, 3, .inl f_sayings)), (a_words, .inl (cI, 3, .inl f_words)), (a_isKept, .inl (cZ, 2, .inl f_isKept)), (a_o, .inr (10, [.long o_trace, .ref a_text, .int o_typed, .int o_choices, .int o_worlds, .ref a_values, .int z_55.2.1, .int z_55.2.2.1, .int z_55.2.2.2.1, .int z_55.2.2.2.2.1, .int z_55.2.2.2.2.2, .ref a_draft, .ref a_sayings, w_o_leaves, w_o_signs, .ref a_words, w_o_word, .ref a_isKept, w_o_some, w_o_every, .int o_deep, .int o_many, w_o_length, w_o_found, .int o_foundMany])), (a_text, .inl (cB, 200, .inl f_text))] H → va_D A [(a_values, .inl (cI, 3, .inl f_values)), (a_draft, .inl (cI, 3, .inl x19_f_draft)), (a_sayings, .inl (cI, 3, .inl f_sayings)), (a_words, .inl (cI, 3, .inl f_words)), (a_isKept, .inl (cZ, 2, .inl f_isKept)), (a_o, .inr (10, [.long o_trace, .ref a_text, .int o_typed, .int o_choices, .int o_worlds, .ref a_values, .int z_55.2.1, .int z_55.2.2.1, .int z_55.2.2.2.1, .int z_55.2.2.2.2.1, .int z_55.2.2.2.2.2, .ref a_draft, .ref a_sayings, w_o_leaves, w_o_signs, .ref a_words, w_o_word, .ref a_isKept, w_o_some, w_o_every, .int o_deep, .int o_many, w_o_length, w_o_found, .int o_foundMany])), (a_text, .inl (cB, 200, .inl f_text))] → va_S A s.heap H locs → lv_has ls 4 [(0, .ref a_o), (1, .int x19_l1), (2, .int x19_l2)] → W p l e rmX11_tongue s m args below meth c H locs 0 0 Q (F0 m 96 ls [.ref a_o]) := by
              intro H locs ls h hP hD hS hl
              rw [hj96] at h
              refine lv_iconst (v := 0) hx hb dX11_tongue_96 ic_0 ?_
              obtain ⟨z_97, hc_97, h⟩ := bd_e h
              refine q_iV (As := [.int 0]) (rest := []) (wF := [(a_values, .inl (cI, 3, .inl f_values)), (a_draft, .inl (cI, 3, .inl x19_f_draft)), (a_sayings, .inl (cI, 3, .inl f_sayings)), (a_words, .inl (cI, 3, .inl f_words)), (a_isKept, .inl (cZ, 2, .inl f_isKept)), (a_o, .inr (10, [.long o_trace, .ref a_text, .int o_typed, .int o_choices, .int o_worlds, .ref a_values, .int z_97.2.1, .int z_97.2.2.1, .int z_97.2.2.2.1, .int z_97.2.2.2.2.1, .int z_97.2.2.2.2.2, .ref a_draft, .ref a_sayings, w_o_leaves, w_o_signs, .ref a_words, w_o_word, .ref a_isKept, w_o_some, w_o_every, .int o_deep, .int o_many, w_o_length, w_o_found, .int o_foundMany])), (a_text, .inl (cB, 200, .inl f_text))]) hF hA hZ hK hP hD hS (c_X11_due l D cI cB cZ a_o o_trace o_typed o_choices o_worlds (.ref a_values) z_55.2.1 z_55.2.2.1 z_55.2.2.2.1 z_55.2.2.2.2.1 z_55.2.2.2.2.2 (.ref a_draft) (.ref a_sayings) w_o_leaves w_o_signs (.ref a_words) w_o_word (.ref a_isKept) w_o_some w_o_every o_deep o_many w_o_length w_o_found o_foundMany a_text f_text 0 z_97 hc_97) rfl gX11_tongue_X11_due hdX11_due ⟨rfl, rfl⟩ (Nat.le_of_ble_eq_true rfl) (Nat.le_of_ble_eq_true rfl) 10 0 rfl rfl [5, 6] [0, 1, 2, 3, 4] rfl rfl rfl rfl (by decide) rfl hl.1 rfl (Nat.le_of_ble_eq_true rfl) (Nat.zero_le _) (Nat.zero_le _) dX11_tongue_97 (fun H locs hP hD hS => ?_)
              refine lv_istore_n (lv' := [(3, .int z_97.1), (0, .ref a_o), (1, .int x19_l1), (2, .int x19_l2)]) hx hb dX11_tongue_100 rfl hl (by decide) rfl (fun ls hl => ?_)
              refine lv_aload_n hx hb dX11_tongue_101 rfl (lv_at hl 1 rfl) ?_
              refine lv_aload_n hx hb dX11_tongue_102 rfl (lv_at hl 1 rfl) ?_
              refine va_get (D := D) (ci := 10) (v := .int z_97.2.2.2.1) (C := RX11) (T := TX11) (N := 25) hx hb hts u_X11 hown hK hP 5 rfl rfl 8 (by decide) k_f10 (fun _ h9 => h9) rfl dX11_tongue_103 ?_
              refine lv_iconst (v := 4) hx hb dX11_tongue_106 ic_4 ?_
              obtain ⟨j115, hj115, h⟩ := jn_e h
              have Jj115 : ∀ (x115_s1 : Int32) (H : Heap) (locs : List Loc) (ls : Array Slot), j115 x115_s1 = some z → va_P D vwCl [(a_values, .inl (cI, 3, .inl f_values)), (a_draft, .inl (cI, 3, .inl x19_f_draft)), (a_sayings, .inl (cI, 3, .inl f_sayings)), (a_words, .inl (cI, 3, .inl f_words)), (a_isKept, .inl (cZ, 2, .inl f_isKept)), (a_o, .inr (10, [.long o_trace, .ref a_text, .int o_typed, .int o_choices, .int o_worlds, .ref a_values, .int z_97.2.1, .int z_97.2.2.1, .int z_97.2.2.2.1, .int z_97.2.2.2.2.1, .int z_97.2.2.2.2.2, .ref a_draft, .ref a_sayings, w_o_leaves, w_o_signs, .ref a_words, w_o_word, .ref a_isKept, w_o_some, w_o_every, .int o_deep, .int o_many, w_o_length, w_o_found, .int o_foundMany])), (a_text, .inl (cB, 200, .inl f_text))] H → va_D A [(a_values, .inl (cI, 3, .inl f_values)), (a_draft, .inl (cI, 3, .inl x19_f_draft)), (a_sayings, .inl (cI, 3, .inl f_sayings)), (a_words, .inl (cI, 3, .inl f_words)), (a_isKept, .inl (cZ, 2, .inl f_isKept)), (a_o, .inr (10, [.long o_trace, .ref a_text, .int o_typed, .int o_choices, .int o_worlds, .ref a_values, .int z_97.2.1, .int z_97.2.2.1, .int z_97.2.2.2.1, .int z_97.2.2.2.2.1, .int z_97.2.2.2.2.2, .ref a_draft, .ref a_sayings, w_o_leaves, w_o_signs, .ref a_words, w_o_word, .ref a_isKept, w_o_some, w_o_every, .int o_deep, .int o_many, w_o_length, w_o_found, .int o_foundMany])), (a_text, .inl (cB, 200, .inl f_text))] → va_S A s.heap H locs → lv_has ls 4 [(0, .ref a_o), (1, .int x19_l1), (2, .int x19_l2), (3, .int z_97.1)] → W p l e rmX11_tongue s m args below meth c H locs 0 0 Q (F0 m 115 ls [.int x115_s1, .ref a_o]) := by
                intro x115_s1 H locs ls h hP hD hS hl
                rw [hj115] at h
                obtain ⟨z_115, hc_115, h⟩ := bd_e h
                refine q_iV (As := [.int x115_s1]) (rest := []) (wF := [(a_values, .inl (cI, 3, .inl f_values)), (a_draft, .inl (cI, 3, .inl x19_f_draft)), (a_sayings, .inl (cI, 3, .inl f_sayings)), (a_words, .inl (cI, 3, .inl f_words)), (a_isKept, .inl (cZ, 2, .inl f_isKept)), (a_o, .inr (10, [.long o_trace, .ref a_text, .int o_typed, .int o_choices, .int o_worlds, .ref a_values, .int z_115.2.1, .int z_115.2.2.1, .int z_115.2.2.2.1, .int z_115.2.2.2.2.1, .int z_115.2.2.2.2.2, .ref a_draft, .ref a_sayings, w_o_leaves, w_o_signs, .ref a_words, w_o_word, .ref a_isKept, w_o_some, w_o_every, .int o_deep, .int o_many, w_o_length, w_o_found, .int o_foundMany])), (a_text, .inl (cB, 200, .inl f_text))]) hF hA hZ hK hP hD hS (c_X11_due l D cI cB cZ a_o o_trace o_typed o_choices o_worlds (.ref a_values) z_97.2.1 z_97.2.2.1 z_97.2.2.2.1 z_97.2.2.2.2.1 z_97.2.2.2.2.2 (.ref a_draft) (.ref a_sayings) w_o_leaves w_o_signs (.ref a_words) w_o_word (.ref a_isKept) w_o_some w_o_every o_deep o_many w_o_length w_o_found o_foundMany a_text f_text x115_s1 z_115 hc_115) rfl gX11_tongue_X11_due hdX11_due ⟨rfl, rfl⟩ (Nat.le_of_ble_eq_true rfl) (Nat.le_of_ble_eq_true rfl) 10 0 rfl rfl [5, 6] [0, 1, 2, 3, 4] rfl rfl rfl rfl (by decide) rfl hl.1 rfl (Nat.le_of_ble_eq_true rfl) (Nat.zero_le _) (Nat.zero_le _) dX11_tongue_115 (fun H locs hP hD hS => ?_)
                refine lv_pop hx hb dX11_tongue_118 rfl ?_
                refine lv_aload_n hx hb dX11_tongue_119 rfl (lv_at hl 0 rfl) ?_
                refine va_get (D := D) (ci := 10) (v := .int z_115.2.2.2.2.2) (C := RX11) (T := TX11) (N := 25) hx hb hts u_X11 hown hK hP 5 rfl rfl 10 (by decide) k_f1 (fun _ h9 => h9) rfl dX11_tongue_120 ?_
                refine lv_bipush (v := (-9)) hx hb dX11_tongue_123 bc_m9 ?_
                obtain ⟨j142, hj142, h⟩ := jn_e h
                have Jj142 : ∀ (x142_l1 : Int32) (x142_l2 : Int32) (x142_f_draft : (Nat → Int32)) (H : Heap) (locs : List Loc) (ls : Array Slot), j142 x142_l1 x142_l2 x142_f_draft = some z → va_P D vwCl [(a_values, .inl (cI, 3, .inl f_values)), (a_draft, .inl (cI, 3, .inl x142_f_draft)), (a_sayings, .inl (cI, 3, .inl f_sayings)), (a_words, .inl (cI, 3, .inl f_words)), (a_isKept, .inl (cZ, 2, .inl f_isKept)), (a_o, .inr (10, [.long o_trace, .ref a_text, .int o_typed, .int o_choices, .int o_worlds, .ref a_values, .int z_115.2.1, .int z_115.2.2.1, .int z_115.2.2.2.1, .int z_115.2.2.2.2.1, .int z_115.2.2.2.2.2, .ref a_draft, .ref a_sayings, w_o_leaves, w_o_signs, .ref a_words, w_o_word, .ref a_isKept, w_o_some, w_o_every, .int o_deep, .int o_many, w_o_length, w_o_found, .int o_foundMany])), (a_text, .inl (cB, 200, .inl f_text))] H → va_D A [(a_values, .inl (cI, 3, .inl f_values)), (a_draft, .inl (cI, 3, .inl x142_f_draft)), (a_sayings, .inl (cI, 3, .inl f_sayings)), (a_words, .inl (cI, 3, .inl f_words)), (a_isKept, .inl (cZ, 2, .inl f_isKept)), (a_o, .inr (10, [.long o_trace, .ref a_text, .int o_typed, .int o_choices, .int o_worlds, .ref a_values, .int z_115.2.1, .int z_115.2.2.1, .int z_115.2.2.2.1, .int z_115.2.2.2.2.1, .int z_115.2.2.2.2.2, .ref a_draft, .ref a_sayings, w_o_leaves, w_o_signs, .ref a_words, w_o_word, .ref a_isKept, w_o_some, w_o_every, .int o_deep, .int o_many, w_o_length, w_o_found, .int o_foundMany])), (a_text, .inl (cB, 200, .inl f_text))] → va_S A s.heap H locs → lv_has ls 4 [(0, .ref a_o), (1, .int x142_l1), (2, .int x142_l2)] → W p l e rmX11_tongue s m args below meth c H locs 0 0 Q (F0 m 142 ls []) := by
                  intro x142_l1 x142_l2 x142_f_draft H locs ls h hP hD hS hl
                  rw [hj142] at h
                  refine lv_goto (tgt := 19) hx hb dX11_tongue_142 (by decide) ?_
                  exact ih19 x142_l1 x142_l2 z_115.2.1 z_115.2.2.1 z_115.2.2.2.1 z_115.2.2.2.2.1 z_115.2.2.2.2.2 x142_f_draft H locs ls h hP hD hS hl
                refine lv_icmp_ne (tgt := 142) hx hb dX11_tongue_125 (by decide) (fun c_125 => ?_) (fun c_125 => ?_)
                · replace h := if_e c_125 h
                  exact Jj142 x19_l1 x19_l2 x19_f_draft H locs ls h hP hD hS (lv_sub hl [0, 1, 2] rfl)
                · replace h := it_e c_125 h
                  refine lv_aload_n hx hb dX11_tongue_128 rfl (lv_at hl 0 rfl) ?_
                  refine va_get (D := D) (ci := 10) (v := .ref a_draft) (C := RX11) (T := TX11) (N := 25) hx hb hts u_X11 hown hK hP 5 rfl rfl 11 (by decide) k_f9 (fun _ h9 => h9) rfl dX11_tongue_129 ?_
                  refine lv_iload_n hx hb dX11_tongue_132 rfl (lv_at hl 1 rfl) ?_
                  refine lv_iload_n hx hb dX11_tongue_133 rfl (lv_at hl 3 rfl) ?_
                  obtain ⟨hi_134, h⟩ := ck_e h
                  refine va_iast hx hb hK hP hD hS 1 0 rfl rfl hi_134 dX11_tongue_134 (fun H locs hP hD hS => ?_)
                  have hP : va_P D vwCl [(a_values, .inl (cI, 3, .inl f_values)), (a_draft, .inl (cI, 3, .inl (upd x19_f_draft x19_l1.toNatClampNeg z_97.1))), (a_sayings, .inl (cI, 3, .inl f_sayings)), (a_words, .inl (cI, 3, .inl f_words)), (a_isKept, .inl (cZ, 2, .inl f_isKept)), (a_o, .inr (10, [.long o_trace, .ref a_text, .int o_typed, .int o_choices, .int o_worlds, .ref a_values, .int z_115.2.1, .int z_115.2.2.1, .int z_115.2.2.2.1, .int z_115.2.2.2.2.1, .int z_115.2.2.2.2.2, .ref a_draft, .ref a_sayings, w_o_leaves, w_o_signs, .ref a_words, w_o_word, .ref a_isKept, w_o_some, w_o_every, .int o_deep, .int o_many, w_o_length, w_o_found, .int o_foundMany])), (a_text, .inl (cB, 200, .inl f_text))] H := hP
                  have hD : va_D A [(a_values, .inl (cI, 3, .inl f_values)), (a_draft, .inl (cI, 3, .inl (upd x19_f_draft x19_l1.toNatClampNeg z_97.1))), (a_sayings, .inl (cI, 3, .inl f_sayings)), (a_words, .inl (cI, 3, .inl f_words)), (a_isKept, .inl (cZ, 2, .inl f_isKept)), (a_o, .inr (10, [.long o_trace, .ref a_text, .int o_typed, .int o_choices, .int o_worlds, .ref a_values, .int z_115.2.1, .int z_115.2.2.1, .int z_115.2.2.2.1, .int z_115.2.2.2.2.1, .int z_115.2.2.2.2.2, .ref a_draft, .ref a_sayings, w_o_leaves, w_o_signs, .ref a_words, w_o_word, .ref a_isKept, w_o_some, w_o_every, .int o_deep, .int o_many, w_o_length, w_o_found, .int o_foundMany])), (a_text, .inl (cB, 200, .inl f_text))] := hD
                  refine lv_iinc (v := x19_l1 + 1) (lv' := [(1, .int (x19_l1 + 1)), (0, .ref a_o), (2, .int x19_l2), (3, .int z_97.1)]) hx hb dX11_tongue_135 hl (k := 1) rfl (congrArg (x19_l1 + ·) ic_1) (by decide) rfl (fun ls hl => ?_)
                  refine lv_iload_n hx hb dX11_tongue_138 rfl (lv_at hl 2 rfl) ?_
                  refine lv_iload_n hx hb dX11_tongue_139 rfl (lv_at hl 3 rfl) ?_
                  refine lv_imul hx hb dX11_tongue_140 ?_
                  refine lv_istore_n (lv' := [(2, .int (x19_l2 * z_97.1)), (1, .int (x19_l1 + 1)), (0, .ref a_o), (3, .int z_97.1)]) hx hb dX11_tongue_141 rfl hl (by decide) rfl (fun ls hl => ?_)
                  exact Jj142 (x19_l1 + 1) (x19_l2 * z_97.1) (upd x19_f_draft x19_l1.toNatClampNeg z_97.1) H locs ls h hP hD hS (lv_sub hl [2, 1, 0] rfl)
              refine lv_icmp_ne (tgt := 114) hx hb dX11_tongue_107 (by decide) (fun c_107 => ?_) (fun c_107 => ?_)
              · replace h := if_e c_107 h
                refine lv_iconst (v := 0) hx hb dX11_tongue_114 ic_0 ?_
                exact Jj115 0 H locs ls h hP hD hS (lv_sub hl [1, 2, 3, 0] rfl)
              · replace h := it_e c_107 h
                refine lv_iconst (v := 1) hx hb dX11_tongue_110 ic_1 ?_
                refine lv_goto (tgt := 115) hx hb dX11_tongue_111 (by decide) ?_
                exact Jj115 1 H locs ls h hP hD hS (lv_sub hl [1, 2, 3, 0] rfl)
            obtain ⟨j97, hj97, h⟩ := jn_e h
            have Jj97 : ∀ (x97_s1 : Int32) (H : Heap) (locs : List Loc) (ls : Array Slot), j97 x97_s1 = some z → va_P D vwCl [(a_values, .inl (cI, 3, .inl f_values)), (a_draft, .inl (cI, 3, .inl x19_f_draft)), (a_sayings, .inl (cI, 3, .inl f_sayings)), (a_words, .inl (cI, 3, .inl f_words)), (a_isKept, .inl (cZ, 2, .inl f_isKept)), (a_o, .inr (10, [.long o_trace, .ref a_text, .int o_typed, .int o_choices, .int o_worlds, .ref a_values, .int z_55.2.1, .int z_55.2.2.1, .int z_55.2.2.2.1, .int z_55.2.2.2.2.1, .int z_55.2.2.2.2.2, .ref a_draft, .ref a_sayings, w_o_leaves, w_o_signs, .ref a_words, w_o_word, .ref a_isKept, w_o_some, w_o_every, .int o_deep, .int o_many, w_o_length, w_o_found, .int o_foundMany])), (a_text, .inl (cB, 200, .inl f_text))] H → va_D A [(a_values, .inl (cI, 3, .inl f_values)), (a_draft, .inl (cI, 3, .inl x19_f_draft)), (a_sayings, .inl (cI, 3, .inl f_sayings)), (a_words, .inl (cI, 3, .inl f_words)), (a_isKept, .inl (cZ, 2, .inl f_isKept)), (a_o, .inr (10, [.long o_trace, .ref a_text, .int o_typed, .int o_choices, .int o_worlds, .ref a_values, .int z_55.2.1, .int z_55.2.2.1, .int z_55.2.2.2.1, .int z_55.2.2.2.2.1, .int z_55.2.2.2.2.2, .ref a_draft, .ref a_sayings, w_o_leaves, w_o_signs, .ref a_words, w_o_word, .ref a_isKept, w_o_some, w_o_every, .int o_deep, .int o_many, w_o_length, w_o_found, .int o_foundMany])), (a_text, .inl (cB, 200, .inl f_text))] → va_S A s.heap H locs → lv_has ls 4 [(0, .ref a_o), (1, .int x19_l1), (2, .int x19_l2)] → W p l e rmX11_tongue s m args below meth c H locs 0 0 Q (F0 m 97 ls [.int x97_s1, .ref a_o]) := by
              intro x97_s1 H locs ls h hP hD hS hl
              rw [hj97] at h
              obtain ⟨z_97, hc_97, h⟩ := bd_e h
              refine q_iV (As := [.int x97_s1]) (rest := []) (wF := [(a_values, .inl (cI, 3, .inl f_values)), (a_draft, .inl (cI, 3, .inl x19_f_draft)), (a_sayings, .inl (cI, 3, .inl f_sayings)), (a_words, .inl (cI, 3, .inl f_words)), (a_isKept, .inl (cZ, 2, .inl f_isKept)), (a_o, .inr (10, [.long o_trace, .ref a_text, .int o_typed, .int o_choices, .int o_worlds, .ref a_values, .int z_97.2.1, .int z_97.2.2.1, .int z_97.2.2.2.1, .int z_97.2.2.2.2.1, .int z_97.2.2.2.2.2, .ref a_draft, .ref a_sayings, w_o_leaves, w_o_signs, .ref a_words, w_o_word, .ref a_isKept, w_o_some, w_o_every, .int o_deep, .int o_many, w_o_length, w_o_found, .int o_foundMany])), (a_text, .inl (cB, 200, .inl f_text))]) hF hA hZ hK hP hD hS (c_X11_due l D cI cB cZ a_o o_trace o_typed o_choices o_worlds (.ref a_values) z_55.2.1 z_55.2.2.1 z_55.2.2.2.1 z_55.2.2.2.2.1 z_55.2.2.2.2.2 (.ref a_draft) (.ref a_sayings) w_o_leaves w_o_signs (.ref a_words) w_o_word (.ref a_isKept) w_o_some w_o_every o_deep o_many w_o_length w_o_found o_foundMany a_text f_text x97_s1 z_97 hc_97) rfl gX11_tongue_X11_due hdX11_due ⟨rfl, rfl⟩ (Nat.le_of_ble_eq_true rfl) (Nat.le_of_ble_eq_true rfl) 10 0 rfl rfl [5, 6] [0, 1, 2, 3, 4] rfl rfl rfl rfl (by decide) rfl hl.1 rfl (Nat.le_of_ble_eq_true rfl) (Nat.zero_le _) (Nat.zero_le _) dX11_tongue_97 (fun H locs hP hD hS => ?_)
              refine lv_istore_n (lv' := [(3, .int z_97.1), (0, .ref a_o), (1, .int x19_l1), (2, .int x19_l2)]) hx hb dX11_tongue_100 rfl hl (by decide) rfl (fun ls hl => ?_)
              refine lv_aload_n hx hb dX11_tongue_101 rfl (lv_at hl 1 rfl) ?_
              refine lv_aload_n hx hb dX11_tongue_102 rfl (lv_at hl 1 rfl) ?_
              refine va_get (D := D) (ci := 10) (v := .int z_97.2.2.2.1) (C := RX11) (T := TX11) (N := 25) hx hb hts u_X11 hown hK hP 5 rfl rfl 8 (by decide) k_f10 (fun _ h9 => h9) rfl dX11_tongue_103 ?_
              refine lv_iconst (v := 4) hx hb dX11_tongue_106 ic_4 ?_
              obtain ⟨j115, hj115, h⟩ := jn_e h
              have Jj115 : ∀ (x115_s1 : Int32) (H : Heap) (locs : List Loc) (ls : Array Slot), j115 x115_s1 = some z → va_P D vwCl [(a_values, .inl (cI, 3, .inl f_values)), (a_draft, .inl (cI, 3, .inl x19_f_draft)), (a_sayings, .inl (cI, 3, .inl f_sayings)), (a_words, .inl (cI, 3, .inl f_words)), (a_isKept, .inl (cZ, 2, .inl f_isKept)), (a_o, .inr (10, [.long o_trace, .ref a_text, .int o_typed, .int o_choices, .int o_worlds, .ref a_values, .int z_97.2.1, .int z_97.2.2.1, .int z_97.2.2.2.1, .int z_97.2.2.2.2.1, .int z_97.2.2.2.2.2, .ref a_draft, .ref a_sayings, w_o_leaves, w_o_signs, .ref a_words, w_o_word, .ref a_isKept, w_o_some, w_o_every, .int o_deep, .int o_many, w_o_length, w_o_found, .int o_foundMany])), (a_text, .inl (cB, 200, .inl f_text))] H → va_D A [(a_values, .inl (cI, 3, .inl f_values)), (a_draft, .inl (cI, 3, .inl x19_f_draft)), (a_sayings, .inl (cI, 3, .inl f_sayings)), (a_words, .inl (cI, 3, .inl f_words)), (a_isKept, .inl (cZ, 2, .inl f_isKept)), (a_o, .inr (10, [.long o_trace, .ref a_text, .int o_typed, .int o_choices, .int o_worlds, .ref a_values, .int z_97.2.1, .int z_97.2.2.1, .int z_97.2.2.2.1, .int z_97.2.2.2.2.1, .int z_97.2.2.2.2.2, .ref a_draft, .ref a_sayings, w_o_leaves, w_o_signs, .ref a_words, w_o_word, .ref a_isKept, w_o_some, w_o_every, .int o_deep, .int o_many, w_o_length, w_o_found, .int o_foundMany])), (a_text, .inl (cB, 200, .inl f_text))] → va_S A s.heap H locs → lv_has ls 4 [(0, .ref a_o), (1, .int x19_l1), (2, .int x19_l2), (3, .int z_97.1)] → W p l e rmX11_tongue s m args below meth c H locs 0 0 Q (F0 m 115 ls [.int x115_s1, .ref a_o]) := by
                intro x115_s1 H locs ls h hP hD hS hl
                rw [hj115] at h
                obtain ⟨z_115, hc_115, h⟩ := bd_e h
                refine q_iV (As := [.int x115_s1]) (rest := []) (wF := [(a_values, .inl (cI, 3, .inl f_values)), (a_draft, .inl (cI, 3, .inl x19_f_draft)), (a_sayings, .inl (cI, 3, .inl f_sayings)), (a_words, .inl (cI, 3, .inl f_words)), (a_isKept, .inl (cZ, 2, .inl f_isKept)), (a_o, .inr (10, [.long o_trace, .ref a_text, .int o_typed, .int o_choices, .int o_worlds, .ref a_values, .int z_115.2.1, .int z_115.2.2.1, .int z_115.2.2.2.1, .int z_115.2.2.2.2.1, .int z_115.2.2.2.2.2, .ref a_draft, .ref a_sayings, w_o_leaves, w_o_signs, .ref a_words, w_o_word, .ref a_isKept, w_o_some, w_o_every, .int o_deep, .int o_many, w_o_length, w_o_found, .int o_foundMany])), (a_text, .inl (cB, 200, .inl f_text))]) hF hA hZ hK hP hD hS (c_X11_due l D cI cB cZ a_o o_trace o_typed o_choices o_worlds (.ref a_values) z_97.2.1 z_97.2.2.1 z_97.2.2.2.1 z_97.2.2.2.2.1 z_97.2.2.2.2.2 (.ref a_draft) (.ref a_sayings) w_o_leaves w_o_signs (.ref a_words) w_o_word (.ref a_isKept) w_o_some w_o_every o_deep o_many w_o_length w_o_found o_foundMany a_text f_text x115_s1 z_115 hc_115) rfl gX11_tongue_X11_due hdX11_due ⟨rfl, rfl⟩ (Nat.le_of_ble_eq_true rfl) (Nat.le_of_ble_eq_true rfl) 10 0 rfl rfl [5, 6] [0, 1, 2, 3, 4] rfl rfl rfl rfl (by decide) rfl hl.1 rfl (Nat.le_of_ble_eq_true rfl) (Nat.zero_le _) (Nat.zero_le _) dX11_tongue_115 (fun H locs hP hD hS => ?_)
                refine lv_pop hx hb dX11_tongue_118 rfl ?_
                refine lv_aload_n hx hb dX11_tongue_119 rfl (lv_at hl 0 rfl) ?_
                refine va_get (D := D) (ci := 10) (v := .int z_115.2.2.2.2.2) (C := RX11) (T := TX11) (N := 25) hx hb hts u_X11 hown hK hP 5 rfl rfl 10 (by decide) k_f1 (fun _ h9 => h9) rfl dX11_tongue_120 ?_
                refine lv_bipush (v := (-9)) hx hb dX11_tongue_123 bc_m9 ?_
                obtain ⟨j142, hj142, h⟩ := jn_e h
                have Jj142 : ∀ (x142_l1 : Int32) (x142_l2 : Int32) (x142_f_draft : (Nat → Int32)) (H : Heap) (locs : List Loc) (ls : Array Slot), j142 x142_l1 x142_l2 x142_f_draft = some z → va_P D vwCl [(a_values, .inl (cI, 3, .inl f_values)), (a_draft, .inl (cI, 3, .inl x142_f_draft)), (a_sayings, .inl (cI, 3, .inl f_sayings)), (a_words, .inl (cI, 3, .inl f_words)), (a_isKept, .inl (cZ, 2, .inl f_isKept)), (a_o, .inr (10, [.long o_trace, .ref a_text, .int o_typed, .int o_choices, .int o_worlds, .ref a_values, .int z_115.2.1, .int z_115.2.2.1, .int z_115.2.2.2.1, .int z_115.2.2.2.2.1, .int z_115.2.2.2.2.2, .ref a_draft, .ref a_sayings, w_o_leaves, w_o_signs, .ref a_words, w_o_word, .ref a_isKept, w_o_some, w_o_every, .int o_deep, .int o_many, w_o_length, w_o_found, .int o_foundMany])), (a_text, .inl (cB, 200, .inl f_text))] H → va_D A [(a_values, .inl (cI, 3, .inl f_values)), (a_draft, .inl (cI, 3, .inl x142_f_draft)), (a_sayings, .inl (cI, 3, .inl f_sayings)), (a_words, .inl (cI, 3, .inl f_words)), (a_isKept, .inl (cZ, 2, .inl f_isKept)), (a_o, .inr (10, [.long o_trace, .ref a_text, .int o_typed, .int o_choices, .int o_worlds, .ref a_values, .int z_115.2.1, .int z_115.2.2.1, .int z_115.2.2.2.1, .int z_115.2.2.2.2.1, .int z_115.2.2.2.2.2, .ref a_draft, .ref a_sayings, w_o_leaves, w_o_signs, .ref a_words, w_o_word, .ref a_isKept, w_o_some, w_o_every, .int o_deep, .int o_many, w_o_length, w_o_found, .int o_foundMany])), (a_text, .inl (cB, 200, .inl f_text))] → va_S A s.heap H locs → lv_has ls 4 [(0, .ref a_o), (1, .int x142_l1), (2, .int x142_l2)] → W p l e rmX11_tongue s m args below meth c H locs 0 0 Q (F0 m 142 ls []) := by
                  intro x142_l1 x142_l2 x142_f_draft H locs ls h hP hD hS hl
                  rw [hj142] at h
                  refine lv_goto (tgt := 19) hx hb dX11_tongue_142 (by decide) ?_
                  exact ih19 x142_l1 x142_l2 z_115.2.1 z_115.2.2.1 z_115.2.2.2.1 z_115.2.2.2.2.1 z_115.2.2.2.2.2 x142_f_draft H locs ls h hP hD hS hl
                refine lv_icmp_ne (tgt := 142) hx hb dX11_tongue_125 (by decide) (fun c_125 => ?_) (fun c_125 => ?_)
                · replace h := if_e c_125 h
                  exact Jj142 x19_l1 x19_l2 x19_f_draft H locs ls h hP hD hS (lv_sub hl [0, 1, 2] rfl)
                · replace h := it_e c_125 h
                  refine lv_aload_n hx hb dX11_tongue_128 rfl (lv_at hl 0 rfl) ?_
                  refine va_get (D := D) (ci := 10) (v := .ref a_draft) (C := RX11) (T := TX11) (N := 25) hx hb hts u_X11 hown hK hP 5 rfl rfl 11 (by decide) k_f9 (fun _ h9 => h9) rfl dX11_tongue_129 ?_
                  refine lv_iload_n hx hb dX11_tongue_132 rfl (lv_at hl 1 rfl) ?_
                  refine lv_iload_n hx hb dX11_tongue_133 rfl (lv_at hl 3 rfl) ?_
                  obtain ⟨hi_134, h⟩ := ck_e h
                  refine va_iast hx hb hK hP hD hS 1 0 rfl rfl hi_134 dX11_tongue_134 (fun H locs hP hD hS => ?_)
                  have hP : va_P D vwCl [(a_values, .inl (cI, 3, .inl f_values)), (a_draft, .inl (cI, 3, .inl (upd x19_f_draft x19_l1.toNatClampNeg z_97.1))), (a_sayings, .inl (cI, 3, .inl f_sayings)), (a_words, .inl (cI, 3, .inl f_words)), (a_isKept, .inl (cZ, 2, .inl f_isKept)), (a_o, .inr (10, [.long o_trace, .ref a_text, .int o_typed, .int o_choices, .int o_worlds, .ref a_values, .int z_115.2.1, .int z_115.2.2.1, .int z_115.2.2.2.1, .int z_115.2.2.2.2.1, .int z_115.2.2.2.2.2, .ref a_draft, .ref a_sayings, w_o_leaves, w_o_signs, .ref a_words, w_o_word, .ref a_isKept, w_o_some, w_o_every, .int o_deep, .int o_many, w_o_length, w_o_found, .int o_foundMany])), (a_text, .inl (cB, 200, .inl f_text))] H := hP
                  have hD : va_D A [(a_values, .inl (cI, 3, .inl f_values)), (a_draft, .inl (cI, 3, .inl (upd x19_f_draft x19_l1.toNatClampNeg z_97.1))), (a_sayings, .inl (cI, 3, .inl f_sayings)), (a_words, .inl (cI, 3, .inl f_words)), (a_isKept, .inl (cZ, 2, .inl f_isKept)), (a_o, .inr (10, [.long o_trace, .ref a_text, .int o_typed, .int o_choices, .int o_worlds, .ref a_values, .int z_115.2.1, .int z_115.2.2.1, .int z_115.2.2.2.1, .int z_115.2.2.2.2.1, .int z_115.2.2.2.2.2, .ref a_draft, .ref a_sayings, w_o_leaves, w_o_signs, .ref a_words, w_o_word, .ref a_isKept, w_o_some, w_o_every, .int o_deep, .int o_many, w_o_length, w_o_found, .int o_foundMany])), (a_text, .inl (cB, 200, .inl f_text))] := hD
                  refine lv_iinc (v := x19_l1 + 1) (lv' := [(1, .int (x19_l1 + 1)), (0, .ref a_o), (2, .int x19_l2), (3, .int z_97.1)]) hx hb dX11_tongue_135 hl (k := 1) rfl (congrArg (x19_l1 + ·) ic_1) (by decide) rfl (fun ls hl => ?_)
                  refine lv_iload_n hx hb dX11_tongue_138 rfl (lv_at hl 2 rfl) ?_
                  refine lv_iload_n hx hb dX11_tongue_139 rfl (lv_at hl 3 rfl) ?_
                  refine lv_imul hx hb dX11_tongue_140 ?_
                  refine lv_istore_n (lv' := [(2, .int (x19_l2 * z_97.1)), (1, .int (x19_l1 + 1)), (0, .ref a_o), (3, .int z_97.1)]) hx hb dX11_tongue_141 rfl hl (by decide) rfl (fun ls hl => ?_)
                  exact Jj142 (x19_l1 + 1) (x19_l2 * z_97.1) (upd x19_f_draft x19_l1.toNatClampNeg z_97.1) H locs ls h hP hD hS (lv_sub hl [2, 1, 0] rfl)
              refine lv_icmp_ne (tgt := 114) hx hb dX11_tongue_107 (by decide) (fun c_107 => ?_) (fun c_107 => ?_)
              · replace h := if_e c_107 h
                refine lv_iconst (v := 0) hx hb dX11_tongue_114 ic_0 ?_
                exact Jj115 0 H locs ls h hP hD hS (lv_sub hl [1, 2, 3, 0] rfl)
              · replace h := it_e c_107 h
                refine lv_iconst (v := 1) hx hb dX11_tongue_110 ic_1 ?_
                refine lv_goto (tgt := 115) hx hb dX11_tongue_111 (by decide) ?_
                exact Jj115 1 H locs ls h hP hD hS (lv_sub hl [1, 2, 3, 0] rfl)
            refine lv_icmp_ne (tgt := 96) hx hb dX11_tongue_65 (by decide) (fun c_65 => ?_) (fun c_65 => ?_)
            · replace h := if_e c_65 h
              exact Jj96  H locs ls h hP hD hS hl
            · replace h := it_e c_65 h
              refine lv_aload_n hx hb dX11_tongue_68 rfl (lv_at hl 0 rfl) ?_
              refine va_get (D := D) (ci := 10) (v := .int z_55.2.2.2.2.1) (C := RX11) (T := TX11) (N := 25) hx hb hts u_X11 hown hK hP 5 rfl rfl 9 (by decide) k_f11 (fun _ h9 => h9) rfl dX11_tongue_69 ?_
              refine lv_iconst (v := 2) hx hb dX11_tongue_72 ic_2 ?_
              refine lv_bipush (v := 9) hx hb dX11_tongue_73 bc_9 ?_
              obtain ⟨z_75, hc_75, h⟩ := bd_e h
              refine q_iS (As := [.int z_55.2.2.2.2.1, .int 2, .int 9]) (rest := [.ref a_o]) (wF := [(a_values, .inl (cI, 3, .inl f_values)), (a_draft, .inl (cI, 3, .inl x19_f_draft)), (a_sayings, .inl (cI, 3, .inl f_sayings)), (a_words, .inl (cI, 3, .inl f_words)), (a_isKept, .inl (cZ, 2, .inl f_isKept)), (a_o, .inr (10, [.long o_trace, .ref a_text, .int o_typed, .int o_choices, .int o_worlds, .ref a_values, .int z_55.2.1, .int z_55.2.2.1, .int z_55.2.2.2.1, .int z_55.2.2.2.2.1, .int z_55.2.2.2.2.2, .ref a_draft, .ref a_sayings, w_o_leaves, w_o_signs, .ref a_words, w_o_word, .ref a_isKept, w_o_some, w_o_every, .int o_deep, .int o_many, w_o_length, w_o_found, .int o_foundMany])), (a_text, .inl (cB, 200, .inl f_text))]) hF hA hZ hK hP hD hS (c_X11_in l D cI cB cZ z_55.2.2.2.2.1 2 9 z_75 hc_75) rfl gX11_tongue_X11_in hdX11_in ⟨rfl, rfl⟩ (Nat.le_of_ble_eq_true rfl) (Nat.le_of_ble_eq_true rfl) [] [0, 1, 2, 3, 4, 5, 6] rfl rfl rfl rfl (by decide) rfl hl.1 rfl (Nat.le_of_ble_eq_true rfl) (Nat.zero_le _) (Nat.zero_le _) dX11_tongue_75 (fun H locs hP hD hS => ?_)
              refine lv_if_eq (tgt := 96) hx hb dX11_tongue_78 (by decide) (fun c_78 => ?_) (fun c_78 => ?_)
              · replace h := it_e c_78 h
                exact Jj96  H locs ls h hP hD hS hl
              · replace h := if_e c_78 h
                refine lv_iload_n hx hb dX11_tongue_81 rfl (lv_at hl 2 rfl) ?_
                refine lv_aload_n hx hb dX11_tongue_82 rfl (lv_at hl 0 rfl) ?_
                refine va_get (D := D) (ci := 10) (v := .int z_55.2.2.2.2.1) (C := RX11) (T := TX11) (N := 25) hx hb hts u_X11 hown hK hP 5 rfl rfl 9 (by decide) k_f11 (fun _ h9 => h9) rfl dX11_tongue_83 ?_
                refine lv_imul hx hb dX11_tongue_86 ?_
                refine lv_bipush (v := 9) hx hb dX11_tongue_87 bc_9 ?_
                refine lv_icmp_gt (tgt := 96) hx hb dX11_tongue_89 (by decide) (fun c_89 => ?_) (fun c_89 => ?_)
                · replace h := it_e c_89 h
                  exact Jj96  H locs ls h hP hD hS hl
                · replace h := if_e c_89 h
                  refine lv_iconst (v := 1) hx hb dX11_tongue_92 ic_1 ?_
                  refine lv_goto (tgt := 97) hx hb dX11_tongue_93 (by decide) ?_
                  exact Jj97 1 H locs ls h hP hD hS hl
          obtain ⟨j55, hj55, h⟩ := jn_e h
          have Jj55 : ∀ (x55_s1 : Int32) (H : Heap) (locs : List Loc) (ls : Array Slot), j55 x55_s1 = some z → va_P D vwCl [(a_values, .inl (cI, 3, .inl f_values)), (a_draft, .inl (cI, 3, .inl x19_f_draft)), (a_sayings, .inl (cI, 3, .inl f_sayings)), (a_words, .inl (cI, 3, .inl f_words)), (a_isKept, .inl (cZ, 2, .inl f_isKept)), (a_o, .inr (10, [.long o_trace, .ref a_text, .int o_typed, .int o_choices, .int o_worlds, .ref a_values, .int x19_o_at, .int x19_o_start, .int x19_o_sort, .int x19_o_value, .int x19_o_fault, .ref a_draft, .ref a_sayings, w_o_leaves, w_o_signs, .ref a_words, w_o_word, .ref a_isKept, w_o_some, w_o_every, .int o_deep, .int o_many, w_o_length, w_o_found, .int o_foundMany])), (a_text, .inl (cB, 200, .inl f_text))] H → va_D A [(a_values, .inl (cI, 3, .inl f_values)), (a_draft, .inl (cI, 3, .inl x19_f_draft)), (a_sayings, .inl (cI, 3, .inl f_sayings)), (a_words, .inl (cI, 3, .inl f_words)), (a_isKept, .inl (cZ, 2, .inl f_isKept)), (a_o, .inr (10, [.long o_trace, .ref a_text, .int o_typed, .int o_choices, .int o_worlds, .ref a_values, .int x19_o_at, .int x19_o_start, .int x19_o_sort, .int x19_o_value, .int x19_o_fault, .ref a_draft, .ref a_sayings, w_o_leaves, w_o_signs, .ref a_words, w_o_word, .ref a_isKept, w_o_some, w_o_every, .int o_deep, .int o_many, w_o_length, w_o_found, .int o_foundMany])), (a_text, .inl (cB, 200, .inl f_text))] → va_S A s.heap H locs → lv_has ls 4 [(0, .ref a_o), (1, .int x19_l1), (2, .int x19_l2)] → W p l e rmX11_tongue s m args below meth c H locs 0 0 Q (F0 m 55 ls [.int x55_s1, .ref a_o]) := by
            intro x55_s1 H locs ls h hP hD hS hl
            rw [hj55] at h
            obtain ⟨z_55, hc_55, h⟩ := bd_e h
            refine q_iV (As := [.int x55_s1]) (rest := []) (wF := [(a_values, .inl (cI, 3, .inl f_values)), (a_draft, .inl (cI, 3, .inl x19_f_draft)), (a_sayings, .inl (cI, 3, .inl f_sayings)), (a_words, .inl (cI, 3, .inl f_words)), (a_isKept, .inl (cZ, 2, .inl f_isKept)), (a_o, .inr (10, [.long o_trace, .ref a_text, .int o_typed, .int o_choices, .int o_worlds, .ref a_values, .int z_55.2.1, .int z_55.2.2.1, .int z_55.2.2.2.1, .int z_55.2.2.2.2.1, .int z_55.2.2.2.2.2, .ref a_draft, .ref a_sayings, w_o_leaves, w_o_signs, .ref a_words, w_o_word, .ref a_isKept, w_o_some, w_o_every, .int o_deep, .int o_many, w_o_length, w_o_found, .int o_foundMany])), (a_text, .inl (cB, 200, .inl f_text))]) hF hA hZ hK hP hD hS (c_X11_due l D cI cB cZ a_o o_trace o_typed o_choices o_worlds (.ref a_values) x19_o_at x19_o_start x19_o_sort x19_o_value x19_o_fault (.ref a_draft) (.ref a_sayings) w_o_leaves w_o_signs (.ref a_words) w_o_word (.ref a_isKept) w_o_some w_o_every o_deep o_many w_o_length w_o_found o_foundMany a_text f_text x55_s1 z_55 hc_55) rfl gX11_tongue_X11_due hdX11_due ⟨rfl, rfl⟩ (Nat.le_of_ble_eq_true rfl) (Nat.le_of_ble_eq_true rfl) 10 0 rfl rfl [5, 6] [0, 1, 2, 3, 4] rfl rfl rfl rfl (by decide) rfl hl.1 rfl (Nat.le_of_ble_eq_true rfl) (Nat.zero_le _) (Nat.zero_le _) dX11_tongue_55 (fun H locs hP hD hS => ?_)
            refine lv_pop hx hb dX11_tongue_58 rfl ?_
            refine lv_aload_n hx hb dX11_tongue_59 rfl (lv_at hl 0 rfl) ?_
            refine lv_aload_n hx hb dX11_tongue_60 rfl (lv_at hl 0 rfl) ?_
            refine va_get (D := D) (ci := 10) (v := .int z_55.2.2.2.1) (C := RX11) (T := TX11) (N := 25) hx hb hts u_X11 hown hK hP 5 rfl rfl 8 (by decide) k_f10 (fun _ h9 => h9) rfl dX11_tongue_61 ?_
            refine lv_iconst (v := 3) hx hb dX11_tongue_64 ic_3 ?_
            obtain ⟨j96, hj96, h⟩ := jn_e h
            have Jj96 : ∀ (H : Heap) (locs : List Loc) (ls : Array Slot), j96 () = some z → va_P D vwCl [(a_values, .inl (cI, 3, .inl f_values)), (a_draft, .inl (cI, 3, .inl x19_f_draft)), (a_sayings, .inl (cI, 3, .inl f_sayings)), (a_words, .inl (cI, 3, .inl f_words)), (a_isKept, .inl (cZ, 2, .inl f_isKept)), (a_o, .inr (10, [.long o_trace, .ref a_text, .int o_typed, .int o_choices, .int o_worlds, .ref a_values, .int z_55.2.1, .int z_55.2.2.1, .int z_55.2.2.2.1, .int z_55.2.2.2.2.1, .int z_55.2.2.2.2.2, .ref a_draft, .ref a_sayings, w_o_leaves, w_o_signs, .ref a_words, w_o_word, .ref a_isKept, w_o_some, w_o_every, .int o_deep, .int o_many, w_o_length, w_o_found, .int o_foundMany])), (a_text, .inl (cB, 200, .inl f_text))] H → va_D A [(a_values, .inl (cI, 3, .inl f_values)), (a_draft, .inl (cI, 3, .inl x19_f_draft)), (a_sayings, .inl (cI, 3, .inl f_sayings)), (a_words, .inl (cI, 3, .inl f_words)), (a_isKept, .inl (cZ, 2, .inl f_isKept)), (a_o, .inr (10, [.long o_trace, .ref a_text, .int o_typed, .int o_choices, .int o_worlds, .ref a_values, .int z_55.2.1, .int z_55.2.2.1, .int z_55.2.2.2.1, .int z_55.2.2.2.2.1, .int z_55.2.2.2.2.2, .ref a_draft, .ref a_sayings, w_o_leaves, w_o_signs, .ref a_words, w_o_word, .ref a_isKept, w_o_some, w_o_every, .int o_deep, .int o_many, w_o_length, w_o_found, .int o_foundMany])), (a_text, .inl (cB, 200, .inl f_text))] → va_S A s.heap H locs → lv_has ls 4 [(0, .ref a_o), (1, .int x19_l1), (2, .int x19_l2)] → W p l e rmX11_tongue s m args below meth c H locs 0 0 Q (F0 m 96 ls [.ref a_o]) := by
              intro H locs ls h hP hD hS hl
              rw [hj96] at h
              refine lv_iconst (v := 0) hx hb dX11_tongue_96 ic_0 ?_
              obtain ⟨z_97, hc_97, h⟩ := bd_e h
              refine q_iV (As := [.int 0]) (rest := []) (wF := [(a_values, .inl (cI, 3, .inl f_values)), (a_draft, .inl (cI, 3, .inl x19_f_draft)), (a_sayings, .inl (cI, 3, .inl f_sayings)), (a_words, .inl (cI, 3, .inl f_words)), (a_isKept, .inl (cZ, 2, .inl f_isKept)), (a_o, .inr (10, [.long o_trace, .ref a_text, .int o_typed, .int o_choices, .int o_worlds, .ref a_values, .int z_97.2.1, .int z_97.2.2.1, .int z_97.2.2.2.1, .int z_97.2.2.2.2.1, .int z_97.2.2.2.2.2, .ref a_draft, .ref a_sayings, w_o_leaves, w_o_signs, .ref a_words, w_o_word, .ref a_isKept, w_o_some, w_o_every, .int o_deep, .int o_many, w_o_length, w_o_found, .int o_foundMany])), (a_text, .inl (cB, 200, .inl f_text))]) hF hA hZ hK hP hD hS (c_X11_due l D cI cB cZ a_o o_trace o_typed o_choices o_worlds (.ref a_values) z_55.2.1 z_55.2.2.1 z_55.2.2.2.1 z_55.2.2.2.2.1 z_55.2.2.2.2.2 (.ref a_draft) (.ref a_sayings) w_o_leaves w_o_signs (.ref a_words) w_o_word (.ref a_isKept) w_o_some w_o_every o_deep o_many w_o_length w_o_found o_foundMany a_text f_text 0 z_97 hc_97) rfl gX11_tongue_X11_due hdX11_due ⟨rfl, rfl⟩ (Nat.le_of_ble_eq_true rfl) (Nat.le_of_ble_eq_true rfl) 10 0 rfl rfl [5, 6] [0, 1, 2, 3, 4] rfl rfl rfl rfl (by decide) rfl hl.1 rfl (Nat.le_of_ble_eq_true rfl) (Nat.zero_le _) (Nat.zero_le _) dX11_tongue_97 (fun H locs hP hD hS => ?_)
              refine lv_istore_n (lv' := [(3, .int z_97.1), (0, .ref a_o), (1, .int x19_l1), (2, .int x19_l2)]) hx hb dX11_tongue_100 rfl hl (by decide) rfl (fun ls hl => ?_)
              refine lv_aload_n hx hb dX11_tongue_101 rfl (lv_at hl 1 rfl) ?_
              refine lv_aload_n hx hb dX11_tongue_102 rfl (lv_at hl 1 rfl) ?_
              refine va_get (D := D) (ci := 10) (v := .int z_97.2.2.2.1) (C := RX11) (T := TX11) (N := 25) hx hb hts u_X11 hown hK hP 5 rfl rfl 8 (by decide) k_f10 (fun _ h9 => h9) rfl dX11_tongue_103 ?_
              refine lv_iconst (v := 4) hx hb dX11_tongue_106 ic_4 ?_
              obtain ⟨j115, hj115, h⟩ := jn_e h
              have Jj115 : ∀ (x115_s1 : Int32) (H : Heap) (locs : List Loc) (ls : Array Slot), j115 x115_s1 = some z → va_P D vwCl [(a_values, .inl (cI, 3, .inl f_values)), (a_draft, .inl (cI, 3, .inl x19_f_draft)), (a_sayings, .inl (cI, 3, .inl f_sayings)), (a_words, .inl (cI, 3, .inl f_words)), (a_isKept, .inl (cZ, 2, .inl f_isKept)), (a_o, .inr (10, [.long o_trace, .ref a_text, .int o_typed, .int o_choices, .int o_worlds, .ref a_values, .int z_97.2.1, .int z_97.2.2.1, .int z_97.2.2.2.1, .int z_97.2.2.2.2.1, .int z_97.2.2.2.2.2, .ref a_draft, .ref a_sayings, w_o_leaves, w_o_signs, .ref a_words, w_o_word, .ref a_isKept, w_o_some, w_o_every, .int o_deep, .int o_many, w_o_length, w_o_found, .int o_foundMany])), (a_text, .inl (cB, 200, .inl f_text))] H → va_D A [(a_values, .inl (cI, 3, .inl f_values)), (a_draft, .inl (cI, 3, .inl x19_f_draft)), (a_sayings, .inl (cI, 3, .inl f_sayings)), (a_words, .inl (cI, 3, .inl f_words)), (a_isKept, .inl (cZ, 2, .inl f_isKept)), (a_o, .inr (10, [.long o_trace, .ref a_text, .int o_typed, .int o_choices, .int o_worlds, .ref a_values, .int z_97.2.1, .int z_97.2.2.1, .int z_97.2.2.2.1, .int z_97.2.2.2.2.1, .int z_97.2.2.2.2.2, .ref a_draft, .ref a_sayings, w_o_leaves, w_o_signs, .ref a_words, w_o_word, .ref a_isKept, w_o_some, w_o_every, .int o_deep, .int o_many, w_o_length, w_o_found, .int o_foundMany])), (a_text, .inl (cB, 200, .inl f_text))] → va_S A s.heap H locs → lv_has ls 4 [(0, .ref a_o), (1, .int x19_l1), (2, .int x19_l2), (3, .int z_97.1)] → W p l e rmX11_tongue s m args below meth c H locs 0 0 Q (F0 m 115 ls [.int x115_s1, .ref a_o]) := by
                intro x115_s1 H locs ls h hP hD hS hl
                rw [hj115] at h
                obtain ⟨z_115, hc_115, h⟩ := bd_e h
                refine q_iV (As := [.int x115_s1]) (rest := []) (wF := [(a_values, .inl (cI, 3, .inl f_values)), (a_draft, .inl (cI, 3, .inl x19_f_draft)), (a_sayings, .inl (cI, 3, .inl f_sayings)), (a_words, .inl (cI, 3, .inl f_words)), (a_isKept, .inl (cZ, 2, .inl f_isKept)), (a_o, .inr (10, [.long o_trace, .ref a_text, .int o_typed, .int o_choices, .int o_worlds, .ref a_values, .int z_115.2.1, .int z_115.2.2.1, .int z_115.2.2.2.1, .int z_115.2.2.2.2.1, .int z_115.2.2.2.2.2, .ref a_draft, .ref a_sayings, w_o_leaves, w_o_signs, .ref a_words, w_o_word, .ref a_isKept, w_o_some, w_o_every, .int o_deep, .int o_many, w_o_length, w_o_found, .int o_foundMany])), (a_text, .inl (cB, 200, .inl f_text))]) hF hA hZ hK hP hD hS (c_X11_due l D cI cB cZ a_o o_trace o_typed o_choices o_worlds (.ref a_values) z_97.2.1 z_97.2.2.1 z_97.2.2.2.1 z_97.2.2.2.2.1 z_97.2.2.2.2.2 (.ref a_draft) (.ref a_sayings) w_o_leaves w_o_signs (.ref a_words) w_o_word (.ref a_isKept) w_o_some w_o_every o_deep o_many w_o_length w_o_found o_foundMany a_text f_text x115_s1 z_115 hc_115) rfl gX11_tongue_X11_due hdX11_due ⟨rfl, rfl⟩ (Nat.le_of_ble_eq_true rfl) (Nat.le_of_ble_eq_true rfl) 10 0 rfl rfl [5, 6] [0, 1, 2, 3, 4] rfl rfl rfl rfl (by decide) rfl hl.1 rfl (Nat.le_of_ble_eq_true rfl) (Nat.zero_le _) (Nat.zero_le _) dX11_tongue_115 (fun H locs hP hD hS => ?_)
                refine lv_pop hx hb dX11_tongue_118 rfl ?_
                refine lv_aload_n hx hb dX11_tongue_119 rfl (lv_at hl 0 rfl) ?_
                refine va_get (D := D) (ci := 10) (v := .int z_115.2.2.2.2.2) (C := RX11) (T := TX11) (N := 25) hx hb hts u_X11 hown hK hP 5 rfl rfl 10 (by decide) k_f1 (fun _ h9 => h9) rfl dX11_tongue_120 ?_
                refine lv_bipush (v := (-9)) hx hb dX11_tongue_123 bc_m9 ?_
                obtain ⟨j142, hj142, h⟩ := jn_e h
                have Jj142 : ∀ (x142_l1 : Int32) (x142_l2 : Int32) (x142_f_draft : (Nat → Int32)) (H : Heap) (locs : List Loc) (ls : Array Slot), j142 x142_l1 x142_l2 x142_f_draft = some z → va_P D vwCl [(a_values, .inl (cI, 3, .inl f_values)), (a_draft, .inl (cI, 3, .inl x142_f_draft)), (a_sayings, .inl (cI, 3, .inl f_sayings)), (a_words, .inl (cI, 3, .inl f_words)), (a_isKept, .inl (cZ, 2, .inl f_isKept)), (a_o, .inr (10, [.long o_trace, .ref a_text, .int o_typed, .int o_choices, .int o_worlds, .ref a_values, .int z_115.2.1, .int z_115.2.2.1, .int z_115.2.2.2.1, .int z_115.2.2.2.2.1, .int z_115.2.2.2.2.2, .ref a_draft, .ref a_sayings, w_o_leaves, w_o_signs, .ref a_words, w_o_word, .ref a_isKept, w_o_some, w_o_every, .int o_deep, .int o_many, w_o_length, w_o_found, .int o_foundMany])), (a_text, .inl (cB, 200, .inl f_text))] H → va_D A [(a_values, .inl (cI, 3, .inl f_values)), (a_draft, .inl (cI, 3, .inl x142_f_draft)), (a_sayings, .inl (cI, 3, .inl f_sayings)), (a_words, .inl (cI, 3, .inl f_words)), (a_isKept, .inl (cZ, 2, .inl f_isKept)), (a_o, .inr (10, [.long o_trace, .ref a_text, .int o_typed, .int o_choices, .int o_worlds, .ref a_values, .int z_115.2.1, .int z_115.2.2.1, .int z_115.2.2.2.1, .int z_115.2.2.2.2.1, .int z_115.2.2.2.2.2, .ref a_draft, .ref a_sayings, w_o_leaves, w_o_signs, .ref a_words, w_o_word, .ref a_isKept, w_o_some, w_o_every, .int o_deep, .int o_many, w_o_length, w_o_found, .int o_foundMany])), (a_text, .inl (cB, 200, .inl f_text))] → va_S A s.heap H locs → lv_has ls 4 [(0, .ref a_o), (1, .int x142_l1), (2, .int x142_l2)] → W p l e rmX11_tongue s m args below meth c H locs 0 0 Q (F0 m 142 ls []) := by
                  intro x142_l1 x142_l2 x142_f_draft H locs ls h hP hD hS hl
                  rw [hj142] at h
                  refine lv_goto (tgt := 19) hx hb dX11_tongue_142 (by decide) ?_
                  exact ih19 x142_l1 x142_l2 z_115.2.1 z_115.2.2.1 z_115.2.2.2.1 z_115.2.2.2.2.1 z_115.2.2.2.2.2 x142_f_draft H locs ls h hP hD hS hl
                refine lv_icmp_ne (tgt := 142) hx hb dX11_tongue_125 (by decide) (fun c_125 => ?_) (fun c_125 => ?_)
                · replace h := if_e c_125 h
                  exact Jj142 x19_l1 x19_l2 x19_f_draft H locs ls h hP hD hS (lv_sub hl [0, 1, 2] rfl)
                · replace h := it_e c_125 h
                  refine lv_aload_n hx hb dX11_tongue_128 rfl (lv_at hl 0 rfl) ?_
                  refine va_get (D := D) (ci := 10) (v := .ref a_draft) (C := RX11) (T := TX11) (N := 25) hx hb hts u_X11 hown hK hP 5 rfl rfl 11 (by decide) k_f9 (fun _ h9 => h9) rfl dX11_tongue_129 ?_
                  refine lv_iload_n hx hb dX11_tongue_132 rfl (lv_at hl 1 rfl) ?_
                  refine lv_iload_n hx hb dX11_tongue_133 rfl (lv_at hl 3 rfl) ?_
                  obtain ⟨hi_134, h⟩ := ck_e h
                  refine va_iast hx hb hK hP hD hS 1 0 rfl rfl hi_134 dX11_tongue_134 (fun H locs hP hD hS => ?_)
                  have hP : va_P D vwCl [(a_values, .inl (cI, 3, .inl f_values)), (a_draft, .inl (cI, 3, .inl (upd x19_f_draft x19_l1.toNatClampNeg z_97.1))), (a_sayings, .inl (cI, 3, .inl f_sayings)), (a_words, .inl (cI, 3, .inl f_words)), (a_isKept, .inl (cZ, 2, .inl f_isKept)), (a_o, .inr (10, [.long o_trace, .ref a_text, .int o_typed, .int o_choices, .int o_worlds, .ref a_values, .int z_115.2.1, .int z_115.2.2.1, .int z_115.2.2.2.1, .int z_115.2.2.2.2.1, .int z_115.2.2.2.2.2, .ref a_draft, .ref a_sayings, w_o_leaves, w_o_signs, .ref a_words, w_o_word, .ref a_isKept, w_o_some, w_o_every, .int o_deep, .int o_many, w_o_length, w_o_found, .int o_foundMany])), (a_text, .inl (cB, 200, .inl f_text))] H := hP
                  have hD : va_D A [(a_values, .inl (cI, 3, .inl f_values)), (a_draft, .inl (cI, 3, .inl (upd x19_f_draft x19_l1.toNatClampNeg z_97.1))), (a_sayings, .inl (cI, 3, .inl f_sayings)), (a_words, .inl (cI, 3, .inl f_words)), (a_isKept, .inl (cZ, 2, .inl f_isKept)), (a_o, .inr (10, [.long o_trace, .ref a_text, .int o_typed, .int o_choices, .int o_worlds, .ref a_values, .int z_115.2.1, .int z_115.2.2.1, .int z_115.2.2.2.1, .int z_115.2.2.2.2.1, .int z_115.2.2.2.2.2, .ref a_draft, .ref a_sayings, w_o_leaves, w_o_signs, .ref a_words, w_o_word, .ref a_isKept, w_o_some, w_o_every, .int o_deep, .int o_many, w_o_length, w_o_found, .int o_foundMany])), (a_text, .inl (cB, 200, .inl f_text))] := hD
                  refine lv_iinc (v := x19_l1 + 1) (lv' := [(1, .int (x19_l1 + 1)), (0, .ref a_o), (2, .int x19_l2), (3, .int z_97.1)]) hx hb dX11_tongue_135 hl (k := 1) rfl (congrArg (x19_l1 + ·) ic_1) (by decide) rfl (fun ls hl => ?_)
                  refine lv_iload_n hx hb dX11_tongue_138 rfl (lv_at hl 2 rfl) ?_
                  refine lv_iload_n hx hb dX11_tongue_139 rfl (lv_at hl 3 rfl) ?_
                  refine lv_imul hx hb dX11_tongue_140 ?_
                  refine lv_istore_n (lv' := [(2, .int (x19_l2 * z_97.1)), (1, .int (x19_l1 + 1)), (0, .ref a_o), (3, .int z_97.1)]) hx hb dX11_tongue_141 rfl hl (by decide) rfl (fun ls hl => ?_)
                  exact Jj142 (x19_l1 + 1) (x19_l2 * z_97.1) (upd x19_f_draft x19_l1.toNatClampNeg z_97.1) H locs ls h hP hD hS (lv_sub hl [2, 1, 0] rfl)
              refine lv_icmp_ne (tgt := 114) hx hb dX11_tongue_107 (by decide) (fun c_107 => ?_) (fun c_107 => ?_)
              · replace h := if_e c_107 h
                refine lv_iconst (v := 0) hx hb dX11_tongue_114 ic_0 ?_
                exact Jj115 0 H locs ls h hP hD hS (lv_sub hl [1, 2, 3, 0] rfl)
              · replace h := it_e c_107 h
                refine lv_iconst (v := 1) hx hb dX11_tongue_110 ic_1 ?_
                refine lv_goto (tgt := 115) hx hb dX11_tongue_111 (by decide) ?_
                exact Jj115 1 H locs ls h hP hD hS (lv_sub hl [1, 2, 3, 0] rfl)
            obtain ⟨j97, hj97, h⟩ := jn_e h
            have Jj97 : ∀ (x97_s1 : Int32) (H : Heap) (locs : List Loc) (ls : Array Slot), j97 x97_s1 = some z → va_P D vwCl [(a_values, .inl (cI, 3, .inl f_values)), (a_draft, .inl (cI, 3, .inl x19_f_draft)), (a_sayings, .inl (cI, 3, .inl f_sayings)), (a_words, .inl (cI, 3, .inl f_words)), (a_isKept, .inl (cZ, 2, .inl f_isKept)), (a_o, .inr (10, [.long o_trace, .ref a_text, .int o_typed, .int o_choices, .int o_worlds, .ref a_values, .int z_55.2.1, .int z_55.2.2.1, .int z_55.2.2.2.1, .int z_55.2.2.2.2.1, .int z_55.2.2.2.2.2, .ref a_draft, .ref a_sayings, w_o_leaves, w_o_signs, .ref a_words, w_o_word, .ref a_isKept, w_o_some, w_o_every, .int o_deep, .int o_many, w_o_length, w_o_found, .int o_foundMany])), (a_text, .inl (cB, 200, .inl f_text))] H → va_D A [(a_values, .inl (cI, 3, .inl f_values)), (a_draft, .inl (cI, 3, .inl x19_f_draft)), (a_sayings, .inl (cI, 3, .inl f_sayings)), (a_words, .inl (cI, 3, .inl f_words)), (a_isKept, .inl (cZ, 2, .inl f_isKept)), (a_o, .inr (10, [.long o_trace, .ref a_text, .int o_typed, .int o_choices, .int o_worlds, .ref a_values, .int z_55.2.1, .int z_55.2.2.1, .int z_55.2.2.2.1, .int z_55.2.2.2.2.1, .int z_55.2.2.2.2.2, .ref a_draft, .ref a_sayings, w_o_leaves, w_o_signs, .ref a_words, w_o_word, .ref a_isKept, w_o_some, w_o_every, .int o_deep, .int o_many, w_o_length, w_o_found, .int o_foundMany])), (a_text, .inl (cB, 200, .inl f_text))] → va_S A s.heap H locs → lv_has ls 4 [(0, .ref a_o), (1, .int x19_l1), (2, .int x19_l2)] → W p l e rmX11_tongue s m args below meth c H locs 0 0 Q (F0 m 97 ls [.int x97_s1, .ref a_o]) := by
              intro x97_s1 H locs ls h hP hD hS hl
              rw [hj97] at h
              obtain ⟨z_97, hc_97, h⟩ := bd_e h
              refine q_iV (As := [.int x97_s1]) (rest := []) (wF := [(a_values, .inl (cI, 3, .inl f_values)), (a_draft, .inl (cI, 3, .inl x19_f_draft)), (a_sayings, .inl (cI, 3, .inl f_sayings)), (a_words, .inl (cI, 3, .inl f_words)), (a_isKept, .inl (cZ, 2, .inl f_isKept)), (a_o, .inr (10, [.long o_trace, .ref a_text, .int o_typed, .int o_choices, .int o_worlds, .ref a_values, .int z_97.2.1, .int z_97.2.2.1, .int z_97.2.2.2.1, .int z_97.2.2.2.2.1, .int z_97.2.2.2.2.2, .ref a_draft, .ref a_sayings, w_o_leaves, w_o_signs, .ref a_words, w_o_word, .ref a_isKept, w_o_some, w_o_every, .int o_deep, .int o_many, w_o_length, w_o_found, .int o_foundMany])), (a_text, .inl (cB, 200, .inl f_text))]) hF hA hZ hK hP hD hS (c_X11_due l D cI cB cZ a_o o_trace o_typed o_choices o_worlds (.ref a_values) z_55.2.1 z_55.2.2.1 z_55.2.2.2.1 z_55.2.2.2.2.1 z_55.2.2.2.2.2 (.ref a_draft) (.ref a_sayings) w_o_leaves w_o_signs (.ref a_words) w_o_word (.ref a_isKept) w_o_some w_o_every o_deep o_many w_o_length w_o_found o_foundMany a_text f_text x97_s1 z_97 hc_97) rfl gX11_tongue_X11_due hdX11_due ⟨rfl, rfl⟩ (Nat.le_of_ble_eq_true rfl) (Nat.le_of_ble_eq_true rfl) 10 0 rfl rfl [5, 6] [0, 1, 2, 3, 4] rfl rfl rfl rfl (by decide) rfl hl.1 rfl (Nat.le_of_ble_eq_true rfl) (Nat.zero_le _) (Nat.zero_le _) dX11_tongue_97 (fun H locs hP hD hS => ?_)
              refine lv_istore_n (lv' := [(3, .int z_97.1), (0, .ref a_o), (1, .int x19_l1), (2, .int x19_l2)]) hx hb dX11_tongue_100 rfl hl (by decide) rfl (fun ls hl => ?_)
              refine lv_aload_n hx hb dX11_tongue_101 rfl (lv_at hl 1 rfl) ?_
              refine lv_aload_n hx hb dX11_tongue_102 rfl (lv_at hl 1 rfl) ?_
              refine va_get (D := D) (ci := 10) (v := .int z_97.2.2.2.1) (C := RX11) (T := TX11) (N := 25) hx hb hts u_X11 hown hK hP 5 rfl rfl 8 (by decide) k_f10 (fun _ h9 => h9) rfl dX11_tongue_103 ?_
              refine lv_iconst (v := 4) hx hb dX11_tongue_106 ic_4 ?_
              obtain ⟨j115, hj115, h⟩ := jn_e h
              have Jj115 : ∀ (x115_s1 : Int32) (H : Heap) (locs : List Loc) (ls : Array Slot), j115 x115_s1 = some z → va_P D vwCl [(a_values, .inl (cI, 3, .inl f_values)), (a_draft, .inl (cI, 3, .inl x19_f_draft)), (a_sayings, .inl (cI, 3, .inl f_sayings)), (a_words, .inl (cI, 3, .inl f_words)), (a_isKept, .inl (cZ, 2, .inl f_isKept)), (a_o, .inr (10, [.long o_trace, .ref a_text, .int o_typed, .int o_choices, .int o_worlds, .ref a_values, .int z_97.2.1, .int z_97.2.2.1, .int z_97.2.2.2.1, .int z_97.2.2.2.2.1, .int z_97.2.2.2.2.2, .ref a_draft, .ref a_sayings, w_o_leaves, w_o_signs, .ref a_words, w_o_word, .ref a_isKept, w_o_some, w_o_every, .int o_deep, .int o_many, w_o_length, w_o_found, .int o_foundMany])), (a_text, .inl (cB, 200, .inl f_text))] H → va_D A [(a_values, .inl (cI, 3, .inl f_values)), (a_draft, .inl (cI, 3, .inl x19_f_draft)), (a_sayings, .inl (cI, 3, .inl f_sayings)), (a_words, .inl (cI, 3, .inl f_words)), (a_isKept, .inl (cZ, 2, .inl f_isKept)), (a_o, .inr (10, [.long o_trace, .ref a_text, .int o_typed, .int o_choices, .int o_worlds, .ref a_values, .int z_97.2.1, .int z_97.2.2.1, .int z_97.2.2.2.1, .int z_97.2.2.2.2.1, .int z_97.2.2.2.2.2, .ref a_draft, .ref a_sayings, w_o_leaves, w_o_signs, .ref a_words, w_o_word, .ref a_isKept, w_o_some, w_o_every, .int o_deep, .int o_many, w_o_length, w_o_found, .int o_foundMany])), (a_text, .inl (cB, 200, .inl f_text))] → va_S A s.heap H locs → lv_has ls 4 [(0, .ref a_o), (1, .int x19_l1), (2, .int x19_l2), (3, .int z_97.1)] → W p l e rmX11_tongue s m args below meth c H locs 0 0 Q (F0 m 115 ls [.int x115_s1, .ref a_o]) := by
                intro x115_s1 H locs ls h hP hD hS hl
                rw [hj115] at h
                obtain ⟨z_115, hc_115, h⟩ := bd_e h
                refine q_iV (As := [.int x115_s1]) (rest := []) (wF := [(a_values, .inl (cI, 3, .inl f_values)), (a_draft, .inl (cI, 3, .inl x19_f_draft)), (a_sayings, .inl (cI, 3, .inl f_sayings)), (a_words, .inl (cI, 3, .inl f_words)), (a_isKept, .inl (cZ, 2, .inl f_isKept)), (a_o, .inr (10, [.long o_trace, .ref a_text, .int o_typed, .int o_choices, .int o_worlds, .ref a_values, .int z_115.2.1, .int z_115.2.2.1, .int z_115.2.2.2.1, .int z_115.2.2.2.2.1, .int z_115.2.2.2.2.2, .ref a_draft, .ref a_sayings, w_o_leaves, w_o_signs, .ref a_words, w_o_word, .ref a_isKept, w_o_some, w_o_every, .int o_deep, .int o_many, w_o_length, w_o_found, .int o_foundMany])), (a_text, .inl (cB, 200, .inl f_text))]) hF hA hZ hK hP hD hS (c_X11_due l D cI cB cZ a_o o_trace o_typed o_choices o_worlds (.ref a_values) z_97.2.1 z_97.2.2.1 z_97.2.2.2.1 z_97.2.2.2.2.1 z_97.2.2.2.2.2 (.ref a_draft) (.ref a_sayings) w_o_leaves w_o_signs (.ref a_words) w_o_word (.ref a_isKept) w_o_some w_o_every o_deep o_many w_o_length w_o_found o_foundMany a_text f_text x115_s1 z_115 hc_115) rfl gX11_tongue_X11_due hdX11_due ⟨rfl, rfl⟩ (Nat.le_of_ble_eq_true rfl) (Nat.le_of_ble_eq_true rfl) 10 0 rfl rfl [5, 6] [0, 1, 2, 3, 4] rfl rfl rfl rfl (by decide) rfl hl.1 rfl (Nat.le_of_ble_eq_true rfl) (Nat.zero_le _) (Nat.zero_le _) dX11_tongue_115 (fun H locs hP hD hS => ?_)
                refine lv_pop hx hb dX11_tongue_118 rfl ?_
                refine lv_aload_n hx hb dX11_tongue_119 rfl (lv_at hl 0 rfl) ?_
                refine va_get (D := D) (ci := 10) (v := .int z_115.2.2.2.2.2) (C := RX11) (T := TX11) (N := 25) hx hb hts u_X11 hown hK hP 5 rfl rfl 10 (by decide) k_f1 (fun _ h9 => h9) rfl dX11_tongue_120 ?_
                refine lv_bipush (v := (-9)) hx hb dX11_tongue_123 bc_m9 ?_
                obtain ⟨j142, hj142, h⟩ := jn_e h
                have Jj142 : ∀ (x142_l1 : Int32) (x142_l2 : Int32) (x142_f_draft : (Nat → Int32)) (H : Heap) (locs : List Loc) (ls : Array Slot), j142 x142_l1 x142_l2 x142_f_draft = some z → va_P D vwCl [(a_values, .inl (cI, 3, .inl f_values)), (a_draft, .inl (cI, 3, .inl x142_f_draft)), (a_sayings, .inl (cI, 3, .inl f_sayings)), (a_words, .inl (cI, 3, .inl f_words)), (a_isKept, .inl (cZ, 2, .inl f_isKept)), (a_o, .inr (10, [.long o_trace, .ref a_text, .int o_typed, .int o_choices, .int o_worlds, .ref a_values, .int z_115.2.1, .int z_115.2.2.1, .int z_115.2.2.2.1, .int z_115.2.2.2.2.1, .int z_115.2.2.2.2.2, .ref a_draft, .ref a_sayings, w_o_leaves, w_o_signs, .ref a_words, w_o_word, .ref a_isKept, w_o_some, w_o_every, .int o_deep, .int o_many, w_o_length, w_o_found, .int o_foundMany])), (a_text, .inl (cB, 200, .inl f_text))] H → va_D A [(a_values, .inl (cI, 3, .inl f_values)), (a_draft, .inl (cI, 3, .inl x142_f_draft)), (a_sayings, .inl (cI, 3, .inl f_sayings)), (a_words, .inl (cI, 3, .inl f_words)), (a_isKept, .inl (cZ, 2, .inl f_isKept)), (a_o, .inr (10, [.long o_trace, .ref a_text, .int o_typed, .int o_choices, .int o_worlds, .ref a_values, .int z_115.2.1, .int z_115.2.2.1, .int z_115.2.2.2.1, .int z_115.2.2.2.2.1, .int z_115.2.2.2.2.2, .ref a_draft, .ref a_sayings, w_o_leaves, w_o_signs, .ref a_words, w_o_word, .ref a_isKept, w_o_some, w_o_every, .int o_deep, .int o_many, w_o_length, w_o_found, .int o_foundMany])), (a_text, .inl (cB, 200, .inl f_text))] → va_S A s.heap H locs → lv_has ls 4 [(0, .ref a_o), (1, .int x142_l1), (2, .int x142_l2)] → W p l e rmX11_tongue s m args below meth c H locs 0 0 Q (F0 m 142 ls []) := by
                  intro x142_l1 x142_l2 x142_f_draft H locs ls h hP hD hS hl
                  rw [hj142] at h
                  refine lv_goto (tgt := 19) hx hb dX11_tongue_142 (by decide) ?_
                  exact ih19 x142_l1 x142_l2 z_115.2.1 z_115.2.2.1 z_115.2.2.2.1 z_115.2.2.2.2.1 z_115.2.2.2.2.2 x142_f_draft H locs ls h hP hD hS hl
                refine lv_icmp_ne (tgt := 142) hx hb dX11_tongue_125 (by decide) (fun c_125 => ?_) (fun c_125 => ?_)
                · replace h := if_e c_125 h
                  exact Jj142 x19_l1 x19_l2 x19_f_draft H locs ls h hP hD hS (lv_sub hl [0, 1, 2] rfl)
                · replace h := it_e c_125 h
                  refine lv_aload_n hx hb dX11_tongue_128 rfl (lv_at hl 0 rfl) ?_
                  refine va_get (D := D) (ci := 10) (v := .ref a_draft) (C := RX11) (T := TX11) (N := 25) hx hb hts u_X11 hown hK hP 5 rfl rfl 11 (by decide) k_f9 (fun _ h9 => h9) rfl dX11_tongue_129 ?_
                  refine lv_iload_n hx hb dX11_tongue_132 rfl (lv_at hl 1 rfl) ?_
                  refine lv_iload_n hx hb dX11_tongue_133 rfl (lv_at hl 3 rfl) ?_
                  obtain ⟨hi_134, h⟩ := ck_e h
                  refine va_iast hx hb hK hP hD hS 1 0 rfl rfl hi_134 dX11_tongue_134 (fun H locs hP hD hS => ?_)
                  have hP : va_P D vwCl [(a_values, .inl (cI, 3, .inl f_values)), (a_draft, .inl (cI, 3, .inl (upd x19_f_draft x19_l1.toNatClampNeg z_97.1))), (a_sayings, .inl (cI, 3, .inl f_sayings)), (a_words, .inl (cI, 3, .inl f_words)), (a_isKept, .inl (cZ, 2, .inl f_isKept)), (a_o, .inr (10, [.long o_trace, .ref a_text, .int o_typed, .int o_choices, .int o_worlds, .ref a_values, .int z_115.2.1, .int z_115.2.2.1, .int z_115.2.2.2.1, .int z_115.2.2.2.2.1, .int z_115.2.2.2.2.2, .ref a_draft, .ref a_sayings, w_o_leaves, w_o_signs, .ref a_words, w_o_word, .ref a_isKept, w_o_some, w_o_every, .int o_deep, .int o_many, w_o_length, w_o_found, .int o_foundMany])), (a_text, .inl (cB, 200, .inl f_text))] H := hP
                  have hD : va_D A [(a_values, .inl (cI, 3, .inl f_values)), (a_draft, .inl (cI, 3, .inl (upd x19_f_draft x19_l1.toNatClampNeg z_97.1))), (a_sayings, .inl (cI, 3, .inl f_sayings)), (a_words, .inl (cI, 3, .inl f_words)), (a_isKept, .inl (cZ, 2, .inl f_isKept)), (a_o, .inr (10, [.long o_trace, .ref a_text, .int o_typed, .int o_choices, .int o_worlds, .ref a_values, .int z_115.2.1, .int z_115.2.2.1, .int z_115.2.2.2.1, .int z_115.2.2.2.2.1, .int z_115.2.2.2.2.2, .ref a_draft, .ref a_sayings, w_o_leaves, w_o_signs, .ref a_words, w_o_word, .ref a_isKept, w_o_some, w_o_every, .int o_deep, .int o_many, w_o_length, w_o_found, .int o_foundMany])), (a_text, .inl (cB, 200, .inl f_text))] := hD
                  refine lv_iinc (v := x19_l1 + 1) (lv' := [(1, .int (x19_l1 + 1)), (0, .ref a_o), (2, .int x19_l2), (3, .int z_97.1)]) hx hb dX11_tongue_135 hl (k := 1) rfl (congrArg (x19_l1 + ·) ic_1) (by decide) rfl (fun ls hl => ?_)
                  refine lv_iload_n hx hb dX11_tongue_138 rfl (lv_at hl 2 rfl) ?_
                  refine lv_iload_n hx hb dX11_tongue_139 rfl (lv_at hl 3 rfl) ?_
                  refine lv_imul hx hb dX11_tongue_140 ?_
                  refine lv_istore_n (lv' := [(2, .int (x19_l2 * z_97.1)), (1, .int (x19_l1 + 1)), (0, .ref a_o), (3, .int z_97.1)]) hx hb dX11_tongue_141 rfl hl (by decide) rfl (fun ls hl => ?_)
                  exact Jj142 (x19_l1 + 1) (x19_l2 * z_97.1) (upd x19_f_draft x19_l1.toNatClampNeg z_97.1) H locs ls h hP hD hS (lv_sub hl [2, 1, 0] rfl)
              refine lv_icmp_ne (tgt := 114) hx hb dX11_tongue_107 (by decide) (fun c_107 => ?_) (fun c_107 => ?_)
              · replace h := if_e c_107 h
                refine lv_iconst (v := 0) hx hb dX11_tongue_114 ic_0 ?_
                exact Jj115 0 H locs ls h hP hD hS (lv_sub hl [1, 2, 3, 0] rfl)
              · replace h := it_e c_107 h
                refine lv_iconst (v := 1) hx hb dX11_tongue_110 ic_1 ?_
                refine lv_goto (tgt := 115) hx hb dX11_tongue_111 (by decide) ?_
                exact Jj115 1 H locs ls h hP hD hS (lv_sub hl [1, 2, 3, 0] rfl)
            refine lv_icmp_ne (tgt := 96) hx hb dX11_tongue_65 (by decide) (fun c_65 => ?_) (fun c_65 => ?_)
            · replace h := if_e c_65 h
              exact Jj96  H locs ls h hP hD hS hl
            · replace h := it_e c_65 h
              refine lv_aload_n hx hb dX11_tongue_68 rfl (lv_at hl 0 rfl) ?_
              refine va_get (D := D) (ci := 10) (v := .int z_55.2.2.2.2.1) (C := RX11) (T := TX11) (N := 25) hx hb hts u_X11 hown hK hP 5 rfl rfl 9 (by decide) k_f11 (fun _ h9 => h9) rfl dX11_tongue_69 ?_
              refine lv_iconst (v := 2) hx hb dX11_tongue_72 ic_2 ?_
              refine lv_bipush (v := 9) hx hb dX11_tongue_73 bc_9 ?_
              obtain ⟨z_75, hc_75, h⟩ := bd_e h
              refine q_iS (As := [.int z_55.2.2.2.2.1, .int 2, .int 9]) (rest := [.ref a_o]) (wF := [(a_values, .inl (cI, 3, .inl f_values)), (a_draft, .inl (cI, 3, .inl x19_f_draft)), (a_sayings, .inl (cI, 3, .inl f_sayings)), (a_words, .inl (cI, 3, .inl f_words)), (a_isKept, .inl (cZ, 2, .inl f_isKept)), (a_o, .inr (10, [.long o_trace, .ref a_text, .int o_typed, .int o_choices, .int o_worlds, .ref a_values, .int z_55.2.1, .int z_55.2.2.1, .int z_55.2.2.2.1, .int z_55.2.2.2.2.1, .int z_55.2.2.2.2.2, .ref a_draft, .ref a_sayings, w_o_leaves, w_o_signs, .ref a_words, w_o_word, .ref a_isKept, w_o_some, w_o_every, .int o_deep, .int o_many, w_o_length, w_o_found, .int o_foundMany])), (a_text, .inl (cB, 200, .inl f_text))]) hF hA hZ hK hP hD hS (c_X11_in l D cI cB cZ z_55.2.2.2.2.1 2 9 z_75 hc_75) rfl gX11_tongue_X11_in hdX11_in ⟨rfl, rfl⟩ (Nat.le_of_ble_eq_true rfl) (Nat.le_of_ble_eq_true rfl) [] [0, 1, 2, 3, 4, 5, 6] rfl rfl rfl rfl (by decide) rfl hl.1 rfl (Nat.le_of_ble_eq_true rfl) (Nat.zero_le _) (Nat.zero_le _) dX11_tongue_75 (fun H locs hP hD hS => ?_)
              refine lv_if_eq (tgt := 96) hx hb dX11_tongue_78 (by decide) (fun c_78 => ?_) (fun c_78 => ?_)
              · replace h := it_e c_78 h
                exact Jj96  H locs ls h hP hD hS hl
              · replace h := if_e c_78 h
                refine lv_iload_n hx hb dX11_tongue_81 rfl (lv_at hl 2 rfl) ?_
                refine lv_aload_n hx hb dX11_tongue_82 rfl (lv_at hl 0 rfl) ?_
                refine va_get (D := D) (ci := 10) (v := .int z_55.2.2.2.2.1) (C := RX11) (T := TX11) (N := 25) hx hb hts u_X11 hown hK hP 5 rfl rfl 9 (by decide) k_f11 (fun _ h9 => h9) rfl dX11_tongue_83 ?_
                refine lv_imul hx hb dX11_tongue_86 ?_
                refine lv_bipush (v := 9) hx hb dX11_tongue_87 bc_9 ?_
                refine lv_icmp_gt (tgt := 96) hx hb dX11_tongue_89 (by decide) (fun c_89 => ?_) (fun c_89 => ?_)
                · replace h := it_e c_89 h
                  exact Jj96  H locs ls h hP hD hS hl
                · replace h := if_e c_89 h
                  refine lv_iconst (v := 1) hx hb dX11_tongue_92 ic_1 ?_
                  refine lv_goto (tgt := 97) hx hb dX11_tongue_93 (by decide) ?_
                  exact Jj97 1 H locs ls h hP hD hS hl
          refine lv_if_ne (tgt := 54) hx hb dX11_tongue_42 (by decide) (fun c_42 => ?_) (fun c_42 => ?_)
          · replace h := if_e c_42 h
            exact Jj54  H locs ls h hP hD hS hl
          · replace h := it_e c_42 h
            refine lv_iload_n hx hb dX11_tongue_45 rfl (lv_at hl 1 rfl) ?_
            refine lv_iconst (v := 3) hx hb dX11_tongue_46 ic_3 ?_
            refine lv_icmp_ge (tgt := 54) hx hb dX11_tongue_47 (by decide) (fun c_47 => ?_) (fun c_47 => ?_)
            · replace h := it_e c_47 h
              exact Jj54  H locs ls h hP hD hS hl
            · replace h := if_e c_47 h
              refine lv_iconst (v := 1) hx hb dX11_tongue_50 ic_1 ?_
              refine lv_goto (tgt := 55) hx hb dX11_tongue_51 (by decide) ?_
              exact Jj55 1 H locs ls h hP hD hS hl
  exact L19 QF 0 1 z_16.1 z_16.2.1 z_16.2.2.1 z_16.2.2.2 (-9) f_draft H locs ls h hP hD hS (lv_sub hl [2, 1, 0] rfl)
abbrev rmX11_allSets : Room := { frames := 0, cells := 0, slots := 0, locals := 0 }
theorem hdX11_allSets : yX11_allSets.cls = RX11 ∧ yX11_allSets.cls ≠ "java/lang/invoke/MethodHandle" ∧ yX11_allSets.cls ≠ "java/lang/invoke/VarHandle" ∧ (parseMethodDescriptor yX11_allSets.desc).map (fun d => d.parameters.length) = some 0 := by decide +kernel
set_option maxRecDepth 100000 in
set_option maxHeartbeats 4000000 in
theorem c_X11_allSets (l : Launch) (D : va_G) (cI cB cZ : ClassId) (a_o : Nat) (o_trace : Int64) (w_o_text : Value) (o_typed : Int32) (o_choices : Int32) (o_worlds : Int32) (w_o_values : Value) (o_at : Int32) (o_start : Int32) (o_sort : Int32) (o_value : Int32) (o_fault : Int32) (w_o_draft : Value) (w_o_sayings : Value) (w_o_leaves : Value) (w_o_signs : Value) (w_o_words : Value) (w_o_word : Value) (w_o_isKept : Value) (w_o_some : Value) (w_o_every : Value) (o_deep : Int32) (o_many : Int32) (w_o_length : Value) (w_o_found : Value) (o_foundMany : Int32) (z : Int32) (h : P_X11_allSets o_worlds = some z) : KI l yX11_allSets wsX11_allSets rmX11_allSets D [(cI, .int), (cB, .byte), (cZ, .boolean)] [.ref a_o] [(a_o, .inr (10, [.long o_trace, w_o_text, .int o_typed, .int o_choices, .int o_worlds, w_o_values, .int o_at, .int o_start, .int o_sort, .int o_value, .int o_fault, w_o_draft, w_o_sayings, w_o_leaves, w_o_signs, w_o_words, w_o_word, w_o_isKept, w_o_some, w_o_every, .int o_deep, .int o_many, w_o_length, w_o_found, .int o_foundMany]))] [(a_o, .inr (10, [.long o_trace, w_o_text, .int o_typed, .int o_choices, .int o_worlds, w_o_values, .int o_at, .int o_start, .int o_sort, .int o_value, .int o_fault, w_o_draft, w_o_sayings, w_o_leaves, w_o_signs, w_o_words, w_o_word, w_o_isKept, w_o_some, w_o_every, .int o_deep, .int o_many, w_o_length, w_o_found, .int o_foundMany]))] z := by
  refine KI_of (own := RX11) (cc := cX11_allSets) (maxL := 1) (ret := some .int) (by decide) rfl rfl (Nat.le_of_ble_eq_true rfl) (Or.inl rfl) ?_
  intro p e s m args below meth c A Q hx hb hml hown hts hA hZ hK hret H locs ls hP hD hS hl
  have hl : lv_has ls 1 [(0, .ref a_o)] := hl
  have hF : CallFix p m c cX11_allSets 1 s args wsX11_allSets RX11 := ⟨hx, hb, hml, hown, hts⟩
  have u_X11 : ∀ w ∈ u_ws RX11 TX11 25, w ∈ wsX11_allSets := by decide +kernel
  have k_f0 := hts (.fieldLink RX11 51 "NoWordNoModel" "worlds" "I") (by decide +kernel)
  unfold P_X11_allSets at h
  refine lv_iconst (v := 1) hx hb dX11_allSets_0 ic_1 ?_
  refine lv_aload_n hx hb dX11_allSets_1 rfl (lv_at hl 0 rfl) ?_
  refine va_get (D := D) (ci := 10) (v := .int o_worlds) (C := RX11) (T := TX11) (N := 25) hx hb hts u_X11 hown hK hP 0 rfl rfl 4 (by decide) k_f0 (fun _ h9 => h9) rfl dX11_allSets_2 ?_
  refine lv_ishl hx hb dX11_allSets_5 ?_
  refine lv_iconst (v := 1) hx hb dX11_allSets_6 ic_1 ?_
  refine lv_isub hx hb dX11_allSets_7 ?_
  have hz := Option.some.inj h
  subst hz
  exact hret H locs 8 ls (fun ty h => by cases h; rfl) hP hD hS dX11_allSets_8
abbrev rmX11_valueOf : Room := { frames := 0, cells := 0, slots := 0, locals := 0 }
theorem hdX11_valueOf : yX11_valueOf.cls = RX11 ∧ yX11_valueOf.cls ≠ "java/lang/invoke/MethodHandle" ∧ yX11_valueOf.cls ≠ "java/lang/invoke/VarHandle" ∧ (parseMethodDescriptor yX11_valueOf.desc).map (fun d => d.parameters.length) = some 2 := by decide +kernel
set_option maxRecDepth 100000 in
set_option maxHeartbeats 4000000 in
theorem c_X11_valueOf (l : Launch) (D : va_G) (cI cB cZ : ClassId) (a_o : Nat) (o_trace : Int64) (w_o_text : Value) (o_typed : Int32) (o_choices : Int32) (o_worlds : Int32) (o_at : Int32) (o_start : Int32) (o_sort : Int32) (o_value : Int32) (o_fault : Int32) (w_o_draft : Value) (w_o_sayings : Value) (w_o_leaves : Value) (w_o_signs : Value) (w_o_words : Value) (w_o_word : Value) (w_o_isKept : Value) (w_o_some : Value) (w_o_every : Value) (o_deep : Int32) (o_many : Int32) (w_o_length : Value) (w_o_found : Value) (o_foundMany : Int32) (a_values : Nat) (f_values : Nat → Int32) (p1 : Int32) (p2 : Int32) (z : Int32) (h : P_X11_valueOf p1 p2 f_values = some z) : KI l yX11_valueOf wsX11_valueOf rmX11_valueOf D [(cI, .int), (cB, .byte), (cZ, .boolean)] [.ref a_o, .int p1, .int p2] [(a_o, .inr (10, [.long o_trace, w_o_text, .int o_typed, .int o_choices, .int o_worlds, .ref a_values, .int o_at, .int o_start, .int o_sort, .int o_value, .int o_fault, w_o_draft, w_o_sayings, w_o_leaves, w_o_signs, w_o_words, w_o_word, w_o_isKept, w_o_some, w_o_every, .int o_deep, .int o_many, w_o_length, w_o_found, .int o_foundMany])), (a_values, .inl (cI, 3, .inl f_values))] [(a_o, .inr (10, [.long o_trace, w_o_text, .int o_typed, .int o_choices, .int o_worlds, .ref a_values, .int o_at, .int o_start, .int o_sort, .int o_value, .int o_fault, w_o_draft, w_o_sayings, w_o_leaves, w_o_signs, w_o_words, w_o_word, w_o_isKept, w_o_some, w_o_every, .int o_deep, .int o_many, w_o_length, w_o_found, .int o_foundMany])), (a_values, .inl (cI, 3, .inl f_values))] z := by
  refine KI_of (own := RX11) (cc := cX11_valueOf) (maxL := 5) (ret := some .int) (by decide) rfl rfl (Nat.le_of_ble_eq_true rfl) (Or.inl rfl) ?_
  intro p e s m args below meth c A Q hx hb hml hown hts hA hZ hK hret H locs ls hP hD hS hl
  have hl : lv_has ls 5 [(0, .ref a_o), (1, .int p1), (2, .int p2)] := hl
  have hF : CallFix p m c cX11_valueOf 5 s args wsX11_valueOf RX11 := ⟨hx, hb, hml, hown, hts⟩
  have u_X11 : ∀ w ∈ u_ws RX11 TX11 25, w ∈ wsX11_valueOf := by decide +kernel
  have k_f0 := hts (.fieldLink RX11 13 "NoWordNoModel" "values" "[I") (by decide +kernel)
  unfold P_X11_valueOf at h
  refine lv_iload_n hx hb dX11_valueOf_0 rfl (lv_at hl 1 rfl) ?_
  refine lv_istore_n (lv' := [(3, .int p1), (0, .ref a_o), (1, .int p1), (2, .int p2)]) hx hb dX11_valueOf_1 rfl hl (by decide) rfl (fun ls hl => ?_)
  refine lv_iconst (v := 0) hx hb dX11_valueOf_2 ic_0 ?_
  refine lv_istore (lv' := [(4, .int 0), (3, .int p1), (0, .ref a_o), (1, .int p1), (2, .int p2)]) hx hb dX11_valueOf_3 hl (by decide) rfl (fun ls hl => ?_)
  obtain ⟨k27, hk27, h⟩ := jn_e h
  have Jk27 : ∀ (x27_l3 : Int32) (H : Heap) (locs : List Loc) (ls : Array Slot), k27 x27_l3 = some z → va_P D vwCl [(a_o, .inr (10, [.long o_trace, w_o_text, .int o_typed, .int o_choices, .int o_worlds, .ref a_values, .int o_at, .int o_start, .int o_sort, .int o_value, .int o_fault, w_o_draft, w_o_sayings, w_o_leaves, w_o_signs, w_o_words, w_o_word, w_o_isKept, w_o_some, w_o_every, .int o_deep, .int o_many, w_o_length, w_o_found, .int o_foundMany])), (a_values, .inl (cI, 3, .inl f_values))] H → va_D A [(a_o, .inr (10, [.long o_trace, w_o_text, .int o_typed, .int o_choices, .int o_worlds, .ref a_values, .int o_at, .int o_start, .int o_sort, .int o_value, .int o_fault, w_o_draft, w_o_sayings, w_o_leaves, w_o_signs, w_o_words, w_o_word, w_o_isKept, w_o_some, w_o_every, .int o_deep, .int o_many, w_o_length, w_o_found, .int o_foundMany])), (a_values, .inl (cI, 3, .inl f_values))] → va_S A s.heap H locs → lv_has ls 5 [(0, .ref a_o), (2, .int p2), (3, .int x27_l3)] → W p l e rmX11_valueOf s m args below meth c H locs 0 0 Q (F0 m 27 ls []) := by
    intro x27_l3 H locs ls h hP hD hS hl
    rw [hk27] at h
    refine lv_iload_n hx hb dX11_valueOf_27 rfl (lv_at hl 2 rfl) ?_
    refine lv_aload_n hx hb dX11_valueOf_28 rfl (lv_at hl 0 rfl) ?_
    refine va_get (D := D) (ci := 10) (v := .ref a_values) (C := RX11) (T := TX11) (N := 25) hx hb hts u_X11 hown hK hP 0 rfl rfl 5 (by decide) k_f0 (fun _ h9 => h9) rfl dX11_valueOf_29 ?_
    refine lv_iload_n hx hb dX11_valueOf_32 rfl (lv_at hl 1 rfl) ?_
    obtain ⟨hi_33, h⟩ := ck_e h
    refine va_iald hx hb hK hP 1 0 rfl rfl hi_33 dX11_valueOf_33 ?_
    obtain ⟨hz_34, h⟩ := dz_e h
    refine lv_irem hx hb dX11_valueOf_34 hz_34 ?_
    have hz := Option.some.inj h
    subst hz
    exact hret H locs 35 ls (fun ty h => by cases h; rfl) hP hD hS dX11_valueOf_35
  have L5 : ∀ (n : Nat), ∀ (x5_l3 : Int32) (x5_l4 : Int32) (H : Heap) (locs : List Loc) (ls : Array Slot), P_X11_valueOf_5 p2 f_values k27 n x5_l3 x5_l4 = some z → va_P D vwCl [(a_o, .inr (10, [.long o_trace, w_o_text, .int o_typed, .int o_choices, .int o_worlds, .ref a_values, .int o_at, .int o_start, .int o_sort, .int o_value, .int o_fault, w_o_draft, w_o_sayings, w_o_leaves, w_o_signs, w_o_words, w_o_word, w_o_isKept, w_o_some, w_o_every, .int o_deep, .int o_many, w_o_length, w_o_found, .int o_foundMany])), (a_values, .inl (cI, 3, .inl f_values))] H → va_D A [(a_o, .inr (10, [.long o_trace, w_o_text, .int o_typed, .int o_choices, .int o_worlds, .ref a_values, .int o_at, .int o_start, .int o_sort, .int o_value, .int o_fault, w_o_draft, w_o_sayings, w_o_leaves, w_o_signs, w_o_words, w_o_word, w_o_isKept, w_o_some, w_o_every, .int o_deep, .int o_many, w_o_length, w_o_found, .int o_foundMany])), (a_values, .inl (cI, 3, .inl f_values))] → va_S A s.heap H locs → lv_has ls 5 [(0, .ref a_o), (2, .int p2), (3, .int x5_l3), (4, .int x5_l4)] → W p l e rmX11_valueOf s m args below meth c H locs 0 0 Q (F0 m 5 ls []) := by
    intro n
    induction n with
    | zero =>
      intro x5_l3 x5_l4 H locs ls h
      exact no_e h
    | succ n ih5 =>
      intro x5_l3 x5_l4 H locs ls h hP hD hS hl
      rw [P_X11_valueOf_5] at h
      refine lv_iload hx hb dX11_valueOf_5 (lv_at hl 3 rfl) ?_
      refine lv_iload_n hx hb dX11_valueOf_7 rfl (lv_at hl 1 rfl) ?_
      refine lv_icmp_ge (tgt := 27) hx hb dX11_valueOf_8 (by decide) (fun c_8 => ?_) (fun c_8 => ?_)
      · replace h := it_e c_8 h
        exact Jk27 x5_l3 H locs ls h hP hD hS (lv_sub hl [0, 1, 2] rfl)
      · replace h := if_e c_8 h
        refine lv_iload_n hx hb dX11_valueOf_11 rfl (lv_at hl 2 rfl) ?_
        refine lv_aload_n hx hb dX11_valueOf_12 rfl (lv_at hl 0 rfl) ?_
        refine va_get (D := D) (ci := 10) (v := .ref a_values) (C := RX11) (T := TX11) (N := 25) hx hb hts u_X11 hown hK hP 0 rfl rfl 5 (by decide) k_f0 (fun _ h9 => h9) rfl dX11_valueOf_13 ?_
        refine lv_iload hx hb dX11_valueOf_16 (lv_at hl 3 rfl) ?_
        obtain ⟨hi_18, h⟩ := ck_e h
        refine va_iald hx hb hK hP 1 0 rfl rfl hi_18 dX11_valueOf_18 ?_
        obtain ⟨hz_19, h⟩ := dz_e h
        refine lv_idiv hx hb dX11_valueOf_19 hz_19 ?_
        refine lv_istore_n (lv' := [(3, .int (x5_l3 / (f_values x5_l4.toNatClampNeg))), (0, .ref a_o), (2, .int p2), (4, .int x5_l4)]) hx hb dX11_valueOf_20 rfl hl (by decide) rfl (fun ls hl => ?_)
        refine lv_iinc (v := x5_l4 + 1) (lv' := [(4, .int (x5_l4 + 1)), (3, .int (x5_l3 / (f_values x5_l4.toNatClampNeg))), (0, .ref a_o), (2, .int p2)]) hx hb dX11_valueOf_21 hl (k := 3) rfl (congrArg (x5_l4 + ·) ic_1) (by decide) rfl (fun ls hl => ?_)
        refine lv_goto (tgt := 5) hx hb dX11_valueOf_24 (by decide) ?_
        exact ih5 (x5_l3 / (f_values x5_l4.toNatClampNeg)) (x5_l4 + 1) H locs ls h hP hD hS (lv_sub hl [2, 3, 1, 0] rfl)
  exact L5 QF p1 0 H locs ls h hP hD hS (lv_sub hl [2, 4, 1, 0] rfl)
abbrev rmX11_worldsOf : Room := { frames := 1, cells := 0, slots := 0, locals := 24 }
theorem hdX11_worldsOf : yX11_worldsOf.cls = RX11 ∧ yX11_worldsOf.cls ≠ "java/lang/invoke/MethodHandle" ∧ yX11_worldsOf.cls ≠ "java/lang/invoke/VarHandle" ∧ (parseMethodDescriptor yX11_worldsOf.desc).map (fun d => d.parameters.length) = some 2 := by decide +kernel
set_option maxRecDepth 100000 in
set_option maxHeartbeats 4000000 in
theorem c_X11_worldsOf (l : Launch) (D : va_G) (cI cB cZ : ClassId) (a_o : Nat) (o_trace : Int64) (w_o_text : Value) (o_typed : Int32) (o_choices : Int32) (o_worlds : Int32) (o_at : Int32) (o_start : Int32) (o_sort : Int32) (o_value : Int32) (o_fault : Int32) (w_o_draft : Value) (w_o_sayings : Value) (w_o_leaves : Value) (w_o_signs : Value) (w_o_words : Value) (w_o_word : Value) (w_o_isKept : Value) (w_o_some : Value) (w_o_every : Value) (o_deep : Int32) (o_many : Int32) (w_o_length : Value) (w_o_found : Value) (o_foundMany : Int32) (a_values : Nat) (f_values : Nat → Int32) (p1 : Int32) (p2 : Int32) (z : Int32) (h : P_X11_worldsOf p1 p2 o_worlds f_values = some z) : KI l yX11_worldsOf wsX11_worldsOf rmX11_worldsOf D [(cI, .int), (cB, .byte), (cZ, .boolean)] [.ref a_o, .int p1, .int p2] [(a_o, .inr (10, [.long o_trace, w_o_text, .int o_typed, .int o_choices, .int o_worlds, .ref a_values, .int o_at, .int o_start, .int o_sort, .int o_value, .int o_fault, w_o_draft, w_o_sayings, w_o_leaves, w_o_signs, w_o_words, w_o_word, w_o_isKept, w_o_some, w_o_every, .int o_deep, .int o_many, w_o_length, w_o_found, .int o_foundMany])), (a_values, .inl (cI, 3, .inl f_values))] [(a_o, .inr (10, [.long o_trace, w_o_text, .int o_typed, .int o_choices, .int o_worlds, .ref a_values, .int o_at, .int o_start, .int o_sort, .int o_value, .int o_fault, w_o_draft, w_o_sayings, w_o_leaves, w_o_signs, w_o_words, w_o_word, w_o_isKept, w_o_some, w_o_every, .int o_deep, .int o_many, w_o_length, w_o_found, .int o_foundMany])), (a_values, .inl (cI, 3, .inl f_values))] z := by
  refine KI_of (own := RX11) (cc := cX11_worldsOf) (maxL := 5) (ret := some .int) (by decide) rfl rfl (Nat.le_of_ble_eq_true rfl) (Or.inl rfl) ?_
  intro p e s m args below meth c A Q hx hb hml hown hts hA hZ hK hret H locs ls hP hD hS hl
  have hl : lv_has ls 5 [(0, .ref a_o), (1, .int p1), (2, .int p2)] := hl
  have hF : CallFix p m c cX11_worldsOf 5 s args wsX11_worldsOf RX11 := ⟨hx, hb, hml, hown, hts⟩
  have u_X11 : ∀ w ∈ u_ws RX11 TX11 25, w ∈ wsX11_worldsOf := by decide +kernel
  have k_f0 := hts (.fieldLink RX11 51 "NoWordNoModel" "worlds" "I") (by decide +kernel)
  unfold P_X11_worldsOf at h
  refine lv_iconst (v := 0) hx hb dX11_worldsOf_0 ic_0 ?_
  refine lv_istore_n (lv' := [(3, .int 0), (0, .ref a_o), (1, .int p1), (2, .int p2)]) hx hb dX11_worldsOf_1 rfl hl (by decide) rfl (fun ls hl => ?_)
  refine lv_iconst (v := 0) hx hb dX11_worldsOf_2 ic_0 ?_
  refine lv_istore (lv' := [(4, .int 0), (3, .int 0), (0, .ref a_o), (1, .int p1), (2, .int p2)]) hx hb dX11_worldsOf_3 hl (by decide) rfl (fun ls hl => ?_)
  have L5 : ∀ (n : Nat), ∀ (x5_l3 : Int32) (x5_l4 : Int32) (H : Heap) (locs : List Loc) (ls : Array Slot), P_X11_worldsOf_5 p1 p2 o_worlds f_values n x5_l3 x5_l4 = some z → va_P D vwCl [(a_o, .inr (10, [.long o_trace, w_o_text, .int o_typed, .int o_choices, .int o_worlds, .ref a_values, .int o_at, .int o_start, .int o_sort, .int o_value, .int o_fault, w_o_draft, w_o_sayings, w_o_leaves, w_o_signs, w_o_words, w_o_word, w_o_isKept, w_o_some, w_o_every, .int o_deep, .int o_many, w_o_length, w_o_found, .int o_foundMany])), (a_values, .inl (cI, 3, .inl f_values))] H → va_D A [(a_o, .inr (10, [.long o_trace, w_o_text, .int o_typed, .int o_choices, .int o_worlds, .ref a_values, .int o_at, .int o_start, .int o_sort, .int o_value, .int o_fault, w_o_draft, w_o_sayings, w_o_leaves, w_o_signs, w_o_words, w_o_word, w_o_isKept, w_o_some, w_o_every, .int o_deep, .int o_many, w_o_length, w_o_found, .int o_foundMany])), (a_values, .inl (cI, 3, .inl f_values))] → va_S A s.heap H locs → lv_has ls 5 [(0, .ref a_o), (1, .int p1), (2, .int p2), (3, .int x5_l3), (4, .int x5_l4)] → W p l e rmX11_worldsOf s m args below meth c H locs 0 0 Q (F0 m 5 ls []) := by
    intro n
    induction n with
    | zero =>
      intro x5_l3 x5_l4 H locs ls h
      exact no_e h
    | succ n ih5 =>
      intro x5_l3 x5_l4 H locs ls h hP hD hS hl
      rw [P_X11_worldsOf_5] at h
      refine lv_iload hx hb dX11_worldsOf_5 (lv_at hl 4 rfl) ?_
      refine lv_aload_n hx hb dX11_worldsOf_7 rfl (lv_at hl 0 rfl) ?_
      refine va_get (D := D) (ci := 10) (v := .int o_worlds) (C := RX11) (T := TX11) (N := 25) hx hb hts u_X11 hown hK hP 0 rfl rfl 4 (by decide) k_f0 (fun _ h9 => h9) rfl dX11_worldsOf_8 ?_
      refine lv_icmp_ge (tgt := 42) hx hb dX11_worldsOf_11 (by decide) (fun c_11 => ?_) (fun c_11 => ?_)
      · replace h := it_e c_11 h
        refine lv_iload_n hx hb dX11_worldsOf_42 rfl (lv_at hl 3 rfl) ?_
        have hz := Option.some.inj h
        subst hz
        exact hret H locs 43 ls (fun ty h => by cases h; rfl) hP hD hS dX11_worldsOf_43
      · replace h := if_e c_11 h
        refine lv_iload_n hx hb dX11_worldsOf_14 rfl (lv_at hl 3 rfl) ?_
        refine lv_aload_n hx hb dX11_worldsOf_15 rfl (lv_at hl 0 rfl) ?_
        refine lv_iload hx hb dX11_worldsOf_16 (lv_at hl 4 rfl) ?_
        refine lv_iload_n hx hb dX11_worldsOf_18 rfl (lv_at hl 1 rfl) ?_
        obtain ⟨z_19, hc_19, h⟩ := bd_e h
        refine q_iV (As := [.int x5_l4, .int p1]) (rest := [.int x5_l3]) (wF := [(a_o, .inr (10, [.long o_trace, w_o_text, .int o_typed, .int o_choices, .int o_worlds, .ref a_values, .int o_at, .int o_start, .int o_sort, .int o_value, .int o_fault, w_o_draft, w_o_sayings, w_o_leaves, w_o_signs, w_o_words, w_o_word, w_o_isKept, w_o_some, w_o_every, .int o_deep, .int o_many, w_o_length, w_o_found, .int o_foundMany])), (a_values, .inl (cI, 3, .inl f_values))]) hF hA hZ hK hP hD hS (c_X11_valueOf l D cI cB cZ a_o o_trace w_o_text o_typed o_choices o_worlds o_at o_start o_sort o_value o_fault w_o_draft w_o_sayings w_o_leaves w_o_signs w_o_words w_o_word w_o_isKept w_o_some w_o_every o_deep o_many w_o_length w_o_found o_foundMany a_values f_values x5_l4 p1 z_19 hc_19) rfl gX11_worldsOf_X11_valueOf hdX11_valueOf ⟨rfl, rfl⟩ (Nat.le_of_ble_eq_true rfl) (Nat.le_of_ble_eq_true rfl) 10 0 rfl rfl [0, 1] [] rfl rfl rfl rfl (by decide) rfl hl.1 rfl (Nat.le_of_ble_eq_true rfl) (Nat.zero_le _) (Nat.zero_le _) dX11_worldsOf_19 (fun H locs hP hD hS => ?_)
        refine lv_iload_n hx hb dX11_worldsOf_22 rfl (lv_at hl 2 rfl) ?_
        obtain ⟨j34, hj34, h⟩ := jn_e h
        have Jj34 : ∀ (x34_s1 : Int32) (H : Heap) (locs : List Loc) (ls : Array Slot), j34 x34_s1 = some z → va_P D vwCl [(a_o, .inr (10, [.long o_trace, w_o_text, .int o_typed, .int o_choices, .int o_worlds, .ref a_values, .int o_at, .int o_start, .int o_sort, .int o_value, .int o_fault, w_o_draft, w_o_sayings, w_o_leaves, w_o_signs, w_o_words, w_o_word, w_o_isKept, w_o_some, w_o_every, .int o_deep, .int o_many, w_o_length, w_o_found, .int o_foundMany])), (a_values, .inl (cI, 3, .inl f_values))] H → va_D A [(a_o, .inr (10, [.long o_trace, w_o_text, .int o_typed, .int o_choices, .int o_worlds, .ref a_values, .int o_at, .int o_start, .int o_sort, .int o_value, .int o_fault, w_o_draft, w_o_sayings, w_o_leaves, w_o_signs, w_o_words, w_o_word, w_o_isKept, w_o_some, w_o_every, .int o_deep, .int o_many, w_o_length, w_o_found, .int o_foundMany])), (a_values, .inl (cI, 3, .inl f_values))] → va_S A s.heap H locs → lv_has ls 5 [(0, .ref a_o), (1, .int p1), (2, .int p2), (4, .int x5_l4)] → W p l e rmX11_worldsOf s m args below meth c H locs 0 0 Q (F0 m 34 ls [.int x34_s1, .int x5_l3]) := by
          intro x34_s1 H locs ls h hP hD hS hl
          rw [hj34] at h
          refine lv_ior hx hb dX11_worldsOf_34 ?_
          refine lv_istore_n (lv' := [(3, .int (x5_l3 ||| x34_s1)), (0, .ref a_o), (1, .int p1), (2, .int p2), (4, .int x5_l4)]) hx hb dX11_worldsOf_35 rfl hl (by decide) rfl (fun ls hl => ?_)
          refine lv_iinc (v := x5_l4 + 1) (lv' := [(4, .int (x5_l4 + 1)), (3, .int (x5_l3 ||| x34_s1)), (0, .ref a_o), (1, .int p1), (2, .int p2)]) hx hb dX11_worldsOf_36 hl (k := 4) rfl (congrArg (x5_l4 + ·) ic_1) (by decide) rfl (fun ls hl => ?_)
          refine lv_goto (tgt := 5) hx hb dX11_worldsOf_39 (by decide) ?_
          exact ih5 (x5_l3 ||| x34_s1) (x5_l4 + 1) H locs ls h hP hD hS (lv_sub hl [2, 3, 4, 1, 0] rfl)
        refine lv_icmp_ne (tgt := 33) hx hb dX11_worldsOf_23 (by decide) (fun c_23 => ?_) (fun c_23 => ?_)
        · replace h := if_e c_23 h
          refine lv_iconst (v := 0) hx hb dX11_worldsOf_33 ic_0 ?_
          exact Jj34 0 H locs ls h hP hD hS (lv_sub hl [0, 1, 2, 4] rfl)
        · replace h := it_e c_23 h
          refine lv_iconst (v := 1) hx hb dX11_worldsOf_26 ic_1 ?_
          refine lv_iload hx hb dX11_worldsOf_27 (lv_at hl 4 rfl) ?_
          refine lv_ishl hx hb dX11_worldsOf_29 ?_
          refine lv_goto (tgt := 34) hx hb dX11_worldsOf_30 (by decide) ?_
          exact Jj34 (1 <<< (x5_l4 &&& 31)) H locs ls h hP hD hS (lv_sub hl [0, 1, 2, 4] rfl)
  exact L5 QF 0 0 H locs ls h hP hD hS (lv_sub hl [2, 3, 4, 1, 0] rfl)
abbrev rmX11_value : Room := { frames := 1, cells := 0, slots := 0, locals := 24 }
theorem hdX11_value : yX11_value.cls = RX11 ∧ yX11_value.cls ≠ "java/lang/invoke/MethodHandle" ∧ yX11_value.cls ≠ "java/lang/invoke/VarHandle" ∧ (parseMethodDescriptor yX11_value.desc).map (fun d => d.parameters.length) = some 2 := by decide +kernel
set_option maxRecDepth 100000 in
set_option maxHeartbeats 4000000 in
theorem c_X11_value (l : Launch) (D : va_G) (cI cB cZ : ClassId) (a_o : Nat) (o_trace : Int64) (w_o_text : Value) (o_typed : Int32) (o_choices : Int32) (o_worlds : Int32) (o_at : Int32) (o_start : Int32) (o_sort : Int32) (o_value : Int32) (o_fault : Int32) (w_o_draft : Value) (w_o_sayings : Value) (w_o_leaves : Value) (w_o_signs : Value) (w_o_words : Value) (w_o_word : Value) (w_o_isKept : Value) (w_o_some : Value) (w_o_every : Value) (o_deep : Int32) (o_many : Int32) (w_o_length : Value) (w_o_found : Value) (o_foundMany : Int32) (a_values : Nat) (f_values : Nat → Int32) (p1 : Int32) (p2 : Int32) (z : Int32) (h : P_X11_value p1 p2 o_choices o_worlds f_values = some z) : KI l yX11_value wsX11_value rmX11_value D [(cI, .int), (cB, .byte), (cZ, .boolean)] [.ref a_o, .int p1, .int p2] [(a_o, .inr (10, [.long o_trace, w_o_text, .int o_typed, .int o_choices, .int o_worlds, .ref a_values, .int o_at, .int o_start, .int o_sort, .int o_value, .int o_fault, w_o_draft, w_o_sayings, w_o_leaves, w_o_signs, w_o_words, w_o_word, w_o_isKept, w_o_some, w_o_every, .int o_deep, .int o_many, w_o_length, w_o_found, .int o_foundMany])), (a_values, .inl (cI, 3, .inl f_values))] [(a_o, .inr (10, [.long o_trace, w_o_text, .int o_typed, .int o_choices, .int o_worlds, .ref a_values, .int o_at, .int o_start, .int o_sort, .int o_value, .int o_fault, w_o_draft, w_o_sayings, w_o_leaves, w_o_signs, w_o_words, w_o_word, w_o_isKept, w_o_some, w_o_every, .int o_deep, .int o_many, w_o_length, w_o_found, .int o_foundMany])), (a_values, .inl (cI, 3, .inl f_values))] z := by
  refine KI_of (own := RX11) (cc := cX11_value) (maxL := 3) (ret := some .int) (by decide) rfl rfl (Nat.le_of_ble_eq_true rfl) (Or.inl rfl) ?_
  intro p e s m args below meth c A Q hx hb hml hown hts hA hZ hK hret H locs ls hP hD hS hl
  have hl : lv_has ls 3 [(0, .ref a_o), (1, .int p1), (2, .int p2)] := hl
  have hF : CallFix p m c cX11_value 3 s args wsX11_value RX11 := ⟨hx, hb, hml, hown, hts⟩
  have u_X11 : ∀ w ∈ u_ws RX11 TX11 25, w ∈ wsX11_value := by decide +kernel
  have k_f0 := hts (.fieldLink RX11 51 "NoWordNoModel" "worlds" "I") (by decide +kernel)
  have k_f1 := hts (.fieldLink RX11 95 "NoWordNoModel" "choices" "I") (by decide +kernel)
  unfold P_X11_value at h
  refine lv_iload_n hx hb dX11_value_0 rfl (lv_at hl 1 rfl) ?_
  refine lv_iconst (v := 0) hx hb dX11_value_1 ic_0 ?_
  refine lv_aload_n hx hb dX11_value_2 rfl (lv_at hl 0 rfl) ?_
  refine va_get (D := D) (ci := 10) (v := .int o_worlds) (C := RX11) (T := TX11) (N := 25) hx hb hts u_X11 hown hK hP 0 rfl rfl 4 (by decide) k_f0 (fun _ h9 => h9) rfl dX11_value_3 ?_
  refine lv_iconst (v := 1) hx hb dX11_value_6 ic_1 ?_
  refine lv_isub hx hb dX11_value_7 ?_
  obtain ⟨z_8, hc_8, h⟩ := bd_e h
  refine q_iS (As := [.int p1, .int 0, .int (o_worlds - 1)]) (rest := []) (wF := [(a_o, .inr (10, [.long o_trace, w_o_text, .int o_typed, .int o_choices, .int o_worlds, .ref a_values, .int o_at, .int o_start, .int o_sort, .int o_value, .int o_fault, w_o_draft, w_o_sayings, w_o_leaves, w_o_signs, w_o_words, w_o_word, w_o_isKept, w_o_some, w_o_every, .int o_deep, .int o_many, w_o_length, w_o_found, .int o_foundMany])), (a_values, .inl (cI, 3, .inl f_values))]) hF hA hZ hK hP hD hS (c_X11_in l D cI cB cZ p1 0 (o_worlds - 1) z_8 hc_8) rfl gX11_value_X11_in hdX11_in ⟨rfl, rfl⟩ (Nat.le_of_ble_eq_true rfl) (Nat.le_of_ble_eq_true rfl) [] [0, 1] rfl rfl rfl rfl (by decide) rfl hl.1 rfl (Nat.le_of_ble_eq_true rfl) (Nat.zero_le _) (Nat.zero_le _) dX11_value_8 (fun H locs hP hD hS => ?_)
  refine lv_if_eq (tgt := 37) hx hb dX11_value_11 (by decide) (fun c_11 => ?_) (fun c_11 => ?_)
  · replace h := it_e c_11 h
    refine lv_iconst (v := (-1)) hx hb dX11_value_37 ic_m1 ?_
    have hz := Option.some.inj h
    subst hz
    exact hret H locs 38 ls (fun ty h => by cases h; rfl) hP hD hS dX11_value_38
  · replace h := if_e c_11 h
    refine lv_iload_n hx hb dX11_value_14 rfl (lv_at hl 2 rfl) ?_
    refine lv_iconst (v := 0) hx hb dX11_value_15 ic_0 ?_
    refine lv_aload_n hx hb dX11_value_16 rfl (lv_at hl 0 rfl) ?_
    refine va_get (D := D) (ci := 10) (v := .int o_choices) (C := RX11) (T := TX11) (N := 25) hx hb hts u_X11 hown hK hP 0 rfl rfl 3 (by decide) k_f1 (fun _ h9 => h9) rfl dX11_value_17 ?_
    refine lv_iconst (v := 1) hx hb dX11_value_20 ic_1 ?_
    refine lv_isub hx hb dX11_value_21 ?_
    obtain ⟨z_22, hc_22, h⟩ := bd_e h
    refine q_iS (As := [.int p2, .int 0, .int (o_choices - 1)]) (rest := []) (wF := [(a_o, .inr (10, [.long o_trace, w_o_text, .int o_typed, .int o_choices, .int o_worlds, .ref a_values, .int o_at, .int o_start, .int o_sort, .int o_value, .int o_fault, w_o_draft, w_o_sayings, w_o_leaves, w_o_signs, w_o_words, w_o_word, w_o_isKept, w_o_some, w_o_every, .int o_deep, .int o_many, w_o_length, w_o_found, .int o_foundMany])), (a_values, .inl (cI, 3, .inl f_values))]) hF hA hZ hK hP hD hS (c_X11_in l D cI cB cZ p2 0 (o_choices - 1) z_22 hc_22) rfl gX11_value_X11_in hdX11_in ⟨rfl, rfl⟩ (Nat.le_of_ble_eq_true rfl) (Nat.le_of_ble_eq_true rfl) [] [0, 1] rfl rfl rfl rfl (by decide) rfl hl.1 rfl (Nat.le_of_ble_eq_true rfl) (Nat.zero_le _) (Nat.zero_le _) dX11_value_22 (fun H locs hP hD hS => ?_)
    refine lv_if_eq (tgt := 37) hx hb dX11_value_25 (by decide) (fun c_25 => ?_) (fun c_25 => ?_)
    · replace h := it_e c_25 h
      refine lv_iconst (v := (-1)) hx hb dX11_value_37 ic_m1 ?_
      have hz := Option.some.inj h
      subst hz
      exact hret H locs 38 ls (fun ty h => by cases h; rfl) hP hD hS dX11_value_38
    · replace h := if_e c_25 h
      refine lv_aload_n hx hb dX11_value_28 rfl (lv_at hl 0 rfl) ?_
      refine lv_iload_n hx hb dX11_value_29 rfl (lv_at hl 1 rfl) ?_
      refine lv_iload_n hx hb dX11_value_30 rfl (lv_at hl 2 rfl) ?_
      obtain ⟨z_31, hc_31, h⟩ := bd_e h
      refine q_iV (As := [.int p1, .int p2]) (rest := []) (wF := [(a_o, .inr (10, [.long o_trace, w_o_text, .int o_typed, .int o_choices, .int o_worlds, .ref a_values, .int o_at, .int o_start, .int o_sort, .int o_value, .int o_fault, w_o_draft, w_o_sayings, w_o_leaves, w_o_signs, w_o_words, w_o_word, w_o_isKept, w_o_some, w_o_every, .int o_deep, .int o_many, w_o_length, w_o_found, .int o_foundMany])), (a_values, .inl (cI, 3, .inl f_values))]) hF hA hZ hK hP hD hS (c_X11_valueOf l D cI cB cZ a_o o_trace w_o_text o_typed o_choices o_worlds o_at o_start o_sort o_value o_fault w_o_draft w_o_sayings w_o_leaves w_o_signs w_o_words w_o_word w_o_isKept w_o_some w_o_every o_deep o_many w_o_length w_o_found o_foundMany a_values f_values p1 p2 z_31 hc_31) rfl gX11_value_X11_valueOf hdX11_valueOf ⟨rfl, rfl⟩ (Nat.le_of_ble_eq_true rfl) (Nat.le_of_ble_eq_true rfl) 10 0 rfl rfl [0, 1] [] rfl rfl rfl rfl (by decide) rfl hl.1 rfl (Nat.le_of_ble_eq_true rfl) (Nat.zero_le _) (Nat.zero_le _) dX11_value_31 (fun H locs hP hD hS => ?_)
      refine lv_goto (tgt := 38) hx hb dX11_value_34 (by decide) ?_
      have hz := Option.some.inj h
      subst hz
      exact hret H locs 38 ls (fun ty h => by cases h; rfl) hP hD hS dX11_value_38
abbrev rmX11_open : Room := { frames := 1, cells := 0, slots := 0, locals := 20 }
theorem hdX11_open : yX11_open.cls = RX11 ∧ yX11_open.cls ≠ "java/lang/invoke/MethodHandle" ∧ yX11_open.cls ≠ "java/lang/invoke/VarHandle" ∧ (parseMethodDescriptor yX11_open.desc).map (fun d => d.parameters.length) = some 1 := by decide +kernel
set_option maxRecDepth 100000 in
set_option maxHeartbeats 4000000 in
theorem c_X11_open (l : Launch) (D : va_G) (cI cB cZ : ClassId) (a_o : Nat) (o_trace : Int64) (w_o_text : Value) (o_typed : Int32) (o_choices : Int32) (o_worlds : Int32) (w_o_values : Value) (o_at : Int32) (o_start : Int32) (o_sort : Int32) (o_value : Int32) (o_fault : Int32) (w_o_draft : Value) (w_o_sayings : Value) (w_o_leaves : Value) (w_o_signs : Value) (w_o_words : Value) (w_o_word : Value) (w_o_isKept : Value) (o_deep : Int32) (o_many : Int32) (w_o_length : Value) (w_o_found : Value) (o_foundMany : Int32) (a_some : Nat) (f_some : Nat → Int32) (a_every : Nat) (f_every : Nat → Int32) (p1 : Int32) (z : Int32 × (Nat → Int32) × (Nat → Int32)) (h : P_X11_open p1 o_worlds o_deep f_some f_every = some z) : KV l yX11_open wsX11_open rmX11_open D [(cI, .int), (cB, .byte), (cZ, .boolean)] [.ref a_o, .int p1] [(a_o, .inr (10, [.long o_trace, w_o_text, .int o_typed, .int o_choices, .int o_worlds, w_o_values, .int o_at, .int o_start, .int o_sort, .int o_value, .int o_fault, w_o_draft, w_o_sayings, w_o_leaves, w_o_signs, w_o_words, w_o_word, w_o_isKept, .ref a_some, .ref a_every, .int o_deep, .int o_many, w_o_length, w_o_found, .int o_foundMany])), (a_some, .inl (cI, 10, .inl f_some)), (a_every, .inl (cI, 10, .inl f_every))] [(a_o, .inr (10, [.long o_trace, w_o_text, .int o_typed, .int o_choices, .int o_worlds, w_o_values, .int o_at, .int o_start, .int o_sort, .int o_value, .int o_fault, w_o_draft, w_o_sayings, w_o_leaves, w_o_signs, w_o_words, w_o_word, w_o_isKept, .ref a_some, .ref a_every, .int z.1, .int o_many, w_o_length, w_o_found, .int o_foundMany])), (a_some, .inl (cI, 10, .inl z.2.1)), (a_every, .inl (cI, 10, .inl z.2.2))] := by
  refine KV_of (own := RX11) (cc := cX11_open) (maxL := 2) (by decide) rfl rfl (Nat.le_of_ble_eq_true rfl) ?_
  intro p e s m args below meth c A Q hx hb hml hown hts hA hZ hK hret H locs ls hP hD hS hl
  have hl : lv_has ls 2 [(0, .ref a_o), (1, .int p1)] := hl
  have hF : CallFix p m c cX11_open 2 s args wsX11_open RX11 := ⟨hx, hb, hml, hown, hts⟩
  have u_X11 : ∀ w ∈ u_ws RX11 TX11 25, w ∈ wsX11_open := by decide +kernel
  have k_f0 := hts (.fieldLink RX11 102 "NoWordNoModel" "deep" "I") (by decide +kernel)
  have k_f1 := hts (.fieldLink RX11 39 "NoWordNoModel" "some" "[I") (by decide +kernel)
  have k_f2 := hts (.fieldLink RX11 42 "NoWordNoModel" "every" "[I") (by decide +kernel)
  unfold P_X11_open at h
  refine lv_aload_n hx hb dX11_open_0 rfl (lv_at hl 0 rfl) ?_
  refine lv_iload_n hx hb dX11_open_1 rfl (lv_at hl 1 rfl) ?_
  refine va_put (D := D) (ci := 10) (v := .int p1) (ty := .int) (C := RX11) (T := TX11) (N := 25) hx hb hts u_X11 tyX11 tyX11_ok nmX11 hown hK hP hD hS 0 rfl rfl 20 (by decide) k_f0 (fun _ h9 => h9) rfl (tyX11_ok 20 (by decide)) rfl rfl (Nat.le_of_ble_eq_true rfl) dX11_open_2 (fun H locs hP hD hS => ?_)
  have hP : va_P D vwCl [(a_o, .inr (10, [.long o_trace, w_o_text, .int o_typed, .int o_choices, .int o_worlds, w_o_values, .int o_at, .int o_start, .int o_sort, .int o_value, .int o_fault, w_o_draft, w_o_sayings, w_o_leaves, w_o_signs, w_o_words, w_o_word, w_o_isKept, .ref a_some, .ref a_every, .int p1, .int o_many, w_o_length, w_o_found, .int o_foundMany])), (a_some, .inl (cI, 10, .inl f_some)), (a_every, .inl (cI, 10, .inl f_every))] H := hP
  have hD : va_D A [(a_o, .inr (10, [.long o_trace, w_o_text, .int o_typed, .int o_choices, .int o_worlds, w_o_values, .int o_at, .int o_start, .int o_sort, .int o_value, .int o_fault, w_o_draft, w_o_sayings, w_o_leaves, w_o_signs, w_o_words, w_o_word, w_o_isKept, .ref a_some, .ref a_every, .int p1, .int o_many, w_o_length, w_o_found, .int o_foundMany])), (a_some, .inl (cI, 10, .inl f_some)), (a_every, .inl (cI, 10, .inl f_every))] := hD
  refine lv_aload_n hx hb dX11_open_5 rfl (lv_at hl 0 rfl) ?_
  refine va_get (D := D) (ci := 10) (v := .ref a_some) (C := RX11) (T := TX11) (N := 25) hx hb hts u_X11 hown hK hP 0 rfl rfl 18 (by decide) k_f1 (fun _ h9 => h9) rfl dX11_open_6 ?_
  refine lv_iload_n hx hb dX11_open_9 rfl (lv_at hl 1 rfl) ?_
  refine lv_iconst (v := 0) hx hb dX11_open_10 ic_0 ?_
  obtain ⟨hi_11, h⟩ := ck_e h
  refine va_iast hx hb hK hP hD hS 1 0 rfl rfl hi_11 dX11_open_11 (fun H locs hP hD hS => ?_)
  have hP : va_P D vwCl [(a_o, .inr (10, [.long o_trace, w_o_text, .int o_typed, .int o_choices, .int o_worlds, w_o_values, .int o_at, .int o_start, .int o_sort, .int o_value, .int o_fault, w_o_draft, w_o_sayings, w_o_leaves, w_o_signs, w_o_words, w_o_word, w_o_isKept, .ref a_some, .ref a_every, .int p1, .int o_many, w_o_length, w_o_found, .int o_foundMany])), (a_some, .inl (cI, 10, .inl (upd f_some p1.toNatClampNeg 0))), (a_every, .inl (cI, 10, .inl f_every))] H := hP
  have hD : va_D A [(a_o, .inr (10, [.long o_trace, w_o_text, .int o_typed, .int o_choices, .int o_worlds, w_o_values, .int o_at, .int o_start, .int o_sort, .int o_value, .int o_fault, w_o_draft, w_o_sayings, w_o_leaves, w_o_signs, w_o_words, w_o_word, w_o_isKept, .ref a_some, .ref a_every, .int p1, .int o_many, w_o_length, w_o_found, .int o_foundMany])), (a_some, .inl (cI, 10, .inl (upd f_some p1.toNatClampNeg 0))), (a_every, .inl (cI, 10, .inl f_every))] := hD
  refine lv_aload_n hx hb dX11_open_12 rfl (lv_at hl 0 rfl) ?_
  refine va_get (D := D) (ci := 10) (v := .ref a_every) (C := RX11) (T := TX11) (N := 25) hx hb hts u_X11 hown hK hP 0 rfl rfl 19 (by decide) k_f2 (fun _ h9 => h9) rfl dX11_open_13 ?_
  refine lv_iload_n hx hb dX11_open_16 rfl (lv_at hl 1 rfl) ?_
  refine lv_aload_n hx hb dX11_open_17 rfl (lv_at hl 0 rfl) ?_
  obtain ⟨z_18, hc_18, h⟩ := bd_e h
  refine q_iV (As := []) (rest := [.int p1, .ref a_every]) (wF := [(a_some, .inl (cI, 10, .inl (upd f_some p1.toNatClampNeg 0))), (a_every, .inl (cI, 10, .inl f_every)), (a_o, .inr (10, [.long o_trace, w_o_text, .int o_typed, .int o_choices, .int o_worlds, w_o_values, .int o_at, .int o_start, .int o_sort, .int o_value, .int o_fault, w_o_draft, w_o_sayings, w_o_leaves, w_o_signs, w_o_words, w_o_word, w_o_isKept, .ref a_some, .ref a_every, .int p1, .int o_many, w_o_length, w_o_found, .int o_foundMany]))]) hF hA hZ hK hP hD hS (c_X11_allSets l D cI cB cZ a_o o_trace w_o_text o_typed o_choices o_worlds w_o_values o_at o_start o_sort o_value o_fault w_o_draft w_o_sayings w_o_leaves w_o_signs w_o_words w_o_word w_o_isKept (.ref a_some) (.ref a_every) p1 o_many w_o_length w_o_found o_foundMany z_18 hc_18) rfl gX11_open_X11_allSets hdX11_allSets ⟨rfl, rfl⟩ (Nat.le_of_ble_eq_true rfl) (Nat.le_of_ble_eq_true rfl) 10 0 rfl rfl [0] [1, 2] rfl rfl rfl rfl (by decide) rfl hl.1 rfl (Nat.le_of_ble_eq_true rfl) (Nat.zero_le _) (Nat.zero_le _) dX11_open_18 (fun H locs hP hD hS => ?_)
  obtain ⟨hi_21, h⟩ := ck_e h
  refine va_iast hx hb hK hP hD hS 1 0 rfl rfl hi_21 dX11_open_21 (fun H locs hP hD hS => ?_)
  have hP : va_P D vwCl [(a_some, .inl (cI, 10, .inl (upd f_some p1.toNatClampNeg 0))), (a_every, .inl (cI, 10, .inl (upd f_every p1.toNatClampNeg z_18))), (a_o, .inr (10, [.long o_trace, w_o_text, .int o_typed, .int o_choices, .int o_worlds, w_o_values, .int o_at, .int o_start, .int o_sort, .int o_value, .int o_fault, w_o_draft, w_o_sayings, w_o_leaves, w_o_signs, w_o_words, w_o_word, w_o_isKept, .ref a_some, .ref a_every, .int p1, .int o_many, w_o_length, w_o_found, .int o_foundMany]))] H := hP
  have hD : va_D A [(a_some, .inl (cI, 10, .inl (upd f_some p1.toNatClampNeg 0))), (a_every, .inl (cI, 10, .inl (upd f_every p1.toNatClampNeg z_18))), (a_o, .inr (10, [.long o_trace, w_o_text, .int o_typed, .int o_choices, .int o_worlds, w_o_values, .int o_at, .int o_start, .int o_sort, .int o_value, .int o_fault, w_o_draft, w_o_sayings, w_o_leaves, w_o_signs, w_o_words, w_o_word, w_o_isKept, .ref a_some, .ref a_every, .int p1, .int o_many, w_o_length, w_o_found, .int o_foundMany]))] := hD
  have hz := Option.some.inj h
  subst hz
  exact hret H locs 22 ls (hP.sub [2, 0, 1] rfl) (hD.sub [2, 0, 1] (by decide) rfl) hS dX11_open_22
abbrev rmX11_close : Room := { frames := 2, cells := 0, slots := 0, locals := 44 }
theorem hdX11_close : yX11_close.cls = RX11 ∧ yX11_close.cls ≠ "java/lang/invoke/MethodHandle" ∧ yX11_close.cls ≠ "java/lang/invoke/VarHandle" ∧ (parseMethodDescriptor yX11_close.desc).map (fun d => d.parameters.length) = some 0 := by decide +kernel
set_option maxRecDepth 100000 in
set_option maxHeartbeats 4000000 in
theorem c_X11_close (l : Launch) (D : va_G) (cI cB cZ : ClassId) (a_o : Nat) (o_trace : Int64) (o_typed : Int32) (o_choices : Int32) (o_worlds : Int32) (w_o_values : Value) (o_at : Int32) (o_start : Int32) (o_sort : Int32) (o_value : Int32) (o_fault : Int32) (w_o_draft : Value) (w_o_sayings : Value) (w_o_leaves : Value) (w_o_signs : Value) (w_o_words : Value) (w_o_word : Value) (w_o_isKept : Value) (o_deep : Int32) (o_many : Int32) (w_o_length : Value) (w_o_found : Value) (o_foundMany : Int32) (a_text : Nat) (f_text : Nat → Int32) (a_some : Nat) (f_some : Nat → Int32) (a_every : Nat) (f_every : Nat → Int32) (z : Int32 × Int32 × Int32 × Int32 × Int32 × (Nat → Int32)) (h : P_X11_close o_typed o_at o_start o_sort o_value o_fault o_deep f_text f_some f_every = some z) : KV l yX11_close wsX11_close rmX11_close D [(cI, .int), (cB, .byte), (cZ, .boolean)] [.ref a_o] [(a_o, .inr (10, [.long o_trace, .ref a_text, .int o_typed, .int o_choices, .int o_worlds, w_o_values, .int o_at, .int o_start, .int o_sort, .int o_value, .int o_fault, w_o_draft, w_o_sayings, w_o_leaves, w_o_signs, w_o_words, w_o_word, w_o_isKept, .ref a_some, .ref a_every, .int o_deep, .int o_many, w_o_length, w_o_found, .int o_foundMany])), (a_text, .inl (cB, 200, .inl f_text)), (a_some, .inl (cI, 10, .inl f_some)), (a_every, .inl (cI, 10, .inl f_every))] [(a_o, .inr (10, [.long o_trace, .ref a_text, .int o_typed, .int o_choices, .int o_worlds, w_o_values, .int z.1, .int z.2.1, .int z.2.2.1, .int z.2.2.2.1, .int o_fault, w_o_draft, w_o_sayings, w_o_leaves, w_o_signs, w_o_words, w_o_word, w_o_isKept, .ref a_some, .ref a_every, .int z.2.2.2.2.1, .int o_many, w_o_length, w_o_found, .int o_foundMany])), (a_text, .inl (cB, 200, .inl f_text)), (a_some, .inl (cI, 10, .inl f_some)), (a_every, .inl (cI, 10, .inl z.2.2.2.2.2))] := by
  refine KV_of (own := RX11) (cc := cX11_close) (maxL := 2) (by decide) rfl rfl (Nat.le_of_ble_eq_true rfl) ?_
  intro p e s m args below meth c A Q hx hb hml hown hts hA hZ hK hret H locs ls hP hD hS hl
  have hl : lv_has ls 2 [(0, .ref a_o)] := hl
  have hF : CallFix p m c cX11_close 2 s args wsX11_close RX11 := ⟨hx, hb, hml, hown, hts⟩
  have u_X11 : ∀ w ∈ u_ws RX11 TX11 25, w ∈ wsX11_close := by decide +kernel
  have k_f0 := hts (.fieldLink RX11 85 "NoWordNoModel" "fault" "I") (by decide +kernel)
  have k_f1 := hts (.fieldLink RX11 77 "NoWordNoModel" "sort" "I") (by decide +kernel)
  have k_f2 := hts (.fieldLink RX11 102 "NoWordNoModel" "deep" "I") (by decide +kernel)
  have k_f3 := hts (.fieldLink RX11 39 "NoWordNoModel" "some" "[I") (by decide +kernel)
  have k_f4 := hts (.fieldLink RX11 42 "NoWordNoModel" "every" "[I") (by decide +kernel)
  unfold P_X11_close at h
  have L0 : ∀ (n : Nat), ∀ (x0_o_at : Int32) (x0_o_start : Int32) (x0_o_sort : Int32) (x0_o_value : Int32) (x0_o_deep : Int32) (x0_f_every : (Nat → Int32)) (H : Heap) (locs : List Loc) (ls : Array Slot), P_X11_close_0 o_typed o_fault f_text f_some n x0_o_at x0_o_start x0_o_sort x0_o_value x0_o_deep x0_f_every = some z → va_P D vwCl [(a_o, .inr (10, [.long o_trace, .ref a_text, .int o_typed, .int o_choices, .int o_worlds, w_o_values, .int x0_o_at, .int x0_o_start, .int x0_o_sort, .int x0_o_value, .int o_fault, w_o_draft, w_o_sayings, w_o_leaves, w_o_signs, w_o_words, w_o_word, w_o_isKept, .ref a_some, .ref a_every, .int x0_o_deep, .int o_many, w_o_length, w_o_found, .int o_foundMany])), (a_text, .inl (cB, 200, .inl f_text)), (a_some, .inl (cI, 10, .inl f_some)), (a_every, .inl (cI, 10, .inl x0_f_every))] H → va_D A [(a_o, .inr (10, [.long o_trace, .ref a_text, .int o_typed, .int o_choices, .int o_worlds, w_o_values, .int x0_o_at, .int x0_o_start, .int x0_o_sort, .int x0_o_value, .int o_fault, w_o_draft, w_o_sayings, w_o_leaves, w_o_signs, w_o_words, w_o_word, w_o_isKept, .ref a_some, .ref a_every, .int x0_o_deep, .int o_many, w_o_length, w_o_found, .int o_foundMany])), (a_text, .inl (cB, 200, .inl f_text)), (a_some, .inl (cI, 10, .inl f_some)), (a_every, .inl (cI, 10, .inl x0_f_every))] → va_S A s.heap H locs → lv_has ls 2 [(0, .ref a_o)] → W p l e rmX11_close s m args below meth c H locs 0 0 Q (F0 m 0 ls []) := by
    intro n
    induction n with
    | zero =>
      intro x0_o_at x0_o_start x0_o_sort x0_o_value x0_o_deep x0_f_every H locs ls h
      exact no_e h
    | succ n ih0 =>
      intro x0_o_at x0_o_start x0_o_sort x0_o_value x0_o_deep x0_f_every H locs ls h hP hD hS hl
      rw [P_X11_close_0] at h
      refine lv_aload_n hx hb dX11_close_0 rfl (lv_at hl 0 rfl) ?_
      refine va_get (D := D) (ci := 10) (v := .int o_fault) (C := RX11) (T := TX11) (N := 25) hx hb hts u_X11 hown hK hP 0 rfl rfl 10 (by decide) k_f0 (fun _ h9 => h9) rfl dX11_close_1 ?_
      refine lv_bipush (v := (-9)) hx hb dX11_close_4 bc_m9 ?_
      refine lv_icmp_ne (tgt := 75) hx hb dX11_close_6 (by decide) (fun c_6 => ?_) (fun c_6 => ?_)
      · replace h := if_e c_6 h
        have hz := Option.some.inj h
        subst hz
        exact hret H locs 75 ls hP hD hS dX11_close_75
      · replace h := it_e c_6 h
        refine lv_aload_n hx hb dX11_close_9 rfl (lv_at hl 0 rfl) ?_
        refine va_get (D := D) (ci := 10) (v := .int x0_o_sort) (C := RX11) (T := TX11) (N := 25) hx hb hts u_X11 hown hK hP 0 rfl rfl 8 (by decide) k_f1 (fun _ h9 => h9) rfl dX11_close_10 ?_
        refine lv_bipush (v := 8) hx hb dX11_close_13 bc_8 ?_
        refine lv_icmp_ne (tgt := 75) hx hb dX11_close_15 (by decide) (fun c_15 => ?_) (fun c_15 => ?_)
        · replace h := if_e c_15 h
          have hz := Option.some.inj h
          subst hz
          exact hret H locs 75 ls hP hD hS dX11_close_75
        · replace h := it_e c_15 h
          refine lv_aload_n hx hb dX11_close_18 rfl (lv_at hl 0 rfl) ?_
          refine va_get (D := D) (ci := 10) (v := .int x0_o_deep) (C := RX11) (T := TX11) (N := 25) hx hb hts u_X11 hown hK hP 0 rfl rfl 20 (by decide) k_f2 (fun _ h9 => h9) rfl dX11_close_19 ?_
          refine lv_if_le (tgt := 75) hx hb dX11_close_22 (by decide) (fun c_22 => ?_) (fun c_22 => ?_)
          · replace h := it_e c_22 h
            have hz := Option.some.inj h
            subst hz
            exact hret H locs 75 ls hP hD hS dX11_close_75
          · replace h := if_e c_22 h
            refine lv_aload_n hx hb dX11_close_25 rfl (lv_at hl 0 rfl) ?_
            refine va_get (D := D) (ci := 10) (v := .ref a_some) (C := RX11) (T := TX11) (N := 25) hx hb hts u_X11 hown hK hP 0 rfl rfl 18 (by decide) k_f3 (fun _ h9 => h9) rfl dX11_close_26 ?_
            refine lv_aload_n hx hb dX11_close_29 rfl (lv_at hl 0 rfl) ?_
            refine va_get (D := D) (ci := 10) (v := .int x0_o_deep) (C := RX11) (T := TX11) (N := 25) hx hb hts u_X11 hown hK hP 0 rfl rfl 20 (by decide) k_f2 (fun _ h9 => h9) rfl dX11_close_30 ?_
            obtain ⟨hi_33, h⟩ := ck_e h
            refine va_iald hx hb hK hP 2 0 rfl rfl hi_33 dX11_close_33 ?_
            refine lv_aload_n hx hb dX11_close_34 rfl (lv_at hl 0 rfl) ?_
            refine va_get (D := D) (ci := 10) (v := .ref a_every) (C := RX11) (T := TX11) (N := 25) hx hb hts u_X11 hown hK hP 0 rfl rfl 19 (by decide) k_f4 (fun _ h9 => h9) rfl dX11_close_35 ?_
            refine lv_aload_n hx hb dX11_close_38 rfl (lv_at hl 0 rfl) ?_
            refine va_get (D := D) (ci := 10) (v := .int x0_o_deep) (C := RX11) (T := TX11) (N := 25) hx hb hts u_X11 hown hK hP 0 rfl rfl 20 (by decide) k_f2 (fun _ h9 => h9) rfl dX11_close_39 ?_
            obtain ⟨hi_42, h⟩ := ck_e h
            refine va_iald hx hb hK hP 3 0 rfl rfl hi_42 dX11_close_42 ?_
            refine lv_ior hx hb dX11_close_43 ?_
            refine lv_istore_n (lv' := [(1, .int ((f_some x0_o_deep.toNatClampNeg) ||| (x0_f_every x0_o_deep.toNatClampNeg))), (0, .ref a_o)]) hx hb dX11_close_44 rfl hl (by decide) rfl (fun ls hl => ?_)
            refine lv_aload_n hx hb dX11_close_45 rfl (lv_at hl 1 rfl) ?_
            refine lv_dup hx hb dX11_close_46 rfl ?_
            refine va_get (D := D) (ci := 10) (v := .int x0_o_deep) (C := RX11) (T := TX11) (N := 25) hx hb hts u_X11 hown hK hP 0 rfl rfl 20 (by decide) k_f2 (fun _ h9 => h9) rfl dX11_close_47 ?_
            refine lv_iconst (v := 1) hx hb dX11_close_50 ic_1 ?_
            refine lv_isub hx hb dX11_close_51 ?_
            refine va_put (D := D) (ci := 10) (v := .int (x0_o_deep - 1)) (ty := .int) (C := RX11) (T := TX11) (N := 25) hx hb hts u_X11 tyX11 tyX11_ok nmX11 hown hK hP hD hS 0 rfl rfl 20 (by decide) k_f2 (fun _ h9 => h9) rfl (tyX11_ok 20 (by decide)) rfl rfl (Nat.le_of_ble_eq_true rfl) dX11_close_52 (fun H locs hP hD hS => ?_)
            have hP : va_P D vwCl [(a_o, .inr (10, [.long o_trace, .ref a_text, .int o_typed, .int o_choices, .int o_worlds, w_o_values, .int x0_o_at, .int x0_o_start, .int x0_o_sort, .int x0_o_value, .int o_fault, w_o_draft, w_o_sayings, w_o_leaves, w_o_signs, w_o_words, w_o_word, w_o_isKept, .ref a_some, .ref a_every, .int (x0_o_deep - 1), .int o_many, w_o_length, w_o_found, .int o_foundMany])), (a_text, .inl (cB, 200, .inl f_text)), (a_some, .inl (cI, 10, .inl f_some)), (a_every, .inl (cI, 10, .inl x0_f_every))] H := hP
            have hD : va_D A [(a_o, .inr (10, [.long o_trace, .ref a_text, .int o_typed, .int o_choices, .int o_worlds, w_o_values, .int x0_o_at, .int x0_o_start, .int x0_o_sort, .int x0_o_value, .int o_fault, w_o_draft, w_o_sayings, w_o_leaves, w_o_signs, w_o_words, w_o_word, w_o_isKept, .ref a_some, .ref a_every, .int (x0_o_deep - 1), .int o_many, w_o_length, w_o_found, .int o_foundMany])), (a_text, .inl (cB, 200, .inl f_text)), (a_some, .inl (cI, 10, .inl f_some)), (a_every, .inl (cI, 10, .inl x0_f_every))] := hD
            refine lv_aload_n hx hb dX11_close_55 rfl (lv_at hl 1 rfl) ?_
            refine va_get (D := D) (ci := 10) (v := .ref a_every) (C := RX11) (T := TX11) (N := 25) hx hb hts u_X11 hown hK hP 0 rfl rfl 19 (by decide) k_f4 (fun _ h9 => h9) rfl dX11_close_56 ?_
            refine lv_aload_n hx hb dX11_close_59 rfl (lv_at hl 1 rfl) ?_
            refine va_get (D := D) (ci := 10) (v := .int (x0_o_deep - 1)) (C := RX11) (T := TX11) (N := 25) hx hb hts u_X11 hown hK hP 0 rfl rfl 20 (by decide) k_f2 (fun _ h9 => h9) rfl dX11_close_60 ?_
            refine lv_dup2_11 hx hb dX11_close_63 rfl rfl ?_
            obtain ⟨hi_64, h⟩ := ck_e h
            refine va_iald hx hb hK hP 3 0 rfl rfl hi_64 dX11_close_64 ?_
            refine lv_iload_n hx hb dX11_close_65 rfl (lv_at hl 0 rfl) ?_
            refine lv_iand hx hb dX11_close_66 ?_
            obtain ⟨hi_67, h⟩ := ck_e h
            refine va_iast hx hb hK hP hD hS 3 0 rfl rfl hi_67 dX11_close_67 (fun H locs hP hD hS => ?_)
            have hP : va_P D vwCl [(a_o, .inr (10, [.long o_trace, .ref a_text, .int o_typed, .int o_choices, .int o_worlds, w_o_values, .int x0_o_at, .int x0_o_start, .int x0_o_sort, .int x0_o_value, .int o_fault, w_o_draft, w_o_sayings, w_o_leaves, w_o_signs, w_o_words, w_o_word, w_o_isKept, .ref a_some, .ref a_every, .int (x0_o_deep - 1), .int o_many, w_o_length, w_o_found, .int o_foundMany])), (a_text, .inl (cB, 200, .inl f_text)), (a_some, .inl (cI, 10, .inl f_some)), (a_every, .inl (cI, 10, .inl (upd x0_f_every (x0_o_deep - 1).toNatClampNeg ((x0_f_every (x0_o_deep - 1).toNatClampNeg) &&& ((f_some x0_o_deep.toNatClampNeg) ||| (x0_f_every x0_o_deep.toNatClampNeg))))))] H := hP
            have hD : va_D A [(a_o, .inr (10, [.long o_trace, .ref a_text, .int o_typed, .int o_choices, .int o_worlds, w_o_values, .int x0_o_at, .int x0_o_start, .int x0_o_sort, .int x0_o_value, .int o_fault, w_o_draft, w_o_sayings, w_o_leaves, w_o_signs, w_o_words, w_o_word, w_o_isKept, .ref a_some, .ref a_every, .int (x0_o_deep - 1), .int o_many, w_o_length, w_o_found, .int o_foundMany])), (a_text, .inl (cB, 200, .inl f_text)), (a_some, .inl (cI, 10, .inl f_some)), (a_every, .inl (cI, 10, .inl (upd x0_f_every (x0_o_deep - 1).toNatClampNeg ((x0_f_every (x0_o_deep - 1).toNatClampNeg) &&& ((f_some x0_o_deep.toNatClampNeg) ||| (x0_f_every x0_o_deep.toNatClampNeg))))))] := hD
            refine lv_aload_n hx hb dX11_close_68 rfl (lv_at hl 1 rfl) ?_
            obtain ⟨z_69, hc_69, h⟩ := bd_e h
            refine q_vV (As := []) (rest := []) (wF := [(a_some, .inl (cI, 10, .inl f_some)), (a_every, .inl (cI, 10, .inl (upd x0_f_every (x0_o_deep - 1).toNatClampNeg ((x0_f_every (x0_o_deep - 1).toNatClampNeg) &&& ((f_some x0_o_deep.toNatClampNeg) ||| (x0_f_every x0_o_deep.toNatClampNeg)))))), (a_o, .inr (10, [.long o_trace, .ref a_text, .int o_typed, .int o_choices, .int o_worlds, w_o_values, .int z_69.1, .int z_69.2.1, .int z_69.2.2.1, .int z_69.2.2.2, .int o_fault, w_o_draft, w_o_sayings, w_o_leaves, w_o_signs, w_o_words, w_o_word, w_o_isKept, .ref a_some, .ref a_every, .int (x0_o_deep - 1), .int o_many, w_o_length, w_o_found, .int o_foundMany])), (a_text, .inl (cB, 200, .inl f_text))]) hF hA hZ hK hP hD hS (c_X11_next l D cI cB cZ a_o o_trace o_typed o_choices o_worlds w_o_values x0_o_at x0_o_start x0_o_sort x0_o_value o_fault w_o_draft w_o_sayings w_o_leaves w_o_signs w_o_words w_o_word w_o_isKept (.ref a_some) (.ref a_every) (x0_o_deep - 1) o_many w_o_length w_o_found o_foundMany a_text f_text z_69 hc_69) rfl gX11_close_X11_next hdX11_next ⟨rfl, rfl⟩ (Nat.le_of_ble_eq_true rfl) (Nat.le_of_ble_eq_true rfl) 10 0 rfl rfl [0, 1] [2, 3] rfl rfl rfl rfl (by decide) rfl hl.1 rfl (Nat.le_of_ble_eq_true rfl) (Nat.zero_le _) (Nat.zero_le _) dX11_close_69 (fun H locs hP hD hS => ?_)
            refine lv_goto (tgt := 0) hx hb dX11_close_72 (by decide) ?_
            exact ih0 z_69.1 z_69.2.1 z_69.2.2.1 z_69.2.2.2 (x0_o_deep - 1) (upd x0_f_every (x0_o_deep - 1).toNatClampNeg ((x0_f_every (x0_o_deep - 1).toNatClampNeg) &&& ((f_some x0_o_deep.toNatClampNeg) ||| (x0_f_every x0_o_deep.toNatClampNeg)))) H locs ls h (hP.sub [2, 3, 0, 1] rfl) (hD.sub [2, 3, 0, 1] (by decide) rfl) hS (lv_sub hl [1] rfl)
  exact L0 QF o_at o_start o_sort o_value o_deep f_every H locs ls h hP hD hS hl
abbrev rmX11_readFactor : Room := { frames := 3, cells := 0, slots := 0, locals := 66 }
theorem hdX11_readFactor : yX11_readFactor.cls = RX11 ∧ yX11_readFactor.cls ≠ "java/lang/invoke/MethodHandle" ∧ yX11_readFactor.cls ≠ "java/lang/invoke/VarHandle" ∧ (parseMethodDescriptor yX11_readFactor.desc).map (fun d => d.parameters.length) = some 0 := by decide +kernel
set_option maxRecDepth 100000 in
set_option maxHeartbeats 4000000 in
theorem c_X11_readFactor (l : Launch) (D : va_G) (cI cB cZ : ClassId) (a_o : Nat) (o_trace : Int64) (o_typed : Int32) (o_choices : Int32) (o_worlds : Int32) (o_at : Int32) (o_start : Int32) (o_sort : Int32) (o_value : Int32) (o_fault : Int32) (w_o_draft : Value) (w_o_sayings : Value) (w_o_leaves : Value) (w_o_signs : Value) (w_o_isKept : Value) (o_deep : Int32) (o_many : Int32) (w_o_length : Value) (w_o_found : Value) (o_foundMany : Int32) (a_text : Nat) (f_text : Nat → Int32) (a_values : Nat) (f_values : Nat → Int32) (a_words : Nat) (f_words : Nat → Int32) (a_word : Nat) (f_word : Nat → Int32) (a_some : Nat) (f_some : Nat → Int32) (a_every : Nat) (f_every : Nat → Int32) (z : Int32 × Int32 × Int32 × Int32 × Int32 × Int32 × Int32 × (Nat → Int32) × (Nat → Int32)) (h : P_X11_readFactor o_typed o_choices o_worlds o_at o_start o_sort o_value o_fault o_deep o_many f_text f_values f_words f_word f_some f_every = some z) : KV l yX11_readFactor wsX11_readFactor rmX11_readFactor D [(cI, .int), (cB, .byte), (cZ, .boolean)] [.ref a_o] [(a_o, .inr (10, [.long o_trace, .ref a_text, .int o_typed, .int o_choices, .int o_worlds, .ref a_values, .int o_at, .int o_start, .int o_sort, .int o_value, .int o_fault, w_o_draft, w_o_sayings, w_o_leaves, w_o_signs, .ref a_words, .ref a_word, w_o_isKept, .ref a_some, .ref a_every, .int o_deep, .int o_many, w_o_length, w_o_found, .int o_foundMany])), (a_text, .inl (cB, 200, .inl f_text)), (a_values, .inl (cI, 3, .inl f_values)), (a_words, .inl (cI, 3, .inl f_words)), (a_word, .inl (cI, 9, .inl f_word)), (a_some, .inl (cI, 10, .inl f_some)), (a_every, .inl (cI, 10, .inl f_every))] [(a_o, .inr (10, [.long o_trace, .ref a_text, .int o_typed, .int o_choices, .int o_worlds, .ref a_values, .int z.1, .int z.2.1, .int z.2.2.1, .int z.2.2.2.1, .int z.2.2.2.2.1, w_o_draft, w_o_sayings, w_o_leaves, w_o_signs, .ref a_words, .ref a_word, w_o_isKept, .ref a_some, .ref a_every, .int z.2.2.2.2.2.1, .int z.2.2.2.2.2.2.1, w_o_length, w_o_found, .int o_foundMany])), (a_text, .inl (cB, 200, .inl f_text)), (a_values, .inl (cI, 3, .inl f_values)), (a_words, .inl (cI, 3, .inl f_words)), (a_word, .inl (cI, 9, .inl f_word)), (a_some, .inl (cI, 10, .inl z.2.2.2.2.2.2.2.1)), (a_every, .inl (cI, 10, .inl z.2.2.2.2.2.2.2.2))] := by
  refine KV_of (own := RX11) (cc := cX11_readFactor) (maxL := 5) (by decide) rfl rfl (Nat.le_of_ble_eq_true rfl) ?_
  intro p e s m args below meth c A Q hx hb hml hown hts hA hZ hK hret H locs ls hP hD hS hl
  have hl : lv_has ls 5 [(0, .ref a_o)] := hl
  have hF : CallFix p m c cX11_readFactor 5 s args wsX11_readFactor RX11 := ⟨hx, hb, hml, hown, hts⟩
  have u_X11 : ∀ w ∈ u_ws RX11 TX11 25, w ∈ wsX11_readFactor := by decide +kernel
  have k_f0 := hts (.fieldLink RX11 77 "NoWordNoModel" "sort" "I") (by decide +kernel)
  have k_f1 := hts (.fieldLink RX11 74 "NoWordNoModel" "value" "I") (by decide +kernel)
  have k_f2 := hts (.fieldLink RX11 85 "NoWordNoModel" "fault" "I") (by decide +kernel)
  have k_f3 := hts (.fieldLink RX11 42 "NoWordNoModel" "every" "[I") (by decide +kernel)
  have k_f4 := hts (.fieldLink RX11 102 "NoWordNoModel" "deep" "I") (by decide +kernel)
  have k_f5 := hts (.fieldLink RX11 115 "NoWordNoModel" "many" "I") (by decide +kernel)
  have k_f6 := hts (.fieldLink RX11 32 "NoWordNoModel" "word" "[I") (by decide +kernel)
  have k_f7 := hts (.fieldLink RX11 13 "NoWordNoModel" "values" "[I") (by decide +kernel)
  have k_f8 := hts (.fieldLink RX11 29 "NoWordNoModel" "words" "[I") (by decide +kernel)
  have k_f9 := hts (.fieldLink RX11 95 "NoWordNoModel" "choices" "I") (by decide +kernel)
  unfold P_X11_readFactor at h
  refine lv_aload_n hx hb dX11_readFactor_0 rfl (lv_at hl 0 rfl) ?_
  refine va_get (D := D) (ci := 10) (v := .int o_sort) (C := RX11) (T := TX11) (N := 25) hx hb hts u_X11 hown hK hP 0 rfl rfl 8 (by decide) k_f0 (fun _ h9 => h9) rfl dX11_readFactor_1 ?_
  refine lv_bipush (v := 7) hx hb dX11_readFactor_4 bc_7 ?_
  refine lv_icmp_ne (tgt := 48) hx hb dX11_readFactor_6 (by decide) (fun c_6 => ?_) (fun c_6 => ?_)
  · replace h := if_e c_6 h
    refine lv_aload_n hx hb dX11_readFactor_48 rfl (lv_at hl 0 rfl) ?_
    refine va_get (D := D) (ci := 10) (v := .int o_value) (C := RX11) (T := TX11) (N := 25) hx hb hts u_X11 hown hK hP 0 rfl rfl 9 (by decide) k_f1 (fun _ h9 => h9) rfl dX11_readFactor_49 ?_
    refine lv_istore_n (lv' := [(1, .int o_value), (0, .ref a_o)]) hx hb dX11_readFactor_52 rfl hl (by decide) rfl (fun ls hl => ?_)
    refine lv_aload_n hx hb dX11_readFactor_53 rfl (lv_at hl 1 rfl) ?_
    refine va_get (D := D) (ci := 10) (v := .int o_sort) (C := RX11) (T := TX11) (N := 25) hx hb hts u_X11 hown hK hP 0 rfl rfl 8 (by decide) k_f0 (fun _ h9 => h9) rfl dX11_readFactor_54 ?_
    refine lv_iconst (v := 2) hx hb dX11_readFactor_57 ic_2 ?_
    obtain ⟨j66, hj66, h⟩ := jn_e h
    have Jj66 : ∀ (x66_s0 : Int32) (H : Heap) (locs : List Loc) (ls : Array Slot), j66 x66_s0 = some z → va_P D vwCl [(a_o, .inr (10, [.long o_trace, .ref a_text, .int o_typed, .int o_choices, .int o_worlds, .ref a_values, .int o_at, .int o_start, .int o_sort, .int o_value, .int o_fault, w_o_draft, w_o_sayings, w_o_leaves, w_o_signs, .ref a_words, .ref a_word, w_o_isKept, .ref a_some, .ref a_every, .int o_deep, .int o_many, w_o_length, w_o_found, .int o_foundMany])), (a_text, .inl (cB, 200, .inl f_text)), (a_values, .inl (cI, 3, .inl f_values)), (a_words, .inl (cI, 3, .inl f_words)), (a_word, .inl (cI, 9, .inl f_word)), (a_some, .inl (cI, 10, .inl f_some)), (a_every, .inl (cI, 10, .inl f_every))] H → va_D A [(a_o, .inr (10, [.long o_trace, .ref a_text, .int o_typed, .int o_choices, .int o_worlds, .ref a_values, .int o_at, .int o_start, .int o_sort, .int o_value, .int o_fault, w_o_draft, w_o_sayings, w_o_leaves, w_o_signs, .ref a_words, .ref a_word, w_o_isKept, .ref a_some, .ref a_every, .int o_deep, .int o_many, w_o_length, w_o_found, .int o_foundMany])), (a_text, .inl (cB, 200, .inl f_text)), (a_values, .inl (cI, 3, .inl f_values)), (a_words, .inl (cI, 3, .inl f_words)), (a_word, .inl (cI, 9, .inl f_word)), (a_some, .inl (cI, 10, .inl f_some)), (a_every, .inl (cI, 10, .inl f_every))] → va_S A s.heap H locs → lv_has ls 5 [(0, .ref a_o), (1, .int o_value)] → W p l e rmX11_readFactor s m args below meth c H locs 0 0 Q (F0 m 66 ls [.int x66_s0]) := by
      intro x66_s0 H locs ls h hP hD hS hl
      rw [hj66] at h
      refine lv_istore_n (lv' := [(2, .int x66_s0), (0, .ref a_o), (1, .int o_value)]) hx hb dX11_readFactor_66 rfl hl (by decide) rfl (fun ls hl => ?_)
      refine lv_aload_n hx hb dX11_readFactor_67 rfl (lv_at hl 1 rfl) ?_
      refine lv_iload_n hx hb dX11_readFactor_68 rfl (lv_at hl 0 rfl) ?_
      obtain ⟨j88, hj88, h⟩ := jn_e h
      have Jj88 : ∀ (H : Heap) (locs : List Loc) (ls : Array Slot), j88 () = some z → va_P D vwCl [(a_o, .inr (10, [.long o_trace, .ref a_text, .int o_typed, .int o_choices, .int o_worlds, .ref a_values, .int o_at, .int o_start, .int o_sort, .int o_value, .int o_fault, w_o_draft, w_o_sayings, w_o_leaves, w_o_signs, .ref a_words, .ref a_word, w_o_isKept, .ref a_some, .ref a_every, .int o_deep, .int o_many, w_o_length, w_o_found, .int o_foundMany])), (a_text, .inl (cB, 200, .inl f_text)), (a_values, .inl (cI, 3, .inl f_values)), (a_words, .inl (cI, 3, .inl f_words)), (a_word, .inl (cI, 9, .inl f_word)), (a_some, .inl (cI, 10, .inl f_some)), (a_every, .inl (cI, 10, .inl f_every))] H → va_D A [(a_o, .inr (10, [.long o_trace, .ref a_text, .int o_typed, .int o_choices, .int o_worlds, .ref a_values, .int o_at, .int o_start, .int o_sort, .int o_value, .int o_fault, w_o_draft, w_o_sayings, w_o_leaves, w_o_signs, .ref a_words, .ref a_word, w_o_isKept, .ref a_some, .ref a_every, .int o_deep, .int o_many, w_o_length, w_o_found, .int o_foundMany])), (a_text, .inl (cB, 200, .inl f_text)), (a_values, .inl (cI, 3, .inl f_values)), (a_words, .inl (cI, 3, .inl f_words)), (a_word, .inl (cI, 9, .inl f_word)), (a_some, .inl (cI, 10, .inl f_some)), (a_every, .inl (cI, 10, .inl f_every))] → va_S A s.heap H locs → lv_has ls 5 [(0, .ref a_o), (1, .int o_value), (2, .int x66_s0)] → W p l e rmX11_readFactor s m args below meth c H locs 0 0 Q (F0 m 88 ls [.ref a_o]) := by
        intro H locs ls h hP hD hS hl
        rw [hj88] at h
        refine lv_iconst (v := 1) hx hb dX11_readFactor_88 ic_1 ?_
        refine lv_goto (tgt := 93) hx hb dX11_readFactor_89 (by decide) ?_
        obtain ⟨z_93, hc_93, h⟩ := bd_e h
        refine q_iV (As := [.int 1]) (rest := []) (wF := [(a_values, .inl (cI, 3, .inl f_values)), (a_words, .inl (cI, 3, .inl f_words)), (a_word, .inl (cI, 9, .inl f_word)), (a_some, .inl (cI, 10, .inl f_some)), (a_every, .inl (cI, 10, .inl f_every)), (a_o, .inr (10, [.long o_trace, .ref a_text, .int o_typed, .int o_choices, .int o_worlds, .ref a_values, .int z_93.2.1, .int z_93.2.2.1, .int z_93.2.2.2.1, .int z_93.2.2.2.2.1, .int z_93.2.2.2.2.2, w_o_draft, w_o_sayings, w_o_leaves, w_o_signs, .ref a_words, .ref a_word, w_o_isKept, .ref a_some, .ref a_every, .int o_deep, .int o_many, w_o_length, w_o_found, .int o_foundMany])), (a_text, .inl (cB, 200, .inl f_text))]) hF hA hZ hK hP hD hS (c_X11_due l D cI cB cZ a_o o_trace o_typed o_choices o_worlds (.ref a_values) o_at o_start o_sort o_value o_fault w_o_draft w_o_sayings w_o_leaves w_o_signs (.ref a_words) (.ref a_word) w_o_isKept (.ref a_some) (.ref a_every) o_deep o_many w_o_length w_o_found o_foundMany a_text f_text 1 z_93 hc_93) rfl gX11_readFactor_X11_due hdX11_due ⟨rfl, rfl⟩ (Nat.le_of_ble_eq_true rfl) (Nat.le_of_ble_eq_true rfl) 10 0 rfl rfl [0, 1] [2, 3, 4, 5, 6] rfl rfl rfl rfl (by decide) rfl hl.1 rfl (Nat.le_of_ble_eq_true rfl) (Nat.zero_le _) (Nat.zero_le _) dX11_readFactor_93 (fun H locs hP hD hS => ?_)
        refine lv_pop hx hb dX11_readFactor_96 rfl ?_
        refine lv_aload_n hx hb dX11_readFactor_97 rfl (lv_at hl 0 rfl) ?_
        refine va_get (D := D) (ci := 10) (v := .int z_93.2.2.2.2.2) (C := RX11) (T := TX11) (N := 25) hx hb hts u_X11 hown hK hP 5 rfl rfl 10 (by decide) k_f2 (fun _ h9 => h9) rfl dX11_readFactor_98 ?_
        refine lv_bipush (v := (-9)) hx hb dX11_readFactor_101 bc_m9 ?_
        obtain ⟨j144, hj144, h⟩ := jn_e h
        have Jj144 : ∀ (H : Heap) (locs : List Loc) (ls : Array Slot), j144 () = some z → va_P D vwCl [(a_values, .inl (cI, 3, .inl f_values)), (a_words, .inl (cI, 3, .inl f_words)), (a_word, .inl (cI, 9, .inl f_word)), (a_some, .inl (cI, 10, .inl f_some)), (a_every, .inl (cI, 10, .inl f_every)), (a_o, .inr (10, [.long o_trace, .ref a_text, .int o_typed, .int o_choices, .int o_worlds, .ref a_values, .int z_93.2.1, .int z_93.2.2.1, .int z_93.2.2.2.1, .int z_93.2.2.2.2.1, .int z_93.2.2.2.2.2, w_o_draft, w_o_sayings, w_o_leaves, w_o_signs, .ref a_words, .ref a_word, w_o_isKept, .ref a_some, .ref a_every, .int o_deep, .int o_many, w_o_length, w_o_found, .int o_foundMany])), (a_text, .inl (cB, 200, .inl f_text))] H → va_D A [(a_values, .inl (cI, 3, .inl f_values)), (a_words, .inl (cI, 3, .inl f_words)), (a_word, .inl (cI, 9, .inl f_word)), (a_some, .inl (cI, 10, .inl f_some)), (a_every, .inl (cI, 10, .inl f_every)), (a_o, .inr (10, [.long o_trace, .ref a_text, .int o_typed, .int o_choices, .int o_worlds, .ref a_values, .int z_93.2.1, .int z_93.2.2.1, .int z_93.2.2.2.1, .int z_93.2.2.2.2.1, .int z_93.2.2.2.2.2, w_o_draft, w_o_sayings, w_o_leaves, w_o_signs, .ref a_words, .ref a_word, w_o_isKept, .ref a_some, .ref a_every, .int o_deep, .int o_many, w_o_length, w_o_found, .int o_foundMany])), (a_text, .inl (cB, 200, .inl f_text))] → va_S A s.heap H locs → lv_has ls 5 [(0, .ref a_o), (1, .int o_value), (2, .int x66_s0)] → W p l e rmX11_readFactor s m args below meth c H locs 0 0 Q (F0 m 144 ls []) := by
          intro H locs ls h hP hD hS hl
          rw [hj144] at h
          refine lv_iconst (v := 0) hx hb dX11_readFactor_144 ic_0 ?_
          refine lv_istore_n (lv' := [(3, .int 0), (0, .ref a_o), (1, .int o_value), (2, .int x66_s0)]) hx hb dX11_readFactor_145 rfl hl (by decide) rfl (fun ls hl => ?_)
          refine lv_aload_n hx hb dX11_readFactor_146 rfl (lv_at hl 1 rfl) ?_
          refine lv_iload_n hx hb dX11_readFactor_147 rfl (lv_at hl 0 rfl) ?_
          obtain ⟨z_148, hc_148, h⟩ := bd_e h
          refine q_iV (As := [.int 0]) (rest := []) (wF := [(a_values, .inl (cI, 3, .inl f_values)), (a_words, .inl (cI, 3, .inl f_words)), (a_word, .inl (cI, 9, .inl f_word)), (a_some, .inl (cI, 10, .inl f_some)), (a_every, .inl (cI, 10, .inl f_every)), (a_o, .inr (10, [.long o_trace, .ref a_text, .int o_typed, .int o_choices, .int o_worlds, .ref a_values, .int z_148.2.1, .int z_148.2.2.1, .int z_148.2.2.2.1, .int z_148.2.2.2.2.1, .int z_148.2.2.2.2.2, w_o_draft, w_o_sayings, w_o_leaves, w_o_signs, .ref a_words, .ref a_word, w_o_isKept, .ref a_some, .ref a_every, .int o_deep, .int o_many, w_o_length, w_o_found, .int o_foundMany])), (a_text, .inl (cB, 200, .inl f_text))]) hF hA hZ hK hP hD hS (c_X11_due l D cI cB cZ a_o o_trace o_typed o_choices o_worlds (.ref a_values) z_93.2.1 z_93.2.2.1 z_93.2.2.2.1 z_93.2.2.2.2.1 z_93.2.2.2.2.2 w_o_draft w_o_sayings w_o_leaves w_o_signs (.ref a_words) (.ref a_word) w_o_isKept (.ref a_some) (.ref a_every) o_deep o_many w_o_length w_o_found o_foundMany a_text f_text 0 z_148 hc_148) rfl gX11_readFactor_X11_due hdX11_due ⟨rfl, rfl⟩ (Nat.le_of_ble_eq_true rfl) (Nat.le_of_ble_eq_true rfl) 10 0 rfl rfl [5, 6] [0, 1, 2, 3, 4] rfl rfl rfl rfl (by decide) rfl hl.1 rfl (Nat.le_of_ble_eq_true rfl) (Nat.zero_le _) (Nat.zero_le _) dX11_readFactor_148 (fun H locs hP hD hS => ?_)
          refine lv_istore (lv' := [(4, .int z_148.1), (3, .int 0), (0, .ref a_o), (1, .int o_value), (2, .int x66_s0)]) hx hb dX11_readFactor_151 hl (by decide) rfl (fun ls hl => ?_)
          refine lv_aload_n hx hb dX11_readFactor_153 rfl (lv_at hl 2 rfl) ?_
          refine va_get (D := D) (ci := 10) (v := .int z_148.2.2.2.2.2) (C := RX11) (T := TX11) (N := 25) hx hb hts u_X11 hown hK hP 5 rfl rfl 10 (by decide) k_f2 (fun _ h9 => h9) rfl dX11_readFactor_154 ?_
          refine lv_bipush (v := (-9)) hx hb dX11_readFactor_157 bc_m9 ?_
          refine lv_icmp_ne (tgt := 209) hx hb dX11_readFactor_159 (by decide) (fun c_159 => ?_) (fun c_159 => ?_)
          · replace h := if_e c_159 h
            have hz := Option.some.inj h
            subst hz
            exact hret H locs 209 ls (hP.sub [5, 6, 0, 1, 2, 3, 4] rfl) (hD.sub [5, 6, 0, 1, 2, 3, 4] (by decide) rfl) hS dX11_readFactor_209
          · replace h := it_e c_159 h
            refine lv_aload_n hx hb dX11_readFactor_162 rfl (lv_at hl 2 rfl) ?_
            refine va_get (D := D) (ci := 10) (v := .ref a_every) (C := RX11) (T := TX11) (N := 25) hx hb hts u_X11 hown hK hP 5 rfl rfl 19 (by decide) k_f3 (fun _ h9 => h9) rfl dX11_readFactor_163 ?_
            refine lv_aload_n hx hb dX11_readFactor_166 rfl (lv_at hl 2 rfl) ?_
            refine va_get (D := D) (ci := 10) (v := .int o_deep) (C := RX11) (T := TX11) (N := 25) hx hb hts u_X11 hown hK hP 5 rfl rfl 20 (by decide) k_f4 (fun _ h9 => h9) rfl dX11_readFactor_167 ?_
            refine lv_dup2_11 hx hb dX11_readFactor_170 rfl rfl ?_
            obtain ⟨hi_171, h⟩ := ck_e h
            refine va_iald hx hb hK hP 4 0 rfl rfl hi_171 dX11_readFactor_171 ?_
            refine lv_iload_n hx hb dX11_readFactor_172 rfl (lv_at hl 4 rfl) ?_
            obtain ⟨j193, hj193, h⟩ := jn_e h
            have Jj193 : ∀ (x193_s3 : Int32) (H : Heap) (locs : List Loc) (ls : Array Slot), j193 x193_s3 = some z → va_P D vwCl [(a_values, .inl (cI, 3, .inl f_values)), (a_words, .inl (cI, 3, .inl f_words)), (a_word, .inl (cI, 9, .inl f_word)), (a_some, .inl (cI, 10, .inl f_some)), (a_every, .inl (cI, 10, .inl f_every)), (a_o, .inr (10, [.long o_trace, .ref a_text, .int o_typed, .int o_choices, .int o_worlds, .ref a_values, .int z_148.2.1, .int z_148.2.2.1, .int z_148.2.2.2.1, .int z_148.2.2.2.2.1, .int z_148.2.2.2.2.2, w_o_draft, w_o_sayings, w_o_leaves, w_o_signs, .ref a_words, .ref a_word, w_o_isKept, .ref a_some, .ref a_every, .int o_deep, .int o_many, w_o_length, w_o_found, .int o_foundMany])), (a_text, .inl (cB, 200, .inl f_text))] H → va_D A [(a_values, .inl (cI, 3, .inl f_values)), (a_words, .inl (cI, 3, .inl f_words)), (a_word, .inl (cI, 9, .inl f_word)), (a_some, .inl (cI, 10, .inl f_some)), (a_every, .inl (cI, 10, .inl f_every)), (a_o, .inr (10, [.long o_trace, .ref a_text, .int o_typed, .int o_choices, .int o_worlds, .ref a_values, .int z_148.2.1, .int z_148.2.2.1, .int z_148.2.2.2.1, .int z_148.2.2.2.2.1, .int z_148.2.2.2.2.2, w_o_draft, w_o_sayings, w_o_leaves, w_o_signs, .ref a_words, .ref a_word, w_o_isKept, .ref a_some, .ref a_every, .int o_deep, .int o_many, w_o_length, w_o_found, .int o_foundMany])), (a_text, .inl (cB, 200, .inl f_text))] → va_S A s.heap H locs → lv_has ls 5 [(0, .ref a_o)] → W p l e rmX11_readFactor s m args below meth c H locs 0 0 Q (F0 m 193 ls [.int x193_s3, .int (f_every o_deep.toNatClampNeg), .int o_deep, .ref a_every]) := by
              intro x193_s3 H locs ls h hP hD hS hl
              rw [hj193] at h
              refine lv_iand hx hb dX11_readFactor_193 ?_
              obtain ⟨hi_194, h⟩ := ck_e h
              refine va_iast hx hb hK hP hD hS 4 0 rfl rfl hi_194 dX11_readFactor_194 (fun H locs hP hD hS => ?_)
              have hP : va_P D vwCl [(a_values, .inl (cI, 3, .inl f_values)), (a_words, .inl (cI, 3, .inl f_words)), (a_word, .inl (cI, 9, .inl f_word)), (a_some, .inl (cI, 10, .inl f_some)), (a_every, .inl (cI, 10, .inl (upd f_every o_deep.toNatClampNeg ((f_every o_deep.toNatClampNeg) &&& x193_s3)))), (a_o, .inr (10, [.long o_trace, .ref a_text, .int o_typed, .int o_choices, .int o_worlds, .ref a_values, .int z_148.2.1, .int z_148.2.2.1, .int z_148.2.2.2.1, .int z_148.2.2.2.2.1, .int z_148.2.2.2.2.2, w_o_draft, w_o_sayings, w_o_leaves, w_o_signs, .ref a_words, .ref a_word, w_o_isKept, .ref a_some, .ref a_every, .int o_deep, .int o_many, w_o_length, w_o_found, .int o_foundMany])), (a_text, .inl (cB, 200, .inl f_text))] H := hP
              have hD : va_D A [(a_values, .inl (cI, 3, .inl f_values)), (a_words, .inl (cI, 3, .inl f_words)), (a_word, .inl (cI, 9, .inl f_word)), (a_some, .inl (cI, 10, .inl f_some)), (a_every, .inl (cI, 10, .inl (upd f_every o_deep.toNatClampNeg ((f_every o_deep.toNatClampNeg) &&& x193_s3)))), (a_o, .inr (10, [.long o_trace, .ref a_text, .int o_typed, .int o_choices, .int o_worlds, .ref a_values, .int z_148.2.1, .int z_148.2.2.1, .int z_148.2.2.2.1, .int z_148.2.2.2.2.1, .int z_148.2.2.2.2.2, w_o_draft, w_o_sayings, w_o_leaves, w_o_signs, .ref a_words, .ref a_word, w_o_isKept, .ref a_some, .ref a_every, .int o_deep, .int o_many, w_o_length, w_o_found, .int o_foundMany])), (a_text, .inl (cB, 200, .inl f_text))] := hD
              refine lv_aload_n hx hb dX11_readFactor_195 rfl (lv_at hl 0 rfl) ?_
              refine lv_dup hx hb dX11_readFactor_196 rfl ?_
              refine va_get (D := D) (ci := 10) (v := .int o_many) (C := RX11) (T := TX11) (N := 25) hx hb hts u_X11 hown hK hP 5 rfl rfl 21 (by decide) k_f5 (fun _ h9 => h9) rfl dX11_readFactor_197 ?_
              refine lv_iconst (v := 1) hx hb dX11_readFactor_200 ic_1 ?_
              refine lv_iadd hx hb dX11_readFactor_201 ?_
              refine va_put (D := D) (ci := 10) (v := .int (o_many + 1)) (ty := .int) (C := RX11) (T := TX11) (N := 25) hx hb hts u_X11 tyX11 tyX11_ok nmX11 hown hK hP hD hS 5 rfl rfl 21 (by decide) k_f5 (fun _ h9 => h9) rfl (tyX11_ok 21 (by decide)) rfl rfl (Nat.le_of_ble_eq_true rfl) dX11_readFactor_202 (fun H locs hP hD hS => ?_)
              have hP : va_P D vwCl [(a_values, .inl (cI, 3, .inl f_values)), (a_words, .inl (cI, 3, .inl f_words)), (a_word, .inl (cI, 9, .inl f_word)), (a_some, .inl (cI, 10, .inl f_some)), (a_every, .inl (cI, 10, .inl (upd f_every o_deep.toNatClampNeg ((f_every o_deep.toNatClampNeg) &&& x193_s3)))), (a_o, .inr (10, [.long o_trace, .ref a_text, .int o_typed, .int o_choices, .int o_worlds, .ref a_values, .int z_148.2.1, .int z_148.2.2.1, .int z_148.2.2.2.1, .int z_148.2.2.2.2.1, .int z_148.2.2.2.2.2, w_o_draft, w_o_sayings, w_o_leaves, w_o_signs, .ref a_words, .ref a_word, w_o_isKept, .ref a_some, .ref a_every, .int o_deep, .int (o_many + 1), w_o_length, w_o_found, .int o_foundMany])), (a_text, .inl (cB, 200, .inl f_text))] H := hP
              have hD : va_D A [(a_values, .inl (cI, 3, .inl f_values)), (a_words, .inl (cI, 3, .inl f_words)), (a_word, .inl (cI, 9, .inl f_word)), (a_some, .inl (cI, 10, .inl f_some)), (a_every, .inl (cI, 10, .inl (upd f_every o_deep.toNatClampNeg ((f_every o_deep.toNatClampNeg) &&& x193_s3)))), (a_o, .inr (10, [.long o_trace, .ref a_text, .int o_typed, .int o_choices, .int o_worlds, .ref a_values, .int z_148.2.1, .int z_148.2.2.1, .int z_148.2.2.2.1, .int z_148.2.2.2.2.1, .int z_148.2.2.2.2.2, w_o_draft, w_o_sayings, w_o_leaves, w_o_signs, .ref a_words, .ref a_word, w_o_isKept, .ref a_some, .ref a_every, .int o_deep, .int (o_many + 1), w_o_length, w_o_found, .int o_foundMany])), (a_text, .inl (cB, 200, .inl f_text))] := hD
              refine lv_aload_n hx hb dX11_readFactor_205 rfl (lv_at hl 0 rfl) ?_
              obtain ⟨z_206, hc_206, h⟩ := bd_e h
              refine q_vV (As := []) (rest := []) (wF := [(a_values, .inl (cI, 3, .inl f_values)), (a_words, .inl (cI, 3, .inl f_words)), (a_word, .inl (cI, 9, .inl f_word)), (a_o, .inr (10, [.long o_trace, .ref a_text, .int o_typed, .int o_choices, .int o_worlds, .ref a_values, .int z_206.1, .int z_206.2.1, .int z_206.2.2.1, .int z_206.2.2.2.1, .int z_148.2.2.2.2.2, w_o_draft, w_o_sayings, w_o_leaves, w_o_signs, .ref a_words, .ref a_word, w_o_isKept, .ref a_some, .ref a_every, .int z_206.2.2.2.2.1, .int (o_many + 1), w_o_length, w_o_found, .int o_foundMany])), (a_text, .inl (cB, 200, .inl f_text)), (a_some, .inl (cI, 10, .inl f_some)), (a_every, .inl (cI, 10, .inl z_206.2.2.2.2.2))]) hF hA hZ hK hP hD hS (c_X11_close l D cI cB cZ a_o o_trace o_typed o_choices o_worlds (.ref a_values) z_148.2.1 z_148.2.2.1 z_148.2.2.2.1 z_148.2.2.2.2.1 z_148.2.2.2.2.2 w_o_draft w_o_sayings w_o_leaves w_o_signs (.ref a_words) (.ref a_word) w_o_isKept o_deep (o_many + 1) w_o_length w_o_found o_foundMany a_text f_text a_some f_some a_every (upd f_every o_deep.toNatClampNeg ((f_every o_deep.toNatClampNeg) &&& x193_s3)) z_206 hc_206) rfl gX11_readFactor_X11_close hdX11_close ⟨rfl, rfl⟩ (Nat.le_of_ble_eq_true rfl) (Nat.le_of_ble_eq_true rfl) 10 0 rfl rfl [5, 6, 3, 4] [0, 1, 2] rfl rfl rfl rfl (by decide) rfl hl.1 rfl (Nat.le_of_ble_eq_true rfl) (Nat.zero_le _) (Nat.zero_le _) dX11_readFactor_206 (fun H locs hP hD hS => ?_)
              have hz := Option.some.inj h
              subst hz
              exact hret H locs 209 ls (hP.sub [3, 4, 0, 1, 2, 5, 6] rfl) (hD.sub [3, 4, 0, 1, 2, 5, 6] (by decide) rfl) hS dX11_readFactor_209
            refine lv_if_eq (tgt := 186) hx hb dX11_readFactor_173 (by decide) (fun c_173 => ?_) (fun c_173 => ?_)
            · replace h := it_e c_173 h
              refine lv_aload_n hx hb dX11_readFactor_186 rfl (lv_at hl 2 rfl) ?_
              refine lv_iload_n hx hb dX11_readFactor_187 rfl (lv_at hl 3 rfl) ?_
              refine lv_iload hx hb dX11_readFactor_188 (lv_at hl 0 rfl) ?_
              obtain ⟨z_190, hc_190, h⟩ := bd_e h
              refine q_iV (As := [.int o_value, .int z_148.1]) (rest := [.int (f_every o_deep.toNatClampNeg), .int o_deep, .ref a_every]) (wF := [(a_words, .inl (cI, 3, .inl f_words)), (a_word, .inl (cI, 9, .inl f_word)), (a_some, .inl (cI, 10, .inl f_some)), (a_every, .inl (cI, 10, .inl f_every)), (a_text, .inl (cB, 200, .inl f_text)), (a_o, .inr (10, [.long o_trace, .ref a_text, .int o_typed, .int o_choices, .int o_worlds, .ref a_values, .int z_148.2.1, .int z_148.2.2.1, .int z_148.2.2.2.1, .int z_148.2.2.2.2.1, .int z_148.2.2.2.2.2, w_o_draft, w_o_sayings, w_o_leaves, w_o_signs, .ref a_words, .ref a_word, w_o_isKept, .ref a_some, .ref a_every, .int o_deep, .int o_many, w_o_length, w_o_found, .int o_foundMany])), (a_values, .inl (cI, 3, .inl f_values))]) hF hA hZ hK hP hD hS (c_X11_worldsOf l D cI cB cZ a_o o_trace (.ref a_text) o_typed o_choices o_worlds z_148.2.1 z_148.2.2.1 z_148.2.2.2.1 z_148.2.2.2.2.1 z_148.2.2.2.2.2 w_o_draft w_o_sayings w_o_leaves w_o_signs (.ref a_words) (.ref a_word) w_o_isKept (.ref a_some) (.ref a_every) o_deep o_many w_o_length w_o_found o_foundMany a_values f_values o_value z_148.1 z_190 hc_190) rfl gX11_readFactor_X11_worldsOf hdX11_worldsOf ⟨rfl, rfl⟩ (Nat.le_of_ble_eq_true rfl) (Nat.le_of_ble_eq_true rfl) 10 0 rfl rfl [5, 0] [1, 2, 3, 4, 6] rfl rfl rfl rfl (by decide) rfl hl.1 rfl (Nat.le_of_ble_eq_true rfl) (Nat.zero_le _) (Nat.zero_le _) dX11_readFactor_190 (fun H locs hP hD hS => ?_)
              exact Jj193 z_190 H locs ls h (hP.sub [6, 0, 1, 2, 3, 5, 4] rfl) (hD.sub [6, 0, 1, 2, 3, 5, 4] (by decide) rfl) hS (lv_sub hl [2] rfl)
            · replace h := if_e c_173 h
              refine lv_aload_n hx hb dX11_readFactor_176 rfl (lv_at hl 2 rfl) ?_
              refine va_get (D := D) (ci := 10) (v := .ref a_word) (C := RX11) (T := TX11) (N := 25) hx hb hts u_X11 hown hK hP 5 rfl rfl 16 (by decide) k_f6 (fun _ h9 => h9) rfl dX11_readFactor_177 ?_
              refine lv_iload hx hb dX11_readFactor_180 (lv_at hl 0 rfl) ?_
              obtain ⟨hi_182, h⟩ := ck_e h
              refine va_iald hx hb hK hP 2 0 rfl rfl hi_182 dX11_readFactor_182 ?_
              refine lv_goto (tgt := 193) hx hb dX11_readFactor_183 (by decide) ?_
              exact Jj193 (f_word z_148.1.toNatClampNeg) H locs ls h hP hD hS (lv_sub hl [2] rfl)
        obtain ⟨j145, hj145, h⟩ := jn_e h
        have Jj145 : ∀ (x145_s0 : Int32) (H : Heap) (locs : List Loc) (ls : Array Slot), j145 x145_s0 = some z → va_P D vwCl [(a_values, .inl (cI, 3, .inl f_values)), (a_words, .inl (cI, 3, .inl f_words)), (a_word, .inl (cI, 9, .inl f_word)), (a_some, .inl (cI, 10, .inl f_some)), (a_every, .inl (cI, 10, .inl f_every)), (a_o, .inr (10, [.long o_trace, .ref a_text, .int o_typed, .int o_choices, .int o_worlds, .ref a_values, .int z_93.2.1, .int z_93.2.2.1, .int z_93.2.2.2.1, .int z_93.2.2.2.2.1, .int z_93.2.2.2.2.2, w_o_draft, w_o_sayings, w_o_leaves, w_o_signs, .ref a_words, .ref a_word, w_o_isKept, .ref a_some, .ref a_every, .int o_deep, .int o_many, w_o_length, w_o_found, .int o_foundMany])), (a_text, .inl (cB, 200, .inl f_text))] H → va_D A [(a_values, .inl (cI, 3, .inl f_values)), (a_words, .inl (cI, 3, .inl f_words)), (a_word, .inl (cI, 9, .inl f_word)), (a_some, .inl (cI, 10, .inl f_some)), (a_every, .inl (cI, 10, .inl f_every)), (a_o, .inr (10, [.long o_trace, .ref a_text, .int o_typed, .int o_choices, .int o_worlds, .ref a_values, .int z_93.2.1, .int z_93.2.2.1, .int z_93.2.2.2.1, .int z_93.2.2.2.2.1, .int z_93.2.2.2.2.2, w_o_draft, w_o_sayings, w_o_leaves, w_o_signs, .ref a_words, .ref a_word, w_o_isKept, .ref a_some, .ref a_every, .int o_deep, .int o_many, w_o_length, w_o_found, .int o_foundMany])), (a_text, .inl (cB, 200, .inl f_text))] → va_S A s.heap H locs → lv_has ls 5 [(0, .ref a_o), (1, .int o_value), (2, .int x66_s0)] → W p l e rmX11_readFactor s m args below meth c H locs 0 0 Q (F0 m 145 ls [.int x145_s0]) := by
          intro x145_s0 H locs ls h hP hD hS hl
          rw [hj145] at h
          refine lv_istore_n (lv' := [(3, .int x145_s0), (0, .ref a_o), (1, .int o_value), (2, .int x66_s0)]) hx hb dX11_readFactor_145 rfl hl (by decide) rfl (fun ls hl => ?_)
          refine lv_aload_n hx hb dX11_readFactor_146 rfl (lv_at hl 1 rfl) ?_
          refine lv_iload_n hx hb dX11_readFactor_147 rfl (lv_at hl 0 rfl) ?_
          obtain ⟨z_148, hc_148, h⟩ := bd_e h
          refine q_iV (As := [.int x145_s0]) (rest := []) (wF := [(a_values, .inl (cI, 3, .inl f_values)), (a_words, .inl (cI, 3, .inl f_words)), (a_word, .inl (cI, 9, .inl f_word)), (a_some, .inl (cI, 10, .inl f_some)), (a_every, .inl (cI, 10, .inl f_every)), (a_o, .inr (10, [.long o_trace, .ref a_text, .int o_typed, .int o_choices, .int o_worlds, .ref a_values, .int z_148.2.1, .int z_148.2.2.1, .int z_148.2.2.2.1, .int z_148.2.2.2.2.1, .int z_148.2.2.2.2.2, w_o_draft, w_o_sayings, w_o_leaves, w_o_signs, .ref a_words, .ref a_word, w_o_isKept, .ref a_some, .ref a_every, .int o_deep, .int o_many, w_o_length, w_o_found, .int o_foundMany])), (a_text, .inl (cB, 200, .inl f_text))]) hF hA hZ hK hP hD hS (c_X11_due l D cI cB cZ a_o o_trace o_typed o_choices o_worlds (.ref a_values) z_93.2.1 z_93.2.2.1 z_93.2.2.2.1 z_93.2.2.2.2.1 z_93.2.2.2.2.2 w_o_draft w_o_sayings w_o_leaves w_o_signs (.ref a_words) (.ref a_word) w_o_isKept (.ref a_some) (.ref a_every) o_deep o_many w_o_length w_o_found o_foundMany a_text f_text x145_s0 z_148 hc_148) rfl gX11_readFactor_X11_due hdX11_due ⟨rfl, rfl⟩ (Nat.le_of_ble_eq_true rfl) (Nat.le_of_ble_eq_true rfl) 10 0 rfl rfl [5, 6] [0, 1, 2, 3, 4] rfl rfl rfl rfl (by decide) rfl hl.1 rfl (Nat.le_of_ble_eq_true rfl) (Nat.zero_le _) (Nat.zero_le _) dX11_readFactor_148 (fun H locs hP hD hS => ?_)
          refine lv_istore (lv' := [(4, .int z_148.1), (3, .int x145_s0), (0, .ref a_o), (1, .int o_value), (2, .int x66_s0)]) hx hb dX11_readFactor_151 hl (by decide) rfl (fun ls hl => ?_)
          refine lv_aload_n hx hb dX11_readFactor_153 rfl (lv_at hl 2 rfl) ?_
          refine va_get (D := D) (ci := 10) (v := .int z_148.2.2.2.2.2) (C := RX11) (T := TX11) (N := 25) hx hb hts u_X11 hown hK hP 5 rfl rfl 10 (by decide) k_f2 (fun _ h9 => h9) rfl dX11_readFactor_154 ?_
          refine lv_bipush (v := (-9)) hx hb dX11_readFactor_157 bc_m9 ?_
          refine lv_icmp_ne (tgt := 209) hx hb dX11_readFactor_159 (by decide) (fun c_159 => ?_) (fun c_159 => ?_)
          · replace h := if_e c_159 h
            have hz := Option.some.inj h
            subst hz
            exact hret H locs 209 ls (hP.sub [5, 6, 0, 1, 2, 3, 4] rfl) (hD.sub [5, 6, 0, 1, 2, 3, 4] (by decide) rfl) hS dX11_readFactor_209
          · replace h := it_e c_159 h
            refine lv_aload_n hx hb dX11_readFactor_162 rfl (lv_at hl 2 rfl) ?_
            refine va_get (D := D) (ci := 10) (v := .ref a_every) (C := RX11) (T := TX11) (N := 25) hx hb hts u_X11 hown hK hP 5 rfl rfl 19 (by decide) k_f3 (fun _ h9 => h9) rfl dX11_readFactor_163 ?_
            refine lv_aload_n hx hb dX11_readFactor_166 rfl (lv_at hl 2 rfl) ?_
            refine va_get (D := D) (ci := 10) (v := .int o_deep) (C := RX11) (T := TX11) (N := 25) hx hb hts u_X11 hown hK hP 5 rfl rfl 20 (by decide) k_f4 (fun _ h9 => h9) rfl dX11_readFactor_167 ?_
            refine lv_dup2_11 hx hb dX11_readFactor_170 rfl rfl ?_
            obtain ⟨hi_171, h⟩ := ck_e h
            refine va_iald hx hb hK hP 4 0 rfl rfl hi_171 dX11_readFactor_171 ?_
            refine lv_iload_n hx hb dX11_readFactor_172 rfl (lv_at hl 4 rfl) ?_
            obtain ⟨j193, hj193, h⟩ := jn_e h
            have Jj193 : ∀ (x193_s3 : Int32) (H : Heap) (locs : List Loc) (ls : Array Slot), j193 x193_s3 = some z → va_P D vwCl [(a_values, .inl (cI, 3, .inl f_values)), (a_words, .inl (cI, 3, .inl f_words)), (a_word, .inl (cI, 9, .inl f_word)), (a_some, .inl (cI, 10, .inl f_some)), (a_every, .inl (cI, 10, .inl f_every)), (a_o, .inr (10, [.long o_trace, .ref a_text, .int o_typed, .int o_choices, .int o_worlds, .ref a_values, .int z_148.2.1, .int z_148.2.2.1, .int z_148.2.2.2.1, .int z_148.2.2.2.2.1, .int z_148.2.2.2.2.2, w_o_draft, w_o_sayings, w_o_leaves, w_o_signs, .ref a_words, .ref a_word, w_o_isKept, .ref a_some, .ref a_every, .int o_deep, .int o_many, w_o_length, w_o_found, .int o_foundMany])), (a_text, .inl (cB, 200, .inl f_text))] H → va_D A [(a_values, .inl (cI, 3, .inl f_values)), (a_words, .inl (cI, 3, .inl f_words)), (a_word, .inl (cI, 9, .inl f_word)), (a_some, .inl (cI, 10, .inl f_some)), (a_every, .inl (cI, 10, .inl f_every)), (a_o, .inr (10, [.long o_trace, .ref a_text, .int o_typed, .int o_choices, .int o_worlds, .ref a_values, .int z_148.2.1, .int z_148.2.2.1, .int z_148.2.2.2.1, .int z_148.2.2.2.2.1, .int z_148.2.2.2.2.2, w_o_draft, w_o_sayings, w_o_leaves, w_o_signs, .ref a_words, .ref a_word, w_o_isKept, .ref a_some, .ref a_every, .int o_deep, .int o_many, w_o_length, w_o_found, .int o_foundMany])), (a_text, .inl (cB, 200, .inl f_text))] → va_S A s.heap H locs → lv_has ls 5 [(0, .ref a_o)] → W p l e rmX11_readFactor s m args below meth c H locs 0 0 Q (F0 m 193 ls [.int x193_s3, .int (f_every o_deep.toNatClampNeg), .int o_deep, .ref a_every]) := by
              intro x193_s3 H locs ls h hP hD hS hl
              rw [hj193] at h
              refine lv_iand hx hb dX11_readFactor_193 ?_
              obtain ⟨hi_194, h⟩ := ck_e h
              refine va_iast hx hb hK hP hD hS 4 0 rfl rfl hi_194 dX11_readFactor_194 (fun H locs hP hD hS => ?_)
              have hP : va_P D vwCl [(a_values, .inl (cI, 3, .inl f_values)), (a_words, .inl (cI, 3, .inl f_words)), (a_word, .inl (cI, 9, .inl f_word)), (a_some, .inl (cI, 10, .inl f_some)), (a_every, .inl (cI, 10, .inl (upd f_every o_deep.toNatClampNeg ((f_every o_deep.toNatClampNeg) &&& x193_s3)))), (a_o, .inr (10, [.long o_trace, .ref a_text, .int o_typed, .int o_choices, .int o_worlds, .ref a_values, .int z_148.2.1, .int z_148.2.2.1, .int z_148.2.2.2.1, .int z_148.2.2.2.2.1, .int z_148.2.2.2.2.2, w_o_draft, w_o_sayings, w_o_leaves, w_o_signs, .ref a_words, .ref a_word, w_o_isKept, .ref a_some, .ref a_every, .int o_deep, .int o_many, w_o_length, w_o_found, .int o_foundMany])), (a_text, .inl (cB, 200, .inl f_text))] H := hP
              have hD : va_D A [(a_values, .inl (cI, 3, .inl f_values)), (a_words, .inl (cI, 3, .inl f_words)), (a_word, .inl (cI, 9, .inl f_word)), (a_some, .inl (cI, 10, .inl f_some)), (a_every, .inl (cI, 10, .inl (upd f_every o_deep.toNatClampNeg ((f_every o_deep.toNatClampNeg) &&& x193_s3)))), (a_o, .inr (10, [.long o_trace, .ref a_text, .int o_typed, .int o_choices, .int o_worlds, .ref a_values, .int z_148.2.1, .int z_148.2.2.1, .int z_148.2.2.2.1, .int z_148.2.2.2.2.1, .int z_148.2.2.2.2.2, w_o_draft, w_o_sayings, w_o_leaves, w_o_signs, .ref a_words, .ref a_word, w_o_isKept, .ref a_some, .ref a_every, .int o_deep, .int o_many, w_o_length, w_o_found, .int o_foundMany])), (a_text, .inl (cB, 200, .inl f_text))] := hD
              refine lv_aload_n hx hb dX11_readFactor_195 rfl (lv_at hl 0 rfl) ?_
              refine lv_dup hx hb dX11_readFactor_196 rfl ?_
              refine va_get (D := D) (ci := 10) (v := .int o_many) (C := RX11) (T := TX11) (N := 25) hx hb hts u_X11 hown hK hP 5 rfl rfl 21 (by decide) k_f5 (fun _ h9 => h9) rfl dX11_readFactor_197 ?_
              refine lv_iconst (v := 1) hx hb dX11_readFactor_200 ic_1 ?_
              refine lv_iadd hx hb dX11_readFactor_201 ?_
              refine va_put (D := D) (ci := 10) (v := .int (o_many + 1)) (ty := .int) (C := RX11) (T := TX11) (N := 25) hx hb hts u_X11 tyX11 tyX11_ok nmX11 hown hK hP hD hS 5 rfl rfl 21 (by decide) k_f5 (fun _ h9 => h9) rfl (tyX11_ok 21 (by decide)) rfl rfl (Nat.le_of_ble_eq_true rfl) dX11_readFactor_202 (fun H locs hP hD hS => ?_)
              have hP : va_P D vwCl [(a_values, .inl (cI, 3, .inl f_values)), (a_words, .inl (cI, 3, .inl f_words)), (a_word, .inl (cI, 9, .inl f_word)), (a_some, .inl (cI, 10, .inl f_some)), (a_every, .inl (cI, 10, .inl (upd f_every o_deep.toNatClampNeg ((f_every o_deep.toNatClampNeg) &&& x193_s3)))), (a_o, .inr (10, [.long o_trace, .ref a_text, .int o_typed, .int o_choices, .int o_worlds, .ref a_values, .int z_148.2.1, .int z_148.2.2.1, .int z_148.2.2.2.1, .int z_148.2.2.2.2.1, .int z_148.2.2.2.2.2, w_o_draft, w_o_sayings, w_o_leaves, w_o_signs, .ref a_words, .ref a_word, w_o_isKept, .ref a_some, .ref a_every, .int o_deep, .int (o_many + 1), w_o_length, w_o_found, .int o_foundMany])), (a_text, .inl (cB, 200, .inl f_text))] H := hP
              have hD : va_D A [(a_values, .inl (cI, 3, .inl f_values)), (a_words, .inl (cI, 3, .inl f_words)), (a_word, .inl (cI, 9, .inl f_word)), (a_some, .inl (cI, 10, .inl f_some)), (a_every, .inl (cI, 10, .inl (upd f_every o_deep.toNatClampNeg ((f_every o_deep.toNatClampNeg) &&& x193_s3)))), (a_o, .inr (10, [.long o_trace, .ref a_text, .int o_typed, .int o_choices, .int o_worlds, .ref a_values, .int z_148.2.1, .int z_148.2.2.1, .int z_148.2.2.2.1, .int z_148.2.2.2.2.1, .int z_148.2.2.2.2.2, w_o_draft, w_o_sayings, w_o_leaves, w_o_signs, .ref a_words, .ref a_word, w_o_isKept, .ref a_some, .ref a_every, .int o_deep, .int (o_many + 1), w_o_length, w_o_found, .int o_foundMany])), (a_text, .inl (cB, 200, .inl f_text))] := hD
              refine lv_aload_n hx hb dX11_readFactor_205 rfl (lv_at hl 0 rfl) ?_
              obtain ⟨z_206, hc_206, h⟩ := bd_e h
              refine q_vV (As := []) (rest := []) (wF := [(a_values, .inl (cI, 3, .inl f_values)), (a_words, .inl (cI, 3, .inl f_words)), (a_word, .inl (cI, 9, .inl f_word)), (a_o, .inr (10, [.long o_trace, .ref a_text, .int o_typed, .int o_choices, .int o_worlds, .ref a_values, .int z_206.1, .int z_206.2.1, .int z_206.2.2.1, .int z_206.2.2.2.1, .int z_148.2.2.2.2.2, w_o_draft, w_o_sayings, w_o_leaves, w_o_signs, .ref a_words, .ref a_word, w_o_isKept, .ref a_some, .ref a_every, .int z_206.2.2.2.2.1, .int (o_many + 1), w_o_length, w_o_found, .int o_foundMany])), (a_text, .inl (cB, 200, .inl f_text)), (a_some, .inl (cI, 10, .inl f_some)), (a_every, .inl (cI, 10, .inl z_206.2.2.2.2.2))]) hF hA hZ hK hP hD hS (c_X11_close l D cI cB cZ a_o o_trace o_typed o_choices o_worlds (.ref a_values) z_148.2.1 z_148.2.2.1 z_148.2.2.2.1 z_148.2.2.2.2.1 z_148.2.2.2.2.2 w_o_draft w_o_sayings w_o_leaves w_o_signs (.ref a_words) (.ref a_word) w_o_isKept o_deep (o_many + 1) w_o_length w_o_found o_foundMany a_text f_text a_some f_some a_every (upd f_every o_deep.toNatClampNeg ((f_every o_deep.toNatClampNeg) &&& x193_s3)) z_206 hc_206) rfl gX11_readFactor_X11_close hdX11_close ⟨rfl, rfl⟩ (Nat.le_of_ble_eq_true rfl) (Nat.le_of_ble_eq_true rfl) 10 0 rfl rfl [5, 6, 3, 4] [0, 1, 2] rfl rfl rfl rfl (by decide) rfl hl.1 rfl (Nat.le_of_ble_eq_true rfl) (Nat.zero_le _) (Nat.zero_le _) dX11_readFactor_206 (fun H locs hP hD hS => ?_)
              have hz := Option.some.inj h
              subst hz
              exact hret H locs 209 ls (hP.sub [3, 4, 0, 1, 2, 5, 6] rfl) (hD.sub [3, 4, 0, 1, 2, 5, 6] (by decide) rfl) hS dX11_readFactor_209
            refine lv_if_eq (tgt := 186) hx hb dX11_readFactor_173 (by decide) (fun c_173 => ?_) (fun c_173 => ?_)
            · replace h := it_e c_173 h
              refine lv_aload_n hx hb dX11_readFactor_186 rfl (lv_at hl 2 rfl) ?_
              refine lv_iload_n hx hb dX11_readFactor_187 rfl (lv_at hl 3 rfl) ?_
              refine lv_iload hx hb dX11_readFactor_188 (lv_at hl 0 rfl) ?_
              obtain ⟨z_190, hc_190, h⟩ := bd_e h
              refine q_iV (As := [.int o_value, .int z_148.1]) (rest := [.int (f_every o_deep.toNatClampNeg), .int o_deep, .ref a_every]) (wF := [(a_words, .inl (cI, 3, .inl f_words)), (a_word, .inl (cI, 9, .inl f_word)), (a_some, .inl (cI, 10, .inl f_some)), (a_every, .inl (cI, 10, .inl f_every)), (a_text, .inl (cB, 200, .inl f_text)), (a_o, .inr (10, [.long o_trace, .ref a_text, .int o_typed, .int o_choices, .int o_worlds, .ref a_values, .int z_148.2.1, .int z_148.2.2.1, .int z_148.2.2.2.1, .int z_148.2.2.2.2.1, .int z_148.2.2.2.2.2, w_o_draft, w_o_sayings, w_o_leaves, w_o_signs, .ref a_words, .ref a_word, w_o_isKept, .ref a_some, .ref a_every, .int o_deep, .int o_many, w_o_length, w_o_found, .int o_foundMany])), (a_values, .inl (cI, 3, .inl f_values))]) hF hA hZ hK hP hD hS (c_X11_worldsOf l D cI cB cZ a_o o_trace (.ref a_text) o_typed o_choices o_worlds z_148.2.1 z_148.2.2.1 z_148.2.2.2.1 z_148.2.2.2.2.1 z_148.2.2.2.2.2 w_o_draft w_o_sayings w_o_leaves w_o_signs (.ref a_words) (.ref a_word) w_o_isKept (.ref a_some) (.ref a_every) o_deep o_many w_o_length w_o_found o_foundMany a_values f_values o_value z_148.1 z_190 hc_190) rfl gX11_readFactor_X11_worldsOf hdX11_worldsOf ⟨rfl, rfl⟩ (Nat.le_of_ble_eq_true rfl) (Nat.le_of_ble_eq_true rfl) 10 0 rfl rfl [5, 0] [1, 2, 3, 4, 6] rfl rfl rfl rfl (by decide) rfl hl.1 rfl (Nat.le_of_ble_eq_true rfl) (Nat.zero_le _) (Nat.zero_le _) dX11_readFactor_190 (fun H locs hP hD hS => ?_)
              exact Jj193 z_190 H locs ls h (hP.sub [6, 0, 1, 2, 3, 5, 4] rfl) (hD.sub [6, 0, 1, 2, 3, 5, 4] (by decide) rfl) hS (lv_sub hl [2] rfl)
            · replace h := if_e c_173 h
              refine lv_aload_n hx hb dX11_readFactor_176 rfl (lv_at hl 2 rfl) ?_
              refine va_get (D := D) (ci := 10) (v := .ref a_word) (C := RX11) (T := TX11) (N := 25) hx hb hts u_X11 hown hK hP 5 rfl rfl 16 (by decide) k_f6 (fun _ h9 => h9) rfl dX11_readFactor_177 ?_
              refine lv_iload hx hb dX11_readFactor_180 (lv_at hl 0 rfl) ?_
              obtain ⟨hi_182, h⟩ := ck_e h
              refine va_iald hx hb hK hP 2 0 rfl rfl hi_182 dX11_readFactor_182 ?_
              refine lv_goto (tgt := 193) hx hb dX11_readFactor_183 (by decide) ?_
              exact Jj193 (f_word z_148.1.toNatClampNeg) H locs ls h hP hD hS (lv_sub hl [2] rfl)
        refine lv_icmp_ne (tgt := 144) hx hb dX11_readFactor_103 (by decide) (fun c_103 => ?_) (fun c_103 => ?_)
        · replace h := if_e c_103 h
          exact Jj144  H locs ls h hP hD hS hl
        · replace h := it_e c_103 h
          refine lv_aload_n hx hb dX11_readFactor_106 rfl (lv_at hl 0 rfl) ?_
          refine va_get (D := D) (ci := 10) (v := .int z_93.2.2.2.1) (C := RX11) (T := TX11) (N := 25) hx hb hts u_X11 hown hK hP 5 rfl rfl 8 (by decide) k_f0 (fun _ h9 => h9) rfl dX11_readFactor_107 ?_
          refine lv_iconst (v := 3) hx hb dX11_readFactor_110 ic_3 ?_
          refine lv_icmp_ne (tgt := 144) hx hb dX11_readFactor_111 (by decide) (fun c_111 => ?_) (fun c_111 => ?_)
          · replace h := if_e c_111 h
            exact Jj144  H locs ls h hP hD hS hl
          · replace h := it_e c_111 h
            refine lv_aload_n hx hb dX11_readFactor_114 rfl (lv_at hl 0 rfl) ?_
            refine va_get (D := D) (ci := 10) (v := .int z_93.2.2.2.2.1) (C := RX11) (T := TX11) (N := 25) hx hb hts u_X11 hown hK hP 5 rfl rfl 9 (by decide) k_f1 (fun _ h9 => h9) rfl dX11_readFactor_115 ?_
            refine lv_iload_n hx hb dX11_readFactor_118 rfl (lv_at hl 2 rfl) ?_
            obtain ⟨j137, hj137, h⟩ := jn_e h
            have Jj137 : ∀ (x137_s1 : Int32) (H : Heap) (locs : List Loc) (ls : Array Slot), j137 x137_s1 = some z → va_P D vwCl [(a_values, .inl (cI, 3, .inl f_values)), (a_words, .inl (cI, 3, .inl f_words)), (a_word, .inl (cI, 9, .inl f_word)), (a_some, .inl (cI, 10, .inl f_some)), (a_every, .inl (cI, 10, .inl f_every)), (a_o, .inr (10, [.long o_trace, .ref a_text, .int o_typed, .int o_choices, .int o_worlds, .ref a_values, .int z_93.2.1, .int z_93.2.2.1, .int z_93.2.2.2.1, .int z_93.2.2.2.2.1, .int z_93.2.2.2.2.2, w_o_draft, w_o_sayings, w_o_leaves, w_o_signs, .ref a_words, .ref a_word, w_o_isKept, .ref a_some, .ref a_every, .int o_deep, .int o_many, w_o_length, w_o_found, .int o_foundMany])), (a_text, .inl (cB, 200, .inl f_text))] H → va_D A [(a_values, .inl (cI, 3, .inl f_values)), (a_words, .inl (cI, 3, .inl f_words)), (a_word, .inl (cI, 9, .inl f_word)), (a_some, .inl (cI, 10, .inl f_some)), (a_every, .inl (cI, 10, .inl f_every)), (a_o, .inr (10, [.long o_trace, .ref a_text, .int o_typed, .int o_choices, .int o_worlds, .ref a_values, .int z_93.2.1, .int z_93.2.2.1, .int z_93.2.2.2.1, .int z_93.2.2.2.2.1, .int z_93.2.2.2.2.2, w_o_draft, w_o_sayings, w_o_leaves, w_o_signs, .ref a_words, .ref a_word, w_o_isKept, .ref a_some, .ref a_every, .int o_deep, .int o_many, w_o_length, w_o_found, .int o_foundMany])), (a_text, .inl (cB, 200, .inl f_text))] → va_S A s.heap H locs → lv_has ls 5 [(0, .ref a_o), (1, .int o_value), (2, .int x66_s0)] → W p l e rmX11_readFactor s m args below meth c H locs 0 0 Q (F0 m 137 ls [.int x137_s1, .int z_93.2.2.2.2.1]) := by
              intro x137_s1 H locs ls h hP hD hS hl
              rw [hj137] at h
              refine lv_icmp_ge (tgt := 144) hx hb dX11_readFactor_137 (by decide) (fun c_137 => ?_) (fun c_137 => ?_)
              · replace h := it_e c_137 h
                exact Jj144  H locs ls h hP hD hS hl
              · replace h := if_e c_137 h
                refine lv_iconst (v := 1) hx hb dX11_readFactor_140 ic_1 ?_
                refine lv_goto (tgt := 145) hx hb dX11_readFactor_141 (by decide) ?_
                exact Jj145 1 H locs ls h hP hD hS hl
            refine lv_if_eq (tgt := 131) hx hb dX11_readFactor_119 (by decide) (fun c_119 => ?_) (fun c_119 => ?_)
            · replace h := it_e c_119 h
              refine lv_aload_n hx hb dX11_readFactor_131 rfl (lv_at hl 0 rfl) ?_
              refine va_get (D := D) (ci := 10) (v := .ref a_values) (C := RX11) (T := TX11) (N := 25) hx hb hts u_X11 hown hK hP 5 rfl rfl 5 (by decide) k_f7 (fun _ h9 => h9) rfl dX11_readFactor_132 ?_
              refine lv_iload_n hx hb dX11_readFactor_135 rfl (lv_at hl 1 rfl) ?_
              obtain ⟨hi_136, h⟩ := ck_e h
              refine va_iald hx hb hK hP 0 0 rfl rfl hi_136 dX11_readFactor_136 ?_
              exact Jj137 (f_values o_value.toNatClampNeg) H locs ls h hP hD hS hl
            · replace h := if_e c_119 h
              refine lv_aload_n hx hb dX11_readFactor_122 rfl (lv_at hl 0 rfl) ?_
              refine va_get (D := D) (ci := 10) (v := .ref a_words) (C := RX11) (T := TX11) (N := 25) hx hb hts u_X11 hown hK hP 5 rfl rfl 15 (by decide) k_f8 (fun _ h9 => h9) rfl dX11_readFactor_123 ?_
              refine lv_iconst (v := 0) hx hb dX11_readFactor_126 ic_0 ?_
              obtain ⟨hi_127, h⟩ := ck_e h
              refine va_iald hx hb hK hP 1 0 rfl rfl hi_127 dX11_readFactor_127 ?_
              refine lv_goto (tgt := 137) hx hb dX11_readFactor_128 (by decide) ?_
              exact Jj137 (f_words (0 : Int32).toNatClampNeg) H locs ls h hP hD hS hl
      obtain ⟨j93, hj93, h⟩ := jn_e h
      have Jj93 : ∀ (x93_s1 : Int32) (H : Heap) (locs : List Loc) (ls : Array Slot), j93 x93_s1 = some z → va_P D vwCl [(a_o, .inr (10, [.long o_trace, .ref a_text, .int o_typed, .int o_choices, .int o_worlds, .ref a_values, .int o_at, .int o_start, .int o_sort, .int o_value, .int o_fault, w_o_draft, w_o_sayings, w_o_leaves, w_o_signs, .ref a_words, .ref a_word, w_o_isKept, .ref a_some, .ref a_every, .int o_deep, .int o_many, w_o_length, w_o_found, .int o_foundMany])), (a_text, .inl (cB, 200, .inl f_text)), (a_values, .inl (cI, 3, .inl f_values)), (a_words, .inl (cI, 3, .inl f_words)), (a_word, .inl (cI, 9, .inl f_word)), (a_some, .inl (cI, 10, .inl f_some)), (a_every, .inl (cI, 10, .inl f_every))] H → va_D A [(a_o, .inr (10, [.long o_trace, .ref a_text, .int o_typed, .int o_choices, .int o_worlds, .ref a_values, .int o_at, .int o_start, .int o_sort, .int o_value, .int o_fault, w_o_draft, w_o_sayings, w_o_leaves, w_o_signs, .ref a_words, .ref a_word, w_o_isKept, .ref a_some, .ref a_every, .int o_deep, .int o_many, w_o_length, w_o_found, .int o_foundMany])), (a_text, .inl (cB, 200, .inl f_text)), (a_values, .inl (cI, 3, .inl f_values)), (a_words, .inl (cI, 3, .inl f_words)), (a_word, .inl (cI, 9, .inl f_word)), (a_some, .inl (cI, 10, .inl f_some)), (a_every, .inl (cI, 10, .inl f_every))] → va_S A s.heap H locs → lv_has ls 5 [(0, .ref a_o), (1, .int o_value), (2, .int x66_s0)] → W p l e rmX11_readFactor s m args below meth c H locs 0 0 Q (F0 m 93 ls [.int x93_s1, .ref a_o]) := by
        intro x93_s1 H locs ls h hP hD hS hl
        rw [hj93] at h
        obtain ⟨z_93, hc_93, h⟩ := bd_e h
        refine q_iV (As := [.int x93_s1]) (rest := []) (wF := [(a_values, .inl (cI, 3, .inl f_values)), (a_words, .inl (cI, 3, .inl f_words)), (a_word, .inl (cI, 9, .inl f_word)), (a_some, .inl (cI, 10, .inl f_some)), (a_every, .inl (cI, 10, .inl f_every)), (a_o, .inr (10, [.long o_trace, .ref a_text, .int o_typed, .int o_choices, .int o_worlds, .ref a_values, .int z_93.2.1, .int z_93.2.2.1, .int z_93.2.2.2.1, .int z_93.2.2.2.2.1, .int z_93.2.2.2.2.2, w_o_draft, w_o_sayings, w_o_leaves, w_o_signs, .ref a_words, .ref a_word, w_o_isKept, .ref a_some, .ref a_every, .int o_deep, .int o_many, w_o_length, w_o_found, .int o_foundMany])), (a_text, .inl (cB, 200, .inl f_text))]) hF hA hZ hK hP hD hS (c_X11_due l D cI cB cZ a_o o_trace o_typed o_choices o_worlds (.ref a_values) o_at o_start o_sort o_value o_fault w_o_draft w_o_sayings w_o_leaves w_o_signs (.ref a_words) (.ref a_word) w_o_isKept (.ref a_some) (.ref a_every) o_deep o_many w_o_length w_o_found o_foundMany a_text f_text x93_s1 z_93 hc_93) rfl gX11_readFactor_X11_due hdX11_due ⟨rfl, rfl⟩ (Nat.le_of_ble_eq_true rfl) (Nat.le_of_ble_eq_true rfl) 10 0 rfl rfl [0, 1] [2, 3, 4, 5, 6] rfl rfl rfl rfl (by decide) rfl hl.1 rfl (Nat.le_of_ble_eq_true rfl) (Nat.zero_le _) (Nat.zero_le _) dX11_readFactor_93 (fun H locs hP hD hS => ?_)
        refine lv_pop hx hb dX11_readFactor_96 rfl ?_
        refine lv_aload_n hx hb dX11_readFactor_97 rfl (lv_at hl 0 rfl) ?_
        refine va_get (D := D) (ci := 10) (v := .int z_93.2.2.2.2.2) (C := RX11) (T := TX11) (N := 25) hx hb hts u_X11 hown hK hP 5 rfl rfl 10 (by decide) k_f2 (fun _ h9 => h9) rfl dX11_readFactor_98 ?_
        refine lv_bipush (v := (-9)) hx hb dX11_readFactor_101 bc_m9 ?_
        obtain ⟨j144, hj144, h⟩ := jn_e h
        have Jj144 : ∀ (H : Heap) (locs : List Loc) (ls : Array Slot), j144 () = some z → va_P D vwCl [(a_values, .inl (cI, 3, .inl f_values)), (a_words, .inl (cI, 3, .inl f_words)), (a_word, .inl (cI, 9, .inl f_word)), (a_some, .inl (cI, 10, .inl f_some)), (a_every, .inl (cI, 10, .inl f_every)), (a_o, .inr (10, [.long o_trace, .ref a_text, .int o_typed, .int o_choices, .int o_worlds, .ref a_values, .int z_93.2.1, .int z_93.2.2.1, .int z_93.2.2.2.1, .int z_93.2.2.2.2.1, .int z_93.2.2.2.2.2, w_o_draft, w_o_sayings, w_o_leaves, w_o_signs, .ref a_words, .ref a_word, w_o_isKept, .ref a_some, .ref a_every, .int o_deep, .int o_many, w_o_length, w_o_found, .int o_foundMany])), (a_text, .inl (cB, 200, .inl f_text))] H → va_D A [(a_values, .inl (cI, 3, .inl f_values)), (a_words, .inl (cI, 3, .inl f_words)), (a_word, .inl (cI, 9, .inl f_word)), (a_some, .inl (cI, 10, .inl f_some)), (a_every, .inl (cI, 10, .inl f_every)), (a_o, .inr (10, [.long o_trace, .ref a_text, .int o_typed, .int o_choices, .int o_worlds, .ref a_values, .int z_93.2.1, .int z_93.2.2.1, .int z_93.2.2.2.1, .int z_93.2.2.2.2.1, .int z_93.2.2.2.2.2, w_o_draft, w_o_sayings, w_o_leaves, w_o_signs, .ref a_words, .ref a_word, w_o_isKept, .ref a_some, .ref a_every, .int o_deep, .int o_many, w_o_length, w_o_found, .int o_foundMany])), (a_text, .inl (cB, 200, .inl f_text))] → va_S A s.heap H locs → lv_has ls 5 [(0, .ref a_o), (1, .int o_value), (2, .int x66_s0)] → W p l e rmX11_readFactor s m args below meth c H locs 0 0 Q (F0 m 144 ls []) := by
          intro H locs ls h hP hD hS hl
          rw [hj144] at h
          refine lv_iconst (v := 0) hx hb dX11_readFactor_144 ic_0 ?_
          refine lv_istore_n (lv' := [(3, .int 0), (0, .ref a_o), (1, .int o_value), (2, .int x66_s0)]) hx hb dX11_readFactor_145 rfl hl (by decide) rfl (fun ls hl => ?_)
          refine lv_aload_n hx hb dX11_readFactor_146 rfl (lv_at hl 1 rfl) ?_
          refine lv_iload_n hx hb dX11_readFactor_147 rfl (lv_at hl 0 rfl) ?_
          obtain ⟨z_148, hc_148, h⟩ := bd_e h
          refine q_iV (As := [.int 0]) (rest := []) (wF := [(a_values, .inl (cI, 3, .inl f_values)), (a_words, .inl (cI, 3, .inl f_words)), (a_word, .inl (cI, 9, .inl f_word)), (a_some, .inl (cI, 10, .inl f_some)), (a_every, .inl (cI, 10, .inl f_every)), (a_o, .inr (10, [.long o_trace, .ref a_text, .int o_typed, .int o_choices, .int o_worlds, .ref a_values, .int z_148.2.1, .int z_148.2.2.1, .int z_148.2.2.2.1, .int z_148.2.2.2.2.1, .int z_148.2.2.2.2.2, w_o_draft, w_o_sayings, w_o_leaves, w_o_signs, .ref a_words, .ref a_word, w_o_isKept, .ref a_some, .ref a_every, .int o_deep, .int o_many, w_o_length, w_o_found, .int o_foundMany])), (a_text, .inl (cB, 200, .inl f_text))]) hF hA hZ hK hP hD hS (c_X11_due l D cI cB cZ a_o o_trace o_typed o_choices o_worlds (.ref a_values) z_93.2.1 z_93.2.2.1 z_93.2.2.2.1 z_93.2.2.2.2.1 z_93.2.2.2.2.2 w_o_draft w_o_sayings w_o_leaves w_o_signs (.ref a_words) (.ref a_word) w_o_isKept (.ref a_some) (.ref a_every) o_deep o_many w_o_length w_o_found o_foundMany a_text f_text 0 z_148 hc_148) rfl gX11_readFactor_X11_due hdX11_due ⟨rfl, rfl⟩ (Nat.le_of_ble_eq_true rfl) (Nat.le_of_ble_eq_true rfl) 10 0 rfl rfl [5, 6] [0, 1, 2, 3, 4] rfl rfl rfl rfl (by decide) rfl hl.1 rfl (Nat.le_of_ble_eq_true rfl) (Nat.zero_le _) (Nat.zero_le _) dX11_readFactor_148 (fun H locs hP hD hS => ?_)
          refine lv_istore (lv' := [(4, .int z_148.1), (3, .int 0), (0, .ref a_o), (1, .int o_value), (2, .int x66_s0)]) hx hb dX11_readFactor_151 hl (by decide) rfl (fun ls hl => ?_)
          refine lv_aload_n hx hb dX11_readFactor_153 rfl (lv_at hl 2 rfl) ?_
          refine va_get (D := D) (ci := 10) (v := .int z_148.2.2.2.2.2) (C := RX11) (T := TX11) (N := 25) hx hb hts u_X11 hown hK hP 5 rfl rfl 10 (by decide) k_f2 (fun _ h9 => h9) rfl dX11_readFactor_154 ?_
          refine lv_bipush (v := (-9)) hx hb dX11_readFactor_157 bc_m9 ?_
          refine lv_icmp_ne (tgt := 209) hx hb dX11_readFactor_159 (by decide) (fun c_159 => ?_) (fun c_159 => ?_)
          · replace h := if_e c_159 h
            have hz := Option.some.inj h
            subst hz
            exact hret H locs 209 ls (hP.sub [5, 6, 0, 1, 2, 3, 4] rfl) (hD.sub [5, 6, 0, 1, 2, 3, 4] (by decide) rfl) hS dX11_readFactor_209
          · replace h := it_e c_159 h
            refine lv_aload_n hx hb dX11_readFactor_162 rfl (lv_at hl 2 rfl) ?_
            refine va_get (D := D) (ci := 10) (v := .ref a_every) (C := RX11) (T := TX11) (N := 25) hx hb hts u_X11 hown hK hP 5 rfl rfl 19 (by decide) k_f3 (fun _ h9 => h9) rfl dX11_readFactor_163 ?_
            refine lv_aload_n hx hb dX11_readFactor_166 rfl (lv_at hl 2 rfl) ?_
            refine va_get (D := D) (ci := 10) (v := .int o_deep) (C := RX11) (T := TX11) (N := 25) hx hb hts u_X11 hown hK hP 5 rfl rfl 20 (by decide) k_f4 (fun _ h9 => h9) rfl dX11_readFactor_167 ?_
            refine lv_dup2_11 hx hb dX11_readFactor_170 rfl rfl ?_
            obtain ⟨hi_171, h⟩ := ck_e h
            refine va_iald hx hb hK hP 4 0 rfl rfl hi_171 dX11_readFactor_171 ?_
            refine lv_iload_n hx hb dX11_readFactor_172 rfl (lv_at hl 4 rfl) ?_
            obtain ⟨j193, hj193, h⟩ := jn_e h
            have Jj193 : ∀ (x193_s3 : Int32) (H : Heap) (locs : List Loc) (ls : Array Slot), j193 x193_s3 = some z → va_P D vwCl [(a_values, .inl (cI, 3, .inl f_values)), (a_words, .inl (cI, 3, .inl f_words)), (a_word, .inl (cI, 9, .inl f_word)), (a_some, .inl (cI, 10, .inl f_some)), (a_every, .inl (cI, 10, .inl f_every)), (a_o, .inr (10, [.long o_trace, .ref a_text, .int o_typed, .int o_choices, .int o_worlds, .ref a_values, .int z_148.2.1, .int z_148.2.2.1, .int z_148.2.2.2.1, .int z_148.2.2.2.2.1, .int z_148.2.2.2.2.2, w_o_draft, w_o_sayings, w_o_leaves, w_o_signs, .ref a_words, .ref a_word, w_o_isKept, .ref a_some, .ref a_every, .int o_deep, .int o_many, w_o_length, w_o_found, .int o_foundMany])), (a_text, .inl (cB, 200, .inl f_text))] H → va_D A [(a_values, .inl (cI, 3, .inl f_values)), (a_words, .inl (cI, 3, .inl f_words)), (a_word, .inl (cI, 9, .inl f_word)), (a_some, .inl (cI, 10, .inl f_some)), (a_every, .inl (cI, 10, .inl f_every)), (a_o, .inr (10, [.long o_trace, .ref a_text, .int o_typed, .int o_choices, .int o_worlds, .ref a_values, .int z_148.2.1, .int z_148.2.2.1, .int z_148.2.2.2.1, .int z_148.2.2.2.2.1, .int z_148.2.2.2.2.2, w_o_draft, w_o_sayings, w_o_leaves, w_o_signs, .ref a_words, .ref a_word, w_o_isKept, .ref a_some, .ref a_every, .int o_deep, .int o_many, w_o_length, w_o_found, .int o_foundMany])), (a_text, .inl (cB, 200, .inl f_text))] → va_S A s.heap H locs → lv_has ls 5 [(0, .ref a_o)] → W p l e rmX11_readFactor s m args below meth c H locs 0 0 Q (F0 m 193 ls [.int x193_s3, .int (f_every o_deep.toNatClampNeg), .int o_deep, .ref a_every]) := by
              intro x193_s3 H locs ls h hP hD hS hl
              rw [hj193] at h
              refine lv_iand hx hb dX11_readFactor_193 ?_
              obtain ⟨hi_194, h⟩ := ck_e h
              refine va_iast hx hb hK hP hD hS 4 0 rfl rfl hi_194 dX11_readFactor_194 (fun H locs hP hD hS => ?_)
              have hP : va_P D vwCl [(a_values, .inl (cI, 3, .inl f_values)), (a_words, .inl (cI, 3, .inl f_words)), (a_word, .inl (cI, 9, .inl f_word)), (a_some, .inl (cI, 10, .inl f_some)), (a_every, .inl (cI, 10, .inl (upd f_every o_deep.toNatClampNeg ((f_every o_deep.toNatClampNeg) &&& x193_s3)))), (a_o, .inr (10, [.long o_trace, .ref a_text, .int o_typed, .int o_choices, .int o_worlds, .ref a_values, .int z_148.2.1, .int z_148.2.2.1, .int z_148.2.2.2.1, .int z_148.2.2.2.2.1, .int z_148.2.2.2.2.2, w_o_draft, w_o_sayings, w_o_leaves, w_o_signs, .ref a_words, .ref a_word, w_o_isKept, .ref a_some, .ref a_every, .int o_deep, .int o_many, w_o_length, w_o_found, .int o_foundMany])), (a_text, .inl (cB, 200, .inl f_text))] H := hP
              have hD : va_D A [(a_values, .inl (cI, 3, .inl f_values)), (a_words, .inl (cI, 3, .inl f_words)), (a_word, .inl (cI, 9, .inl f_word)), (a_some, .inl (cI, 10, .inl f_some)), (a_every, .inl (cI, 10, .inl (upd f_every o_deep.toNatClampNeg ((f_every o_deep.toNatClampNeg) &&& x193_s3)))), (a_o, .inr (10, [.long o_trace, .ref a_text, .int o_typed, .int o_choices, .int o_worlds, .ref a_values, .int z_148.2.1, .int z_148.2.2.1, .int z_148.2.2.2.1, .int z_148.2.2.2.2.1, .int z_148.2.2.2.2.2, w_o_draft, w_o_sayings, w_o_leaves, w_o_signs, .ref a_words, .ref a_word, w_o_isKept, .ref a_some, .ref a_every, .int o_deep, .int o_many, w_o_length, w_o_found, .int o_foundMany])), (a_text, .inl (cB, 200, .inl f_text))] := hD
              refine lv_aload_n hx hb dX11_readFactor_195 rfl (lv_at hl 0 rfl) ?_
              refine lv_dup hx hb dX11_readFactor_196 rfl ?_
              refine va_get (D := D) (ci := 10) (v := .int o_many) (C := RX11) (T := TX11) (N := 25) hx hb hts u_X11 hown hK hP 5 rfl rfl 21 (by decide) k_f5 (fun _ h9 => h9) rfl dX11_readFactor_197 ?_
              refine lv_iconst (v := 1) hx hb dX11_readFactor_200 ic_1 ?_
              refine lv_iadd hx hb dX11_readFactor_201 ?_
              refine va_put (D := D) (ci := 10) (v := .int (o_many + 1)) (ty := .int) (C := RX11) (T := TX11) (N := 25) hx hb hts u_X11 tyX11 tyX11_ok nmX11 hown hK hP hD hS 5 rfl rfl 21 (by decide) k_f5 (fun _ h9 => h9) rfl (tyX11_ok 21 (by decide)) rfl rfl (Nat.le_of_ble_eq_true rfl) dX11_readFactor_202 (fun H locs hP hD hS => ?_)
              have hP : va_P D vwCl [(a_values, .inl (cI, 3, .inl f_values)), (a_words, .inl (cI, 3, .inl f_words)), (a_word, .inl (cI, 9, .inl f_word)), (a_some, .inl (cI, 10, .inl f_some)), (a_every, .inl (cI, 10, .inl (upd f_every o_deep.toNatClampNeg ((f_every o_deep.toNatClampNeg) &&& x193_s3)))), (a_o, .inr (10, [.long o_trace, .ref a_text, .int o_typed, .int o_choices, .int o_worlds, .ref a_values, .int z_148.2.1, .int z_148.2.2.1, .int z_148.2.2.2.1, .int z_148.2.2.2.2.1, .int z_148.2.2.2.2.2, w_o_draft, w_o_sayings, w_o_leaves, w_o_signs, .ref a_words, .ref a_word, w_o_isKept, .ref a_some, .ref a_every, .int o_deep, .int (o_many + 1), w_o_length, w_o_found, .int o_foundMany])), (a_text, .inl (cB, 200, .inl f_text))] H := hP
              have hD : va_D A [(a_values, .inl (cI, 3, .inl f_values)), (a_words, .inl (cI, 3, .inl f_words)), (a_word, .inl (cI, 9, .inl f_word)), (a_some, .inl (cI, 10, .inl f_some)), (a_every, .inl (cI, 10, .inl (upd f_every o_deep.toNatClampNeg ((f_every o_deep.toNatClampNeg) &&& x193_s3)))), (a_o, .inr (10, [.long o_trace, .ref a_text, .int o_typed, .int o_choices, .int o_worlds, .ref a_values, .int z_148.2.1, .int z_148.2.2.1, .int z_148.2.2.2.1, .int z_148.2.2.2.2.1, .int z_148.2.2.2.2.2, w_o_draft, w_o_sayings, w_o_leaves, w_o_signs, .ref a_words, .ref a_word, w_o_isKept, .ref a_some, .ref a_every, .int o_deep, .int (o_many + 1), w_o_length, w_o_found, .int o_foundMany])), (a_text, .inl (cB, 200, .inl f_text))] := hD
              refine lv_aload_n hx hb dX11_readFactor_205 rfl (lv_at hl 0 rfl) ?_
              obtain ⟨z_206, hc_206, h⟩ := bd_e h
              refine q_vV (As := []) (rest := []) (wF := [(a_values, .inl (cI, 3, .inl f_values)), (a_words, .inl (cI, 3, .inl f_words)), (a_word, .inl (cI, 9, .inl f_word)), (a_o, .inr (10, [.long o_trace, .ref a_text, .int o_typed, .int o_choices, .int o_worlds, .ref a_values, .int z_206.1, .int z_206.2.1, .int z_206.2.2.1, .int z_206.2.2.2.1, .int z_148.2.2.2.2.2, w_o_draft, w_o_sayings, w_o_leaves, w_o_signs, .ref a_words, .ref a_word, w_o_isKept, .ref a_some, .ref a_every, .int z_206.2.2.2.2.1, .int (o_many + 1), w_o_length, w_o_found, .int o_foundMany])), (a_text, .inl (cB, 200, .inl f_text)), (a_some, .inl (cI, 10, .inl f_some)), (a_every, .inl (cI, 10, .inl z_206.2.2.2.2.2))]) hF hA hZ hK hP hD hS (c_X11_close l D cI cB cZ a_o o_trace o_typed o_choices o_worlds (.ref a_values) z_148.2.1 z_148.2.2.1 z_148.2.2.2.1 z_148.2.2.2.2.1 z_148.2.2.2.2.2 w_o_draft w_o_sayings w_o_leaves w_o_signs (.ref a_words) (.ref a_word) w_o_isKept o_deep (o_many + 1) w_o_length w_o_found o_foundMany a_text f_text a_some f_some a_every (upd f_every o_deep.toNatClampNeg ((f_every o_deep.toNatClampNeg) &&& x193_s3)) z_206 hc_206) rfl gX11_readFactor_X11_close hdX11_close ⟨rfl, rfl⟩ (Nat.le_of_ble_eq_true rfl) (Nat.le_of_ble_eq_true rfl) 10 0 rfl rfl [5, 6, 3, 4] [0, 1, 2] rfl rfl rfl rfl (by decide) rfl hl.1 rfl (Nat.le_of_ble_eq_true rfl) (Nat.zero_le _) (Nat.zero_le _) dX11_readFactor_206 (fun H locs hP hD hS => ?_)
              have hz := Option.some.inj h
              subst hz
              exact hret H locs 209 ls (hP.sub [3, 4, 0, 1, 2, 5, 6] rfl) (hD.sub [3, 4, 0, 1, 2, 5, 6] (by decide) rfl) hS dX11_readFactor_209
            refine lv_if_eq (tgt := 186) hx hb dX11_readFactor_173 (by decide) (fun c_173 => ?_) (fun c_173 => ?_)
            · replace h := it_e c_173 h
              refine lv_aload_n hx hb dX11_readFactor_186 rfl (lv_at hl 2 rfl) ?_
              refine lv_iload_n hx hb dX11_readFactor_187 rfl (lv_at hl 3 rfl) ?_
              refine lv_iload hx hb dX11_readFactor_188 (lv_at hl 0 rfl) ?_
              obtain ⟨z_190, hc_190, h⟩ := bd_e h
              refine q_iV (As := [.int o_value, .int z_148.1]) (rest := [.int (f_every o_deep.toNatClampNeg), .int o_deep, .ref a_every]) (wF := [(a_words, .inl (cI, 3, .inl f_words)), (a_word, .inl (cI, 9, .inl f_word)), (a_some, .inl (cI, 10, .inl f_some)), (a_every, .inl (cI, 10, .inl f_every)), (a_text, .inl (cB, 200, .inl f_text)), (a_o, .inr (10, [.long o_trace, .ref a_text, .int o_typed, .int o_choices, .int o_worlds, .ref a_values, .int z_148.2.1, .int z_148.2.2.1, .int z_148.2.2.2.1, .int z_148.2.2.2.2.1, .int z_148.2.2.2.2.2, w_o_draft, w_o_sayings, w_o_leaves, w_o_signs, .ref a_words, .ref a_word, w_o_isKept, .ref a_some, .ref a_every, .int o_deep, .int o_many, w_o_length, w_o_found, .int o_foundMany])), (a_values, .inl (cI, 3, .inl f_values))]) hF hA hZ hK hP hD hS (c_X11_worldsOf l D cI cB cZ a_o o_trace (.ref a_text) o_typed o_choices o_worlds z_148.2.1 z_148.2.2.1 z_148.2.2.2.1 z_148.2.2.2.2.1 z_148.2.2.2.2.2 w_o_draft w_o_sayings w_o_leaves w_o_signs (.ref a_words) (.ref a_word) w_o_isKept (.ref a_some) (.ref a_every) o_deep o_many w_o_length w_o_found o_foundMany a_values f_values o_value z_148.1 z_190 hc_190) rfl gX11_readFactor_X11_worldsOf hdX11_worldsOf ⟨rfl, rfl⟩ (Nat.le_of_ble_eq_true rfl) (Nat.le_of_ble_eq_true rfl) 10 0 rfl rfl [5, 0] [1, 2, 3, 4, 6] rfl rfl rfl rfl (by decide) rfl hl.1 rfl (Nat.le_of_ble_eq_true rfl) (Nat.zero_le _) (Nat.zero_le _) dX11_readFactor_190 (fun H locs hP hD hS => ?_)
              exact Jj193 z_190 H locs ls h (hP.sub [6, 0, 1, 2, 3, 5, 4] rfl) (hD.sub [6, 0, 1, 2, 3, 5, 4] (by decide) rfl) hS (lv_sub hl [2] rfl)
            · replace h := if_e c_173 h
              refine lv_aload_n hx hb dX11_readFactor_176 rfl (lv_at hl 2 rfl) ?_
              refine va_get (D := D) (ci := 10) (v := .ref a_word) (C := RX11) (T := TX11) (N := 25) hx hb hts u_X11 hown hK hP 5 rfl rfl 16 (by decide) k_f6 (fun _ h9 => h9) rfl dX11_readFactor_177 ?_
              refine lv_iload hx hb dX11_readFactor_180 (lv_at hl 0 rfl) ?_
              obtain ⟨hi_182, h⟩ := ck_e h
              refine va_iald hx hb hK hP 2 0 rfl rfl hi_182 dX11_readFactor_182 ?_
              refine lv_goto (tgt := 193) hx hb dX11_readFactor_183 (by decide) ?_
              exact Jj193 (f_word z_148.1.toNatClampNeg) H locs ls h hP hD hS (lv_sub hl [2] rfl)
        obtain ⟨j145, hj145, h⟩ := jn_e h
        have Jj145 : ∀ (x145_s0 : Int32) (H : Heap) (locs : List Loc) (ls : Array Slot), j145 x145_s0 = some z → va_P D vwCl [(a_values, .inl (cI, 3, .inl f_values)), (a_words, .inl (cI, 3, .inl f_words)), (a_word, .inl (cI, 9, .inl f_word)), (a_some, .inl (cI, 10, .inl f_some)), (a_every, .inl (cI, 10, .inl f_every)), (a_o, .inr (10, [.long o_trace, .ref a_text, .int o_typed, .int o_choices, .int o_worlds, .ref a_values, .int z_93.2.1, .int z_93.2.2.1, .int z_93.2.2.2.1, .int z_93.2.2.2.2.1, .int z_93.2.2.2.2.2, w_o_draft, w_o_sayings, w_o_leaves, w_o_signs, .ref a_words, .ref a_word, w_o_isKept, .ref a_some, .ref a_every, .int o_deep, .int o_many, w_o_length, w_o_found, .int o_foundMany])), (a_text, .inl (cB, 200, .inl f_text))] H → va_D A [(a_values, .inl (cI, 3, .inl f_values)), (a_words, .inl (cI, 3, .inl f_words)), (a_word, .inl (cI, 9, .inl f_word)), (a_some, .inl (cI, 10, .inl f_some)), (a_every, .inl (cI, 10, .inl f_every)), (a_o, .inr (10, [.long o_trace, .ref a_text, .int o_typed, .int o_choices, .int o_worlds, .ref a_values, .int z_93.2.1, .int z_93.2.2.1, .int z_93.2.2.2.1, .int z_93.2.2.2.2.1, .int z_93.2.2.2.2.2, w_o_draft, w_o_sayings, w_o_leaves, w_o_signs, .ref a_words, .ref a_word, w_o_isKept, .ref a_some, .ref a_every, .int o_deep, .int o_many, w_o_length, w_o_found, .int o_foundMany])), (a_text, .inl (cB, 200, .inl f_text))] → va_S A s.heap H locs → lv_has ls 5 [(0, .ref a_o), (1, .int o_value), (2, .int x66_s0)] → W p l e rmX11_readFactor s m args below meth c H locs 0 0 Q (F0 m 145 ls [.int x145_s0]) := by
          intro x145_s0 H locs ls h hP hD hS hl
          rw [hj145] at h
          refine lv_istore_n (lv' := [(3, .int x145_s0), (0, .ref a_o), (1, .int o_value), (2, .int x66_s0)]) hx hb dX11_readFactor_145 rfl hl (by decide) rfl (fun ls hl => ?_)
          refine lv_aload_n hx hb dX11_readFactor_146 rfl (lv_at hl 1 rfl) ?_
          refine lv_iload_n hx hb dX11_readFactor_147 rfl (lv_at hl 0 rfl) ?_
          obtain ⟨z_148, hc_148, h⟩ := bd_e h
          refine q_iV (As := [.int x145_s0]) (rest := []) (wF := [(a_values, .inl (cI, 3, .inl f_values)), (a_words, .inl (cI, 3, .inl f_words)), (a_word, .inl (cI, 9, .inl f_word)), (a_some, .inl (cI, 10, .inl f_some)), (a_every, .inl (cI, 10, .inl f_every)), (a_o, .inr (10, [.long o_trace, .ref a_text, .int o_typed, .int o_choices, .int o_worlds, .ref a_values, .int z_148.2.1, .int z_148.2.2.1, .int z_148.2.2.2.1, .int z_148.2.2.2.2.1, .int z_148.2.2.2.2.2, w_o_draft, w_o_sayings, w_o_leaves, w_o_signs, .ref a_words, .ref a_word, w_o_isKept, .ref a_some, .ref a_every, .int o_deep, .int o_many, w_o_length, w_o_found, .int o_foundMany])), (a_text, .inl (cB, 200, .inl f_text))]) hF hA hZ hK hP hD hS (c_X11_due l D cI cB cZ a_o o_trace o_typed o_choices o_worlds (.ref a_values) z_93.2.1 z_93.2.2.1 z_93.2.2.2.1 z_93.2.2.2.2.1 z_93.2.2.2.2.2 w_o_draft w_o_sayings w_o_leaves w_o_signs (.ref a_words) (.ref a_word) w_o_isKept (.ref a_some) (.ref a_every) o_deep o_many w_o_length w_o_found o_foundMany a_text f_text x145_s0 z_148 hc_148) rfl gX11_readFactor_X11_due hdX11_due ⟨rfl, rfl⟩ (Nat.le_of_ble_eq_true rfl) (Nat.le_of_ble_eq_true rfl) 10 0 rfl rfl [5, 6] [0, 1, 2, 3, 4] rfl rfl rfl rfl (by decide) rfl hl.1 rfl (Nat.le_of_ble_eq_true rfl) (Nat.zero_le _) (Nat.zero_le _) dX11_readFactor_148 (fun H locs hP hD hS => ?_)
          refine lv_istore (lv' := [(4, .int z_148.1), (3, .int x145_s0), (0, .ref a_o), (1, .int o_value), (2, .int x66_s0)]) hx hb dX11_readFactor_151 hl (by decide) rfl (fun ls hl => ?_)
          refine lv_aload_n hx hb dX11_readFactor_153 rfl (lv_at hl 2 rfl) ?_
          refine va_get (D := D) (ci := 10) (v := .int z_148.2.2.2.2.2) (C := RX11) (T := TX11) (N := 25) hx hb hts u_X11 hown hK hP 5 rfl rfl 10 (by decide) k_f2 (fun _ h9 => h9) rfl dX11_readFactor_154 ?_
          refine lv_bipush (v := (-9)) hx hb dX11_readFactor_157 bc_m9 ?_
          refine lv_icmp_ne (tgt := 209) hx hb dX11_readFactor_159 (by decide) (fun c_159 => ?_) (fun c_159 => ?_)
          · replace h := if_e c_159 h
            have hz := Option.some.inj h
            subst hz
            exact hret H locs 209 ls (hP.sub [5, 6, 0, 1, 2, 3, 4] rfl) (hD.sub [5, 6, 0, 1, 2, 3, 4] (by decide) rfl) hS dX11_readFactor_209
          · replace h := it_e c_159 h
            refine lv_aload_n hx hb dX11_readFactor_162 rfl (lv_at hl 2 rfl) ?_
            refine va_get (D := D) (ci := 10) (v := .ref a_every) (C := RX11) (T := TX11) (N := 25) hx hb hts u_X11 hown hK hP 5 rfl rfl 19 (by decide) k_f3 (fun _ h9 => h9) rfl dX11_readFactor_163 ?_
            refine lv_aload_n hx hb dX11_readFactor_166 rfl (lv_at hl 2 rfl) ?_
            refine va_get (D := D) (ci := 10) (v := .int o_deep) (C := RX11) (T := TX11) (N := 25) hx hb hts u_X11 hown hK hP 5 rfl rfl 20 (by decide) k_f4 (fun _ h9 => h9) rfl dX11_readFactor_167 ?_
            refine lv_dup2_11 hx hb dX11_readFactor_170 rfl rfl ?_
            obtain ⟨hi_171, h⟩ := ck_e h
            refine va_iald hx hb hK hP 4 0 rfl rfl hi_171 dX11_readFactor_171 ?_
            refine lv_iload_n hx hb dX11_readFactor_172 rfl (lv_at hl 4 rfl) ?_
            obtain ⟨j193, hj193, h⟩ := jn_e h
            have Jj193 : ∀ (x193_s3 : Int32) (H : Heap) (locs : List Loc) (ls : Array Slot), j193 x193_s3 = some z → va_P D vwCl [(a_values, .inl (cI, 3, .inl f_values)), (a_words, .inl (cI, 3, .inl f_words)), (a_word, .inl (cI, 9, .inl f_word)), (a_some, .inl (cI, 10, .inl f_some)), (a_every, .inl (cI, 10, .inl f_every)), (a_o, .inr (10, [.long o_trace, .ref a_text, .int o_typed, .int o_choices, .int o_worlds, .ref a_values, .int z_148.2.1, .int z_148.2.2.1, .int z_148.2.2.2.1, .int z_148.2.2.2.2.1, .int z_148.2.2.2.2.2, w_o_draft, w_o_sayings, w_o_leaves, w_o_signs, .ref a_words, .ref a_word, w_o_isKept, .ref a_some, .ref a_every, .int o_deep, .int o_many, w_o_length, w_o_found, .int o_foundMany])), (a_text, .inl (cB, 200, .inl f_text))] H → va_D A [(a_values, .inl (cI, 3, .inl f_values)), (a_words, .inl (cI, 3, .inl f_words)), (a_word, .inl (cI, 9, .inl f_word)), (a_some, .inl (cI, 10, .inl f_some)), (a_every, .inl (cI, 10, .inl f_every)), (a_o, .inr (10, [.long o_trace, .ref a_text, .int o_typed, .int o_choices, .int o_worlds, .ref a_values, .int z_148.2.1, .int z_148.2.2.1, .int z_148.2.2.2.1, .int z_148.2.2.2.2.1, .int z_148.2.2.2.2.2, w_o_draft, w_o_sayings, w_o_leaves, w_o_signs, .ref a_words, .ref a_word, w_o_isKept, .ref a_some, .ref a_every, .int o_deep, .int o_many, w_o_length, w_o_found, .int o_foundMany])), (a_text, .inl (cB, 200, .inl f_text))] → va_S A s.heap H locs → lv_has ls 5 [(0, .ref a_o)] → W p l e rmX11_readFactor s m args below meth c H locs 0 0 Q (F0 m 193 ls [.int x193_s3, .int (f_every o_deep.toNatClampNeg), .int o_deep, .ref a_every]) := by
              intro x193_s3 H locs ls h hP hD hS hl
              rw [hj193] at h
              refine lv_iand hx hb dX11_readFactor_193 ?_
              obtain ⟨hi_194, h⟩ := ck_e h
              refine va_iast hx hb hK hP hD hS 4 0 rfl rfl hi_194 dX11_readFactor_194 (fun H locs hP hD hS => ?_)
              have hP : va_P D vwCl [(a_values, .inl (cI, 3, .inl f_values)), (a_words, .inl (cI, 3, .inl f_words)), (a_word, .inl (cI, 9, .inl f_word)), (a_some, .inl (cI, 10, .inl f_some)), (a_every, .inl (cI, 10, .inl (upd f_every o_deep.toNatClampNeg ((f_every o_deep.toNatClampNeg) &&& x193_s3)))), (a_o, .inr (10, [.long o_trace, .ref a_text, .int o_typed, .int o_choices, .int o_worlds, .ref a_values, .int z_148.2.1, .int z_148.2.2.1, .int z_148.2.2.2.1, .int z_148.2.2.2.2.1, .int z_148.2.2.2.2.2, w_o_draft, w_o_sayings, w_o_leaves, w_o_signs, .ref a_words, .ref a_word, w_o_isKept, .ref a_some, .ref a_every, .int o_deep, .int o_many, w_o_length, w_o_found, .int o_foundMany])), (a_text, .inl (cB, 200, .inl f_text))] H := hP
              have hD : va_D A [(a_values, .inl (cI, 3, .inl f_values)), (a_words, .inl (cI, 3, .inl f_words)), (a_word, .inl (cI, 9, .inl f_word)), (a_some, .inl (cI, 10, .inl f_some)), (a_every, .inl (cI, 10, .inl (upd f_every o_deep.toNatClampNeg ((f_every o_deep.toNatClampNeg) &&& x193_s3)))), (a_o, .inr (10, [.long o_trace, .ref a_text, .int o_typed, .int o_choices, .int o_worlds, .ref a_values, .int z_148.2.1, .int z_148.2.2.1, .int z_148.2.2.2.1, .int z_148.2.2.2.2.1, .int z_148.2.2.2.2.2, w_o_draft, w_o_sayings, w_o_leaves, w_o_signs, .ref a_words, .ref a_word, w_o_isKept, .ref a_some, .ref a_every, .int o_deep, .int o_many, w_o_length, w_o_found, .int o_foundMany])), (a_text, .inl (cB, 200, .inl f_text))] := hD
              refine lv_aload_n hx hb dX11_readFactor_195 rfl (lv_at hl 0 rfl) ?_
              refine lv_dup hx hb dX11_readFactor_196 rfl ?_
              refine va_get (D := D) (ci := 10) (v := .int o_many) (C := RX11) (T := TX11) (N := 25) hx hb hts u_X11 hown hK hP 5 rfl rfl 21 (by decide) k_f5 (fun _ h9 => h9) rfl dX11_readFactor_197 ?_
              refine lv_iconst (v := 1) hx hb dX11_readFactor_200 ic_1 ?_
              refine lv_iadd hx hb dX11_readFactor_201 ?_
              refine va_put (D := D) (ci := 10) (v := .int (o_many + 1)) (ty := .int) (C := RX11) (T := TX11) (N := 25) hx hb hts u_X11 tyX11 tyX11_ok nmX11 hown hK hP hD hS 5 rfl rfl 21 (by decide) k_f5 (fun _ h9 => h9) rfl (tyX11_ok 21 (by decide)) rfl rfl (Nat.le_of_ble_eq_true rfl) dX11_readFactor_202 (fun H locs hP hD hS => ?_)
              have hP : va_P D vwCl [(a_values, .inl (cI, 3, .inl f_values)), (a_words, .inl (cI, 3, .inl f_words)), (a_word, .inl (cI, 9, .inl f_word)), (a_some, .inl (cI, 10, .inl f_some)), (a_every, .inl (cI, 10, .inl (upd f_every o_deep.toNatClampNeg ((f_every o_deep.toNatClampNeg) &&& x193_s3)))), (a_o, .inr (10, [.long o_trace, .ref a_text, .int o_typed, .int o_choices, .int o_worlds, .ref a_values, .int z_148.2.1, .int z_148.2.2.1, .int z_148.2.2.2.1, .int z_148.2.2.2.2.1, .int z_148.2.2.2.2.2, w_o_draft, w_o_sayings, w_o_leaves, w_o_signs, .ref a_words, .ref a_word, w_o_isKept, .ref a_some, .ref a_every, .int o_deep, .int (o_many + 1), w_o_length, w_o_found, .int o_foundMany])), (a_text, .inl (cB, 200, .inl f_text))] H := hP
              have hD : va_D A [(a_values, .inl (cI, 3, .inl f_values)), (a_words, .inl (cI, 3, .inl f_words)), (a_word, .inl (cI, 9, .inl f_word)), (a_some, .inl (cI, 10, .inl f_some)), (a_every, .inl (cI, 10, .inl (upd f_every o_deep.toNatClampNeg ((f_every o_deep.toNatClampNeg) &&& x193_s3)))), (a_o, .inr (10, [.long o_trace, .ref a_text, .int o_typed, .int o_choices, .int o_worlds, .ref a_values, .int z_148.2.1, .int z_148.2.2.1, .int z_148.2.2.2.1, .int z_148.2.2.2.2.1, .int z_148.2.2.2.2.2, w_o_draft, w_o_sayings, w_o_leaves, w_o_signs, .ref a_words, .ref a_word, w_o_isKept, .ref a_some, .ref a_every, .int o_deep, .int (o_many + 1), w_o_length, w_o_found, .int o_foundMany])), (a_text, .inl (cB, 200, .inl f_text))] := hD
              refine lv_aload_n hx hb dX11_readFactor_205 rfl (lv_at hl 0 rfl) ?_
              obtain ⟨z_206, hc_206, h⟩ := bd_e h
              refine q_vV (As := []) (rest := []) (wF := [(a_values, .inl (cI, 3, .inl f_values)), (a_words, .inl (cI, 3, .inl f_words)), (a_word, .inl (cI, 9, .inl f_word)), (a_o, .inr (10, [.long o_trace, .ref a_text, .int o_typed, .int o_choices, .int o_worlds, .ref a_values, .int z_206.1, .int z_206.2.1, .int z_206.2.2.1, .int z_206.2.2.2.1, .int z_148.2.2.2.2.2, w_o_draft, w_o_sayings, w_o_leaves, w_o_signs, .ref a_words, .ref a_word, w_o_isKept, .ref a_some, .ref a_every, .int z_206.2.2.2.2.1, .int (o_many + 1), w_o_length, w_o_found, .int o_foundMany])), (a_text, .inl (cB, 200, .inl f_text)), (a_some, .inl (cI, 10, .inl f_some)), (a_every, .inl (cI, 10, .inl z_206.2.2.2.2.2))]) hF hA hZ hK hP hD hS (c_X11_close l D cI cB cZ a_o o_trace o_typed o_choices o_worlds (.ref a_values) z_148.2.1 z_148.2.2.1 z_148.2.2.2.1 z_148.2.2.2.2.1 z_148.2.2.2.2.2 w_o_draft w_o_sayings w_o_leaves w_o_signs (.ref a_words) (.ref a_word) w_o_isKept o_deep (o_many + 1) w_o_length w_o_found o_foundMany a_text f_text a_some f_some a_every (upd f_every o_deep.toNatClampNeg ((f_every o_deep.toNatClampNeg) &&& x193_s3)) z_206 hc_206) rfl gX11_readFactor_X11_close hdX11_close ⟨rfl, rfl⟩ (Nat.le_of_ble_eq_true rfl) (Nat.le_of_ble_eq_true rfl) 10 0 rfl rfl [5, 6, 3, 4] [0, 1, 2] rfl rfl rfl rfl (by decide) rfl hl.1 rfl (Nat.le_of_ble_eq_true rfl) (Nat.zero_le _) (Nat.zero_le _) dX11_readFactor_206 (fun H locs hP hD hS => ?_)
              have hz := Option.some.inj h
              subst hz
              exact hret H locs 209 ls (hP.sub [3, 4, 0, 1, 2, 5, 6] rfl) (hD.sub [3, 4, 0, 1, 2, 5, 6] (by decide) rfl) hS dX11_readFactor_209
            refine lv_if_eq (tgt := 186) hx hb dX11_readFactor_173 (by decide) (fun c_173 => ?_) (fun c_173 => ?_)
            · replace h := it_e c_173 h
              refine lv_aload_n hx hb dX11_readFactor_186 rfl (lv_at hl 2 rfl) ?_
              refine lv_iload_n hx hb dX11_readFactor_187 rfl (lv_at hl 3 rfl) ?_
              refine lv_iload hx hb dX11_readFactor_188 (lv_at hl 0 rfl) ?_
              obtain ⟨z_190, hc_190, h⟩ := bd_e h
              refine q_iV (As := [.int o_value, .int z_148.1]) (rest := [.int (f_every o_deep.toNatClampNeg), .int o_deep, .ref a_every]) (wF := [(a_words, .inl (cI, 3, .inl f_words)), (a_word, .inl (cI, 9, .inl f_word)), (a_some, .inl (cI, 10, .inl f_some)), (a_every, .inl (cI, 10, .inl f_every)), (a_text, .inl (cB, 200, .inl f_text)), (a_o, .inr (10, [.long o_trace, .ref a_text, .int o_typed, .int o_choices, .int o_worlds, .ref a_values, .int z_148.2.1, .int z_148.2.2.1, .int z_148.2.2.2.1, .int z_148.2.2.2.2.1, .int z_148.2.2.2.2.2, w_o_draft, w_o_sayings, w_o_leaves, w_o_signs, .ref a_words, .ref a_word, w_o_isKept, .ref a_some, .ref a_every, .int o_deep, .int o_many, w_o_length, w_o_found, .int o_foundMany])), (a_values, .inl (cI, 3, .inl f_values))]) hF hA hZ hK hP hD hS (c_X11_worldsOf l D cI cB cZ a_o o_trace (.ref a_text) o_typed o_choices o_worlds z_148.2.1 z_148.2.2.1 z_148.2.2.2.1 z_148.2.2.2.2.1 z_148.2.2.2.2.2 w_o_draft w_o_sayings w_o_leaves w_o_signs (.ref a_words) (.ref a_word) w_o_isKept (.ref a_some) (.ref a_every) o_deep o_many w_o_length w_o_found o_foundMany a_values f_values o_value z_148.1 z_190 hc_190) rfl gX11_readFactor_X11_worldsOf hdX11_worldsOf ⟨rfl, rfl⟩ (Nat.le_of_ble_eq_true rfl) (Nat.le_of_ble_eq_true rfl) 10 0 rfl rfl [5, 0] [1, 2, 3, 4, 6] rfl rfl rfl rfl (by decide) rfl hl.1 rfl (Nat.le_of_ble_eq_true rfl) (Nat.zero_le _) (Nat.zero_le _) dX11_readFactor_190 (fun H locs hP hD hS => ?_)
              exact Jj193 z_190 H locs ls h (hP.sub [6, 0, 1, 2, 3, 5, 4] rfl) (hD.sub [6, 0, 1, 2, 3, 5, 4] (by decide) rfl) hS (lv_sub hl [2] rfl)
            · replace h := if_e c_173 h
              refine lv_aload_n hx hb dX11_readFactor_176 rfl (lv_at hl 2 rfl) ?_
              refine va_get (D := D) (ci := 10) (v := .ref a_word) (C := RX11) (T := TX11) (N := 25) hx hb hts u_X11 hown hK hP 5 rfl rfl 16 (by decide) k_f6 (fun _ h9 => h9) rfl dX11_readFactor_177 ?_
              refine lv_iload hx hb dX11_readFactor_180 (lv_at hl 0 rfl) ?_
              obtain ⟨hi_182, h⟩ := ck_e h
              refine va_iald hx hb hK hP 2 0 rfl rfl hi_182 dX11_readFactor_182 ?_
              refine lv_goto (tgt := 193) hx hb dX11_readFactor_183 (by decide) ?_
              exact Jj193 (f_word z_148.1.toNatClampNeg) H locs ls h hP hD hS (lv_sub hl [2] rfl)
        refine lv_icmp_ne (tgt := 144) hx hb dX11_readFactor_103 (by decide) (fun c_103 => ?_) (fun c_103 => ?_)
        · replace h := if_e c_103 h
          exact Jj144  H locs ls h hP hD hS hl
        · replace h := it_e c_103 h
          refine lv_aload_n hx hb dX11_readFactor_106 rfl (lv_at hl 0 rfl) ?_
          refine va_get (D := D) (ci := 10) (v := .int z_93.2.2.2.1) (C := RX11) (T := TX11) (N := 25) hx hb hts u_X11 hown hK hP 5 rfl rfl 8 (by decide) k_f0 (fun _ h9 => h9) rfl dX11_readFactor_107 ?_
          refine lv_iconst (v := 3) hx hb dX11_readFactor_110 ic_3 ?_
          refine lv_icmp_ne (tgt := 144) hx hb dX11_readFactor_111 (by decide) (fun c_111 => ?_) (fun c_111 => ?_)
          · replace h := if_e c_111 h
            exact Jj144  H locs ls h hP hD hS hl
          · replace h := it_e c_111 h
            refine lv_aload_n hx hb dX11_readFactor_114 rfl (lv_at hl 0 rfl) ?_
            refine va_get (D := D) (ci := 10) (v := .int z_93.2.2.2.2.1) (C := RX11) (T := TX11) (N := 25) hx hb hts u_X11 hown hK hP 5 rfl rfl 9 (by decide) k_f1 (fun _ h9 => h9) rfl dX11_readFactor_115 ?_
            refine lv_iload_n hx hb dX11_readFactor_118 rfl (lv_at hl 2 rfl) ?_
            obtain ⟨j137, hj137, h⟩ := jn_e h
            have Jj137 : ∀ (x137_s1 : Int32) (H : Heap) (locs : List Loc) (ls : Array Slot), j137 x137_s1 = some z → va_P D vwCl [(a_values, .inl (cI, 3, .inl f_values)), (a_words, .inl (cI, 3, .inl f_words)), (a_word, .inl (cI, 9, .inl f_word)), (a_some, .inl (cI, 10, .inl f_some)), (a_every, .inl (cI, 10, .inl f_every)), (a_o, .inr (10, [.long o_trace, .ref a_text, .int o_typed, .int o_choices, .int o_worlds, .ref a_values, .int z_93.2.1, .int z_93.2.2.1, .int z_93.2.2.2.1, .int z_93.2.2.2.2.1, .int z_93.2.2.2.2.2, w_o_draft, w_o_sayings, w_o_leaves, w_o_signs, .ref a_words, .ref a_word, w_o_isKept, .ref a_some, .ref a_every, .int o_deep, .int o_many, w_o_length, w_o_found, .int o_foundMany])), (a_text, .inl (cB, 200, .inl f_text))] H → va_D A [(a_values, .inl (cI, 3, .inl f_values)), (a_words, .inl (cI, 3, .inl f_words)), (a_word, .inl (cI, 9, .inl f_word)), (a_some, .inl (cI, 10, .inl f_some)), (a_every, .inl (cI, 10, .inl f_every)), (a_o, .inr (10, [.long o_trace, .ref a_text, .int o_typed, .int o_choices, .int o_worlds, .ref a_values, .int z_93.2.1, .int z_93.2.2.1, .int z_93.2.2.2.1, .int z_93.2.2.2.2.1, .int z_93.2.2.2.2.2, w_o_draft, w_o_sayings, w_o_leaves, w_o_signs, .ref a_words, .ref a_word, w_o_isKept, .ref a_some, .ref a_every, .int o_deep, .int o_many, w_o_length, w_o_found, .int o_foundMany])), (a_text, .inl (cB, 200, .inl f_text))] → va_S A s.heap H locs → lv_has ls 5 [(0, .ref a_o), (1, .int o_value), (2, .int x66_s0)] → W p l e rmX11_readFactor s m args below meth c H locs 0 0 Q (F0 m 137 ls [.int x137_s1, .int z_93.2.2.2.2.1]) := by
              intro x137_s1 H locs ls h hP hD hS hl
              rw [hj137] at h
              refine lv_icmp_ge (tgt := 144) hx hb dX11_readFactor_137 (by decide) (fun c_137 => ?_) (fun c_137 => ?_)
              · replace h := it_e c_137 h
                exact Jj144  H locs ls h hP hD hS hl
              · replace h := if_e c_137 h
                refine lv_iconst (v := 1) hx hb dX11_readFactor_140 ic_1 ?_
                refine lv_goto (tgt := 145) hx hb dX11_readFactor_141 (by decide) ?_
                exact Jj145 1 H locs ls h hP hD hS hl
            refine lv_if_eq (tgt := 131) hx hb dX11_readFactor_119 (by decide) (fun c_119 => ?_) (fun c_119 => ?_)
            · replace h := it_e c_119 h
              refine lv_aload_n hx hb dX11_readFactor_131 rfl (lv_at hl 0 rfl) ?_
              refine va_get (D := D) (ci := 10) (v := .ref a_values) (C := RX11) (T := TX11) (N := 25) hx hb hts u_X11 hown hK hP 5 rfl rfl 5 (by decide) k_f7 (fun _ h9 => h9) rfl dX11_readFactor_132 ?_
              refine lv_iload_n hx hb dX11_readFactor_135 rfl (lv_at hl 1 rfl) ?_
              obtain ⟨hi_136, h⟩ := ck_e h
              refine va_iald hx hb hK hP 0 0 rfl rfl hi_136 dX11_readFactor_136 ?_
              exact Jj137 (f_values o_value.toNatClampNeg) H locs ls h hP hD hS hl
            · replace h := if_e c_119 h
              refine lv_aload_n hx hb dX11_readFactor_122 rfl (lv_at hl 0 rfl) ?_
              refine va_get (D := D) (ci := 10) (v := .ref a_words) (C := RX11) (T := TX11) (N := 25) hx hb hts u_X11 hown hK hP 5 rfl rfl 15 (by decide) k_f8 (fun _ h9 => h9) rfl dX11_readFactor_123 ?_
              refine lv_iconst (v := 0) hx hb dX11_readFactor_126 ic_0 ?_
              obtain ⟨hi_127, h⟩ := ck_e h
              refine va_iald hx hb hK hP 1 0 rfl rfl hi_127 dX11_readFactor_127 ?_
              refine lv_goto (tgt := 137) hx hb dX11_readFactor_128 (by decide) ?_
              exact Jj137 (f_words (0 : Int32).toNatClampNeg) H locs ls h hP hD hS hl
      refine lv_if_ne (tgt := 88) hx hb dX11_readFactor_69 (by decide) (fun c_69 => ?_) (fun c_69 => ?_)
      · replace h := if_e c_69 h
        exact Jj88  H locs ls h hP hD hS (lv_sub hl [1, 2, 0] rfl)
      · replace h := it_e c_69 h
        refine lv_aload_n hx hb dX11_readFactor_72 rfl (lv_at hl 1 rfl) ?_
        refine va_get (D := D) (ci := 10) (v := .int o_sort) (C := RX11) (T := TX11) (N := 25) hx hb hts u_X11 hown hK hP 0 rfl rfl 8 (by decide) k_f0 (fun _ h9 => h9) rfl dX11_readFactor_73 ?_
        refine lv_iconst (v := 1) hx hb dX11_readFactor_76 ic_1 ?_
        obtain ⟨j92, hj92, h⟩ := jn_e h
        have Jj92 : ∀ (H : Heap) (locs : List Loc) (ls : Array Slot), j92 () = some z → va_P D vwCl [(a_o, .inr (10, [.long o_trace, .ref a_text, .int o_typed, .int o_choices, .int o_worlds, .ref a_values, .int o_at, .int o_start, .int o_sort, .int o_value, .int o_fault, w_o_draft, w_o_sayings, w_o_leaves, w_o_signs, .ref a_words, .ref a_word, w_o_isKept, .ref a_some, .ref a_every, .int o_deep, .int o_many, w_o_length, w_o_found, .int o_foundMany])), (a_text, .inl (cB, 200, .inl f_text)), (a_values, .inl (cI, 3, .inl f_values)), (a_words, .inl (cI, 3, .inl f_words)), (a_word, .inl (cI, 9, .inl f_word)), (a_some, .inl (cI, 10, .inl f_some)), (a_every, .inl (cI, 10, .inl f_every))] H → va_D A [(a_o, .inr (10, [.long o_trace, .ref a_text, .int o_typed, .int o_choices, .int o_worlds, .ref a_values, .int o_at, .int o_start, .int o_sort, .int o_value, .int o_fault, w_o_draft, w_o_sayings, w_o_leaves, w_o_signs, .ref a_words, .ref a_word, w_o_isKept, .ref a_some, .ref a_every, .int o_deep, .int o_many, w_o_length, w_o_found, .int o_foundMany])), (a_text, .inl (cB, 200, .inl f_text)), (a_values, .inl (cI, 3, .inl f_values)), (a_words, .inl (cI, 3, .inl f_words)), (a_word, .inl (cI, 9, .inl f_word)), (a_some, .inl (cI, 10, .inl f_some)), (a_every, .inl (cI, 10, .inl f_every))] → va_S A s.heap H locs → lv_has ls 5 [(0, .ref a_o), (1, .int o_value), (2, .int x66_s0)] → W p l e rmX11_readFactor s m args below meth c H locs 0 0 Q (F0 m 92 ls [.ref a_o]) := by
          intro H locs ls h hP hD hS hl
          rw [hj92] at h
          refine lv_iconst (v := 0) hx hb dX11_readFactor_92 ic_0 ?_
          exact Jj93 0 H locs ls h hP hD hS hl
        refine lv_icmp_ne (tgt := 92) hx hb dX11_readFactor_77 (by decide) (fun c_77 => ?_) (fun c_77 => ?_)
        · replace h := if_e c_77 h
          exact Jj92  H locs ls h hP hD hS (lv_sub hl [1, 2, 0] rfl)
        · replace h := it_e c_77 h
          refine lv_iload_n hx hb dX11_readFactor_80 rfl (lv_at hl 2 rfl) ?_
          refine lv_aload_n hx hb dX11_readFactor_81 rfl (lv_at hl 1 rfl) ?_
          refine va_get (D := D) (ci := 10) (v := .int o_choices) (C := RX11) (T := TX11) (N := 25) hx hb hts u_X11 hown hK hP 0 rfl rfl 3 (by decide) k_f9 (fun _ h9 => h9) rfl dX11_readFactor_82 ?_
          refine lv_icmp_ge (tgt := 92) hx hb dX11_readFactor_85 (by decide) (fun c_85 => ?_) (fun c_85 => ?_)
          · replace h := it_e c_85 h
            exact Jj92  H locs ls h hP hD hS (lv_sub hl [1, 2, 0] rfl)
          · replace h := if_e c_85 h
            exact Jj88  H locs ls h hP hD hS (lv_sub hl [1, 2, 0] rfl)
    refine lv_icmp_ne (tgt := 65) hx hb dX11_readFactor_58 (by decide) (fun c_58 => ?_) (fun c_58 => ?_)
    · replace h := if_e c_58 h
      refine lv_iconst (v := 0) hx hb dX11_readFactor_65 ic_0 ?_
      exact Jj66 0 H locs ls h hP hD hS (lv_sub hl [1, 0] rfl)
    · replace h := it_e c_58 h
      refine lv_iconst (v := 1) hx hb dX11_readFactor_61 ic_1 ?_
      refine lv_goto (tgt := 66) hx hb dX11_readFactor_62 (by decide) ?_
      exact Jj66 1 H locs ls h hP hD hS (lv_sub hl [1, 0] rfl)
  · replace h := it_e c_6 h
    refine lv_aload_n hx hb dX11_readFactor_9 rfl (lv_at hl 0 rfl) ?_
    refine lv_aload_n hx hb dX11_readFactor_10 rfl (lv_at hl 0 rfl) ?_
    refine va_get (D := D) (ci := 10) (v := .int o_deep) (C := RX11) (T := TX11) (N := 25) hx hb hts u_X11 hown hK hP 0 rfl rfl 20 (by decide) k_f4 (fun _ h9 => h9) rfl dX11_readFactor_11 ?_
    refine lv_bipush (v := 9) hx hb dX11_readFactor_14 bc_9 ?_
    obtain ⟨j24, hj24, h⟩ := jn_e h
    have Jj24 : ∀ (x24_s1 : Int32) (H : Heap) (locs : List Loc) (ls : Array Slot), j24 x24_s1 = some z → va_P D vwCl [(a_o, .inr (10, [.long o_trace, .ref a_text, .int o_typed, .int o_choices, .int o_worlds, .ref a_values, .int o_at, .int o_start, .int o_sort, .int o_value, .int o_fault, w_o_draft, w_o_sayings, w_o_leaves, w_o_signs, .ref a_words, .ref a_word, w_o_isKept, .ref a_some, .ref a_every, .int o_deep, .int o_many, w_o_length, w_o_found, .int o_foundMany])), (a_text, .inl (cB, 200, .inl f_text)), (a_values, .inl (cI, 3, .inl f_values)), (a_words, .inl (cI, 3, .inl f_words)), (a_word, .inl (cI, 9, .inl f_word)), (a_some, .inl (cI, 10, .inl f_some)), (a_every, .inl (cI, 10, .inl f_every))] H → va_D A [(a_o, .inr (10, [.long o_trace, .ref a_text, .int o_typed, .int o_choices, .int o_worlds, .ref a_values, .int o_at, .int o_start, .int o_sort, .int o_value, .int o_fault, w_o_draft, w_o_sayings, w_o_leaves, w_o_signs, .ref a_words, .ref a_word, w_o_isKept, .ref a_some, .ref a_every, .int o_deep, .int o_many, w_o_length, w_o_found, .int o_foundMany])), (a_text, .inl (cB, 200, .inl f_text)), (a_values, .inl (cI, 3, .inl f_values)), (a_words, .inl (cI, 3, .inl f_words)), (a_word, .inl (cI, 9, .inl f_word)), (a_some, .inl (cI, 10, .inl f_some)), (a_every, .inl (cI, 10, .inl f_every))] → va_S A s.heap H locs → lv_has ls 5 [(0, .ref a_o)] → W p l e rmX11_readFactor s m args below meth c H locs 0 0 Q (F0 m 24 ls [.int x24_s1, .ref a_o]) := by
      intro x24_s1 H locs ls h hP hD hS hl
      rw [hj24] at h
      obtain ⟨z_24, hc_24, h⟩ := bd_e h
      refine q_iV (As := [.int x24_s1]) (rest := []) (wF := [(a_values, .inl (cI, 3, .inl f_values)), (a_words, .inl (cI, 3, .inl f_words)), (a_word, .inl (cI, 9, .inl f_word)), (a_some, .inl (cI, 10, .inl f_some)), (a_every, .inl (cI, 10, .inl f_every)), (a_o, .inr (10, [.long o_trace, .ref a_text, .int o_typed, .int o_choices, .int o_worlds, .ref a_values, .int z_24.2.1, .int z_24.2.2.1, .int z_24.2.2.2.1, .int z_24.2.2.2.2.1, .int z_24.2.2.2.2.2, w_o_draft, w_o_sayings, w_o_leaves, w_o_signs, .ref a_words, .ref a_word, w_o_isKept, .ref a_some, .ref a_every, .int o_deep, .int o_many, w_o_length, w_o_found, .int o_foundMany])), (a_text, .inl (cB, 200, .inl f_text))]) hF hA hZ hK hP hD hS (c_X11_due l D cI cB cZ a_o o_trace o_typed o_choices o_worlds (.ref a_values) o_at o_start o_sort o_value o_fault w_o_draft w_o_sayings w_o_leaves w_o_signs (.ref a_words) (.ref a_word) w_o_isKept (.ref a_some) (.ref a_every) o_deep o_many w_o_length w_o_found o_foundMany a_text f_text x24_s1 z_24 hc_24) rfl gX11_readFactor_X11_due hdX11_due ⟨rfl, rfl⟩ (Nat.le_of_ble_eq_true rfl) (Nat.le_of_ble_eq_true rfl) 10 0 rfl rfl [0, 1] [2, 3, 4, 5, 6] rfl rfl rfl rfl (by decide) rfl hl.1 rfl (Nat.le_of_ble_eq_true rfl) (Nat.zero_le _) (Nat.zero_le _) dX11_readFactor_24 (fun H locs hP hD hS => ?_)
      refine lv_pop hx hb dX11_readFactor_27 rfl ?_
      refine lv_aload_n hx hb dX11_readFactor_28 rfl (lv_at hl 0 rfl) ?_
      refine va_get (D := D) (ci := 10) (v := .int z_24.2.2.2.2.2) (C := RX11) (T := TX11) (N := 25) hx hb hts u_X11 hown hK hP 5 rfl rfl 10 (by decide) k_f2 (fun _ h9 => h9) rfl dX11_readFactor_29 ?_
      refine lv_bipush (v := (-9)) hx hb dX11_readFactor_32 bc_m9 ?_
      refine lv_icmp_ne (tgt := 47) hx hb dX11_readFactor_34 (by decide) (fun c_34 => ?_) (fun c_34 => ?_)
      · replace h := if_e c_34 h
        have hz := Option.some.inj h
        subst hz
        exact hret H locs 47 ls (hP.sub [5, 6, 0, 1, 2, 3, 4] rfl) (hD.sub [5, 6, 0, 1, 2, 3, 4] (by decide) rfl) hS dX11_readFactor_47
      · replace h := it_e c_34 h
        refine lv_aload_n hx hb dX11_readFactor_37 rfl (lv_at hl 0 rfl) ?_
        refine lv_aload_n hx hb dX11_readFactor_38 rfl (lv_at hl 0 rfl) ?_
        refine va_get (D := D) (ci := 10) (v := .int o_deep) (C := RX11) (T := TX11) (N := 25) hx hb hts u_X11 hown hK hP 5 rfl rfl 20 (by decide) k_f4 (fun _ h9 => h9) rfl dX11_readFactor_39 ?_
        refine lv_iconst (v := 1) hx hb dX11_readFactor_42 ic_1 ?_
        refine lv_iadd hx hb dX11_readFactor_43 ?_
        obtain ⟨z_44, hc_44, h⟩ := bd_e h
        refine q_vV (As := [.int (o_deep + 1)]) (rest := []) (wF := [(a_values, .inl (cI, 3, .inl f_values)), (a_words, .inl (cI, 3, .inl f_words)), (a_word, .inl (cI, 9, .inl f_word)), (a_text, .inl (cB, 200, .inl f_text)), (a_o, .inr (10, [.long o_trace, .ref a_text, .int o_typed, .int o_choices, .int o_worlds, .ref a_values, .int z_24.2.1, .int z_24.2.2.1, .int z_24.2.2.2.1, .int z_24.2.2.2.2.1, .int z_24.2.2.2.2.2, w_o_draft, w_o_sayings, w_o_leaves, w_o_signs, .ref a_words, .ref a_word, w_o_isKept, .ref a_some, .ref a_every, .int z_44.1, .int o_many, w_o_length, w_o_found, .int o_foundMany])), (a_some, .inl (cI, 10, .inl z_44.2.1)), (a_every, .inl (cI, 10, .inl z_44.2.2))]) hF hA hZ hK hP hD hS (c_X11_open l D cI cB cZ a_o o_trace (.ref a_text) o_typed o_choices o_worlds (.ref a_values) z_24.2.1 z_24.2.2.1 z_24.2.2.2.1 z_24.2.2.2.2.1 z_24.2.2.2.2.2 w_o_draft w_o_sayings w_o_leaves w_o_signs (.ref a_words) (.ref a_word) w_o_isKept o_deep o_many w_o_length w_o_found o_foundMany a_some f_some a_every f_every (o_deep + 1) z_44 hc_44) rfl gX11_readFactor_X11_open hdX11_open ⟨rfl, rfl⟩ (Nat.le_of_ble_eq_true rfl) (Nat.le_of_ble_eq_true rfl) 10 0 rfl rfl [5, 3, 4] [0, 1, 2, 6] rfl rfl rfl rfl (by decide) rfl hl.1 rfl (Nat.le_of_ble_eq_true rfl) (Nat.zero_le _) (Nat.zero_le _) dX11_readFactor_44 (fun H locs hP hD hS => ?_)
        have hz := Option.some.inj h
        subst hz
        exact hret H locs 47 ls (hP.sub [4, 3, 0, 1, 2, 5, 6] rfl) (hD.sub [4, 3, 0, 1, 2, 5, 6] (by decide) rfl) hS dX11_readFactor_47
    refine lv_icmp_ge (tgt := 23) hx hb dX11_readFactor_16 (by decide) (fun c_16 => ?_) (fun c_16 => ?_)
    · replace h := it_e c_16 h
      refine lv_iconst (v := 0) hx hb dX11_readFactor_23 ic_0 ?_
      exact Jj24 0 H locs ls h hP hD hS hl
    · replace h := if_e c_16 h
      refine lv_iconst (v := 1) hx hb dX11_readFactor_19 ic_1 ?_
      refine lv_goto (tgt := 24) hx hb dX11_readFactor_20 (by decide) ?_
      exact Jj24 1 H locs ls h hP hD hS hl
