abbrev rmX11_say : Room := { frames := 4, cells := 0, slots := 0, locals := 90 }
theorem hdX11_say : yX11_say.cls = RX11 ∧ yX11_say.cls ≠ "java/lang/invoke/MethodHandle" ∧ yX11_say.cls ≠ "java/lang/invoke/VarHandle" ∧ (parseMethodDescriptor yX11_say.desc).map (fun d => d.parameters.length) = some 0 := by decide +kernel
set_option maxRecDepth 100000 in
set_option maxHeartbeats 4000000 in
theorem c_X11_say (l : Launch) (D : va_G) (cI cB cZ : ClassId) (a_o : Nat) (o_trace : Int64) (o_typed : Int32) (o_choices : Int32) (o_worlds : Int32) (o_at : Int32) (o_start : Int32) (o_sort : Int32) (o_value : Int32) (o_fault : Int32) (w_o_draft : Value) (w_o_isKept : Value) (o_deep : Int32) (o_many : Int32) (w_o_length : Value) (w_o_found : Value) (o_foundMany : Int32) (a_text : Nat) (f_text : Nat → Int32) (a_values : Nat) (f_values : Nat → Int32) (a_sayings : Nat) (f_sayings : Nat → Int32) (a_leaves : Nat) (f_leaves : Nat → Int32) (a_signs : Nat) (f_signs : Nat → Int32) (a_words : Nat) (f_words : Nat → Int32) (a_word : Nat) (f_word : Nat → Int32) (a_some : Nat) (f_some : Nat → Int32) (a_every : Nat) (f_every : Nat → Int32) (z : Int32 × Int32 × Int32 × Int32 × Int32 × Int32 × Int32 × Int32 × Int32 × (Nat → Int32) × (Nat → Int32) × (Nat → Int32) × (Nat → Int32) × (Nat → Int32)) (h : P_X11_say o_typed o_choices o_worlds o_at o_start o_sort o_value o_fault o_deep o_many f_text f_values f_sayings f_leaves f_signs f_words f_word f_some f_every = some z) : KI l yX11_say wsX11_say rmX11_say D [(cI, .int), (cB, .byte), (cZ, .boolean)] [.ref a_o] [(a_o, .inr (10, [.long o_trace, .ref a_text, .int o_typed, .int o_choices, .int o_worlds, .ref a_values, .int o_at, .int o_start, .int o_sort, .int o_value, .int o_fault, w_o_draft, .ref a_sayings, .ref a_leaves, .ref a_signs, .ref a_words, .ref a_word, w_o_isKept, .ref a_some, .ref a_every, .int o_deep, .int o_many, w_o_length, w_o_found, .int o_foundMany])), (a_text, .inl (cB, 200, .inl f_text)), (a_values, .inl (cI, 3, .inl f_values)), (a_sayings, .inl (cI, 3, .inl f_sayings)), (a_leaves, .inl (cI, 24, .inl f_leaves)), (a_signs, .inl (cI, 24, .inl f_signs)), (a_words, .inl (cI, 3, .inl f_words)), (a_word, .inl (cI, 9, .inl f_word)), (a_some, .inl (cI, 10, .inl f_some)), (a_every, .inl (cI, 10, .inl f_every))] [(a_o, .inr (10, [.long o_trace, .ref a_text, .int z.2.1, .int o_choices, .int o_worlds, .ref a_values, .int z.2.2.1, .int z.2.2.2.1, .int z.2.2.2.2.1, .int z.2.2.2.2.2.1, .int z.2.2.2.2.2.2.1, w_o_draft, .ref a_sayings, .ref a_leaves, .ref a_signs, .ref a_words, .ref a_word, w_o_isKept, .ref a_some, .ref a_every, .int z.2.2.2.2.2.2.2.1, .int z.2.2.2.2.2.2.2.2.1, w_o_length, w_o_found, .int o_foundMany])), (a_text, .inl (cB, 200, .inl f_text)), (a_values, .inl (cI, 3, .inl f_values)), (a_sayings, .inl (cI, 3, .inl z.2.2.2.2.2.2.2.2.2.1)), (a_leaves, .inl (cI, 24, .inl z.2.2.2.2.2.2.2.2.2.2.1)), (a_signs, .inl (cI, 24, .inl z.2.2.2.2.2.2.2.2.2.2.2.1)), (a_words, .inl (cI, 3, .inl f_words)), (a_word, .inl (cI, 9, .inl f_word)), (a_some, .inl (cI, 10, .inl z.2.2.2.2.2.2.2.2.2.2.2.2.1)), (a_every, .inl (cI, 10, .inl z.2.2.2.2.2.2.2.2.2.2.2.2.2))] z.1 := by
  refine KI_of (own := RX11) (cc := cX11_say) (maxL := 4) (ret := some .int) (by decide) rfl rfl (Nat.le_of_ble_eq_true rfl) (Or.inl rfl) ?_
  intro p e s m args below meth c A Q hx hb hml hown hts hA hZ hK hret H locs ls hP hD hS hl
  have hl : lv_has ls 4 [(0, .ref a_o)] := hl
  have hF : CallFix p m c cX11_say 4 s args wsX11_say RX11 := ⟨hx, hb, hml, hown, hts⟩
  have u_X11 : ∀ w ∈ u_ws RX11 TX11 25, w ∈ wsX11_say := by decide +kernel
  have k_f0 := hts (.fieldLink RX11 20 "NoWordNoModel" "sayings" "[I") (by decide +kernel)
  have k_f1 := hts (.fieldLink RX11 64 "NoWordNoModel" "at" "I") (by decide +kernel)
  have k_f2 := hts (.fieldLink RX11 85 "NoWordNoModel" "fault" "I") (by decide +kernel)
  have k_f3 := hts (.fieldLink RX11 115 "NoWordNoModel" "many" "I") (by decide +kernel)
  have k_f4 := hts (.fieldLink RX11 23 "NoWordNoModel" "leaves" "[I") (by decide +kernel)
  have k_f5 := hts (.fieldLink RX11 39 "NoWordNoModel" "some" "[I") (by decide +kernel)
  have k_f6 := hts (.fieldLink RX11 42 "NoWordNoModel" "every" "[I") (by decide +kernel)
  have k_f7 := hts (.fieldLink RX11 26 "NoWordNoModel" "signs" "[I") (by decide +kernel)
  have k_f8 := hts (.fieldLink RX11 59 "NoWordNoModel" "typed" "I") (by decide +kernel)
  have k_f9 := hts (.fieldLink RX11 77 "NoWordNoModel" "sort" "I") (by decide +kernel)
  have k_f10 := hts (.fieldLink RX11 102 "NoWordNoModel" "deep" "I") (by decide +kernel)
  unfold P_X11_say at h
  refine lv_aload_n hx hb dX11_say_0 rfl (lv_at hl 0 rfl) ?_
  refine va_get (D := D) (ci := 10) (v := .ref a_sayings) (C := RX11) (T := TX11) (N := 25) hx hb hts u_X11 hown hK hP 0 rfl rfl 12 (by decide) k_f0 (fun _ h9 => h9) rfl dX11_say_1 ?_
  refine lv_iconst (v := 0) hx hb dX11_say_4 ic_0 ?_
  obtain ⟨hi_5, h⟩ := ck_e h
  refine va_iald hx hb hK hP 3 0 rfl rfl hi_5 dX11_say_5 ?_
  refine lv_bipush (v := 8) hx hb dX11_say_6 bc_8 ?_
  refine lv_icmp_ne (tgt := 14) hx hb dX11_say_8 (by decide) (fun c_8 => ?_) (fun c_8 => ?_)
  · replace h := if_e c_8 h
    refine lv_aload_n hx hb dX11_say_14 rfl (lv_at hl 0 rfl) ?_
    refine lv_iconst (v := 0) hx hb dX11_say_15 ic_0 ?_
    refine va_put (D := D) (ci := 10) (v := .int 0) (ty := .int) (C := RX11) (T := TX11) (N := 25) hx hb hts u_X11 tyX11 tyX11_ok nmX11 hown hK hP hD hS 0 rfl rfl 6 (by decide) k_f1 (fun _ h9 => h9) rfl (tyX11_ok 6 (by decide)) rfl rfl (Nat.le_of_ble_eq_true rfl) dX11_say_16 (fun H locs hP hD hS => ?_)
    have hP : va_P D vwCl [(a_o, .inr (10, [.long o_trace, .ref a_text, .int o_typed, .int o_choices, .int o_worlds, .ref a_values, .int 0, .int o_start, .int o_sort, .int o_value, .int o_fault, w_o_draft, .ref a_sayings, .ref a_leaves, .ref a_signs, .ref a_words, .ref a_word, w_o_isKept, .ref a_some, .ref a_every, .int o_deep, .int o_many, w_o_length, w_o_found, .int o_foundMany])), (a_text, .inl (cB, 200, .inl f_text)), (a_values, .inl (cI, 3, .inl f_values)), (a_sayings, .inl (cI, 3, .inl f_sayings)), (a_leaves, .inl (cI, 24, .inl f_leaves)), (a_signs, .inl (cI, 24, .inl f_signs)), (a_words, .inl (cI, 3, .inl f_words)), (a_word, .inl (cI, 9, .inl f_word)), (a_some, .inl (cI, 10, .inl f_some)), (a_every, .inl (cI, 10, .inl f_every))] H := hP
    have hD : va_D A [(a_o, .inr (10, [.long o_trace, .ref a_text, .int o_typed, .int o_choices, .int o_worlds, .ref a_values, .int 0, .int o_start, .int o_sort, .int o_value, .int o_fault, w_o_draft, .ref a_sayings, .ref a_leaves, .ref a_signs, .ref a_words, .ref a_word, w_o_isKept, .ref a_some, .ref a_every, .int o_deep, .int o_many, w_o_length, w_o_found, .int o_foundMany])), (a_text, .inl (cB, 200, .inl f_text)), (a_values, .inl (cI, 3, .inl f_values)), (a_sayings, .inl (cI, 3, .inl f_sayings)), (a_leaves, .inl (cI, 24, .inl f_leaves)), (a_signs, .inl (cI, 24, .inl f_signs)), (a_words, .inl (cI, 3, .inl f_words)), (a_word, .inl (cI, 9, .inl f_word)), (a_some, .inl (cI, 10, .inl f_some)), (a_every, .inl (cI, 10, .inl f_every))] := hD
    refine lv_aload_n hx hb dX11_say_19 rfl (lv_at hl 0 rfl) ?_
    refine lv_bipush (v := (-9)) hx hb dX11_say_20 bc_m9 ?_
    refine va_put (D := D) (ci := 10) (v := .int (-9)) (ty := .int) (C := RX11) (T := TX11) (N := 25) hx hb hts u_X11 tyX11 tyX11_ok nmX11 hown hK hP hD hS 0 rfl rfl 10 (by decide) k_f2 (fun _ h9 => h9) rfl (tyX11_ok 10 (by decide)) rfl rfl (Nat.le_of_ble_eq_true rfl) dX11_say_22 (fun H locs hP hD hS => ?_)
    have hP : va_P D vwCl [(a_o, .inr (10, [.long o_trace, .ref a_text, .int o_typed, .int o_choices, .int o_worlds, .ref a_values, .int 0, .int o_start, .int o_sort, .int o_value, .int (-9), w_o_draft, .ref a_sayings, .ref a_leaves, .ref a_signs, .ref a_words, .ref a_word, w_o_isKept, .ref a_some, .ref a_every, .int o_deep, .int o_many, w_o_length, w_o_found, .int o_foundMany])), (a_text, .inl (cB, 200, .inl f_text)), (a_values, .inl (cI, 3, .inl f_values)), (a_sayings, .inl (cI, 3, .inl f_sayings)), (a_leaves, .inl (cI, 24, .inl f_leaves)), (a_signs, .inl (cI, 24, .inl f_signs)), (a_words, .inl (cI, 3, .inl f_words)), (a_word, .inl (cI, 9, .inl f_word)), (a_some, .inl (cI, 10, .inl f_some)), (a_every, .inl (cI, 10, .inl f_every))] H := hP
    have hD : va_D A [(a_o, .inr (10, [.long o_trace, .ref a_text, .int o_typed, .int o_choices, .int o_worlds, .ref a_values, .int 0, .int o_start, .int o_sort, .int o_value, .int (-9), w_o_draft, .ref a_sayings, .ref a_leaves, .ref a_signs, .ref a_words, .ref a_word, w_o_isKept, .ref a_some, .ref a_every, .int o_deep, .int o_many, w_o_length, w_o_found, .int o_foundMany])), (a_text, .inl (cB, 200, .inl f_text)), (a_values, .inl (cI, 3, .inl f_values)), (a_sayings, .inl (cI, 3, .inl f_sayings)), (a_leaves, .inl (cI, 24, .inl f_leaves)), (a_signs, .inl (cI, 24, .inl f_signs)), (a_words, .inl (cI, 3, .inl f_words)), (a_word, .inl (cI, 9, .inl f_word)), (a_some, .inl (cI, 10, .inl f_some)), (a_every, .inl (cI, 10, .inl f_every))] := hD
    refine lv_aload_n hx hb dX11_say_25 rfl (lv_at hl 0 rfl) ?_
    refine lv_iconst (v := 0) hx hb dX11_say_26 ic_0 ?_
    refine va_put (D := D) (ci := 10) (v := .int 0) (ty := .int) (C := RX11) (T := TX11) (N := 25) hx hb hts u_X11 tyX11 tyX11_ok nmX11 hown hK hP hD hS 0 rfl rfl 21 (by decide) k_f3 (fun _ h9 => h9) rfl (tyX11_ok 21 (by decide)) rfl rfl (Nat.le_of_ble_eq_true rfl) dX11_say_27 (fun H locs hP hD hS => ?_)
    have hP : va_P D vwCl [(a_o, .inr (10, [.long o_trace, .ref a_text, .int o_typed, .int o_choices, .int o_worlds, .ref a_values, .int 0, .int o_start, .int o_sort, .int o_value, .int (-9), w_o_draft, .ref a_sayings, .ref a_leaves, .ref a_signs, .ref a_words, .ref a_word, w_o_isKept, .ref a_some, .ref a_every, .int o_deep, .int 0, w_o_length, w_o_found, .int o_foundMany])), (a_text, .inl (cB, 200, .inl f_text)), (a_values, .inl (cI, 3, .inl f_values)), (a_sayings, .inl (cI, 3, .inl f_sayings)), (a_leaves, .inl (cI, 24, .inl f_leaves)), (a_signs, .inl (cI, 24, .inl f_signs)), (a_words, .inl (cI, 3, .inl f_words)), (a_word, .inl (cI, 9, .inl f_word)), (a_some, .inl (cI, 10, .inl f_some)), (a_every, .inl (cI, 10, .inl f_every))] H := hP
    have hD : va_D A [(a_o, .inr (10, [.long o_trace, .ref a_text, .int o_typed, .int o_choices, .int o_worlds, .ref a_values, .int 0, .int o_start, .int o_sort, .int o_value, .int (-9), w_o_draft, .ref a_sayings, .ref a_leaves, .ref a_signs, .ref a_words, .ref a_word, w_o_isKept, .ref a_some, .ref a_every, .int o_deep, .int 0, w_o_length, w_o_found, .int o_foundMany])), (a_text, .inl (cB, 200, .inl f_text)), (a_values, .inl (cI, 3, .inl f_values)), (a_sayings, .inl (cI, 3, .inl f_sayings)), (a_leaves, .inl (cI, 24, .inl f_leaves)), (a_signs, .inl (cI, 24, .inl f_signs)), (a_words, .inl (cI, 3, .inl f_words)), (a_word, .inl (cI, 9, .inl f_word)), (a_some, .inl (cI, 10, .inl f_some)), (a_every, .inl (cI, 10, .inl f_every))] := hD
    refine lv_aload_n hx hb dX11_say_30 rfl (lv_at hl 0 rfl) ?_
    refine lv_iconst (v := 0) hx hb dX11_say_31 ic_0 ?_
    obtain ⟨z_32, hc_32, h⟩ := bd_e h
    refine q_vV (As := [.int 0]) (rest := []) (wF := [(a_text, .inl (cB, 200, .inl f_text)), (a_values, .inl (cI, 3, .inl f_values)), (a_sayings, .inl (cI, 3, .inl f_sayings)), (a_leaves, .inl (cI, 24, .inl f_leaves)), (a_signs, .inl (cI, 24, .inl f_signs)), (a_words, .inl (cI, 3, .inl f_words)), (a_word, .inl (cI, 9, .inl f_word)), (a_o, .inr (10, [.long o_trace, .ref a_text, .int o_typed, .int o_choices, .int o_worlds, .ref a_values, .int 0, .int o_start, .int o_sort, .int o_value, .int (-9), w_o_draft, .ref a_sayings, .ref a_leaves, .ref a_signs, .ref a_words, .ref a_word, w_o_isKept, .ref a_some, .ref a_every, .int z_32.1, .int 0, w_o_length, w_o_found, .int o_foundMany])), (a_some, .inl (cI, 10, .inl z_32.2.1)), (a_every, .inl (cI, 10, .inl z_32.2.2))]) hF hA hZ hK hP hD hS (c_X11_open l D cI cB cZ a_o o_trace (.ref a_text) o_typed o_choices o_worlds (.ref a_values) 0 o_start o_sort o_value (-9) w_o_draft (.ref a_sayings) (.ref a_leaves) (.ref a_signs) (.ref a_words) (.ref a_word) w_o_isKept o_deep 0 w_o_length w_o_found o_foundMany a_some f_some a_every f_every 0 z_32 hc_32) rfl gX11_say_X11_open hdX11_open ⟨rfl, rfl⟩ (Nat.le_of_ble_eq_true rfl) (Nat.le_of_ble_eq_true rfl) 10 0 rfl rfl [0, 8, 9] [1, 2, 3, 4, 5, 6, 7] rfl rfl rfl rfl (by decide) rfl hl.1 rfl (Nat.le_of_ble_eq_true rfl) (Nat.zero_le _) (Nat.zero_le _) dX11_say_32 (fun H locs hP hD hS => ?_)
    refine lv_aload_n hx hb dX11_say_35 rfl (lv_at hl 0 rfl) ?_
    obtain ⟨z_36, hc_36, h⟩ := bd_e h
    refine q_vV (As := []) (rest := []) (wF := [(a_values, .inl (cI, 3, .inl f_values)), (a_sayings, .inl (cI, 3, .inl f_sayings)), (a_leaves, .inl (cI, 24, .inl f_leaves)), (a_signs, .inl (cI, 24, .inl f_signs)), (a_words, .inl (cI, 3, .inl f_words)), (a_word, .inl (cI, 9, .inl f_word)), (a_some, .inl (cI, 10, .inl z_32.2.1)), (a_every, .inl (cI, 10, .inl z_32.2.2)), (a_o, .inr (10, [.long o_trace, .ref a_text, .int o_typed, .int o_choices, .int o_worlds, .ref a_values, .int z_36.1, .int z_36.2.1, .int z_36.2.2.1, .int z_36.2.2.2, .int (-9), w_o_draft, .ref a_sayings, .ref a_leaves, .ref a_signs, .ref a_words, .ref a_word, w_o_isKept, .ref a_some, .ref a_every, .int z_32.1, .int 0, w_o_length, w_o_found, .int o_foundMany])), (a_text, .inl (cB, 200, .inl f_text))]) hF hA hZ hK hP hD hS (c_X11_next l D cI cB cZ a_o o_trace o_typed o_choices o_worlds (.ref a_values) 0 o_start o_sort o_value (-9) w_o_draft (.ref a_sayings) (.ref a_leaves) (.ref a_signs) (.ref a_words) (.ref a_word) w_o_isKept (.ref a_some) (.ref a_every) z_32.1 0 w_o_length w_o_found o_foundMany a_text f_text z_36 hc_36) rfl gX11_say_X11_next hdX11_next ⟨rfl, rfl⟩ (Nat.le_of_ble_eq_true rfl) (Nat.le_of_ble_eq_true rfl) 10 0 rfl rfl [7, 0] [1, 2, 3, 4, 5, 6, 8, 9] rfl rfl rfl rfl (by decide) rfl hl.1 rfl (Nat.le_of_ble_eq_true rfl) (Nat.zero_le _) (Nat.zero_le _) dX11_say_36 (fun H locs hP hD hS => ?_)
    refine lv_iconst (v := 1) hx hb dX11_say_39 ic_1 ?_
    refine lv_istore_n (lv' := [(1, .int 1), (0, .ref a_o)]) hx hb dX11_say_40 rfl hl (by decide) rfl (fun ls hl => ?_)
    obtain ⟨k199, hk199, h⟩ := jn_e h
    have Jk199 : ∀ (x199_o_at : Int32) (x199_o_start : Int32) (x199_o_sort : Int32) (x199_o_value : Int32) (x199_o_fault : Int32) (x199_o_deep : Int32) (x199_o_many : Int32) (x199_f_some : (Nat → Int32)) (x199_f_every : (Nat → Int32)) (H : Heap) (locs : List Loc) (ls : Array Slot), k199 x199_o_at x199_o_start x199_o_sort x199_o_value x199_o_fault x199_o_deep x199_o_many x199_f_some x199_f_every = some z → va_P D vwCl [(a_values, .inl (cI, 3, .inl f_values)), (a_sayings, .inl (cI, 3, .inl f_sayings)), (a_leaves, .inl (cI, 24, .inl f_leaves)), (a_signs, .inl (cI, 24, .inl f_signs)), (a_words, .inl (cI, 3, .inl f_words)), (a_word, .inl (cI, 9, .inl f_word)), (a_some, .inl (cI, 10, .inl x199_f_some)), (a_every, .inl (cI, 10, .inl x199_f_every)), (a_o, .inr (10, [.long o_trace, .ref a_text, .int o_typed, .int o_choices, .int o_worlds, .ref a_values, .int x199_o_at, .int x199_o_start, .int x199_o_sort, .int x199_o_value, .int x199_o_fault, w_o_draft, .ref a_sayings, .ref a_leaves, .ref a_signs, .ref a_words, .ref a_word, w_o_isKept, .ref a_some, .ref a_every, .int x199_o_deep, .int x199_o_many, w_o_length, w_o_found, .int o_foundMany])), (a_text, .inl (cB, 200, .inl f_text))] H → va_D A [(a_values, .inl (cI, 3, .inl f_values)), (a_sayings, .inl (cI, 3, .inl f_sayings)), (a_leaves, .inl (cI, 24, .inl f_leaves)), (a_signs, .inl (cI, 24, .inl f_signs)), (a_words, .inl (cI, 3, .inl f_words)), (a_word, .inl (cI, 9, .inl f_word)), (a_some, .inl (cI, 10, .inl x199_f_some)), (a_every, .inl (cI, 10, .inl x199_f_every)), (a_o, .inr (10, [.long o_trace, .ref a_text, .int o_typed, .int o_choices, .int o_worlds, .ref a_values, .int x199_o_at, .int x199_o_start, .int x199_o_sort, .int x199_o_value, .int x199_o_fault, w_o_draft, .ref a_sayings, .ref a_leaves, .ref a_signs, .ref a_words, .ref a_word, w_o_isKept, .ref a_some, .ref a_every, .int x199_o_deep, .int x199_o_many, w_o_length, w_o_found, .int o_foundMany])), (a_text, .inl (cB, 200, .inl f_text))] → va_S A s.heap H locs → lv_has ls 4 [(0, .ref a_o)] → W p l e rmX11_say s m args below meth c H locs 0 0 Q (F0 m 199 ls []) := by
      intro x199_o_at x199_o_start x199_o_sort x199_o_value x199_o_fault x199_o_deep x199_o_many x199_f_some x199_f_every H locs ls h hP hD hS hl
      rw [hk199] at h
      refine lv_aload_n hx hb dX11_say_199 rfl (lv_at hl 0 rfl) ?_
      refine va_get (D := D) (ci := 10) (v := .int x199_o_fault) (C := RX11) (T := TX11) (N := 25) hx hb hts u_X11 hown hK hP 8 rfl rfl 10 (by decide) k_f2 (fun _ h9 => h9) rfl dX11_say_200 ?_
      refine lv_bipush (v := (-9)) hx hb dX11_say_203 bc_m9 ?_
      refine lv_icmp_eq (tgt := 216) hx hb dX11_say_205 (by decide) (fun c_205 => ?_) (fun c_205 => ?_)
      · replace h := it_e c_205 h
        refine lv_aload_n hx hb dX11_say_216 rfl (lv_at hl 0 rfl) ?_
        refine va_get (D := D) (ci := 10) (v := .ref a_leaves) (C := RX11) (T := TX11) (N := 25) hx hb hts u_X11 hown hK hP 8 rfl rfl 13 (by decide) k_f4 (fun _ h9 => h9) rfl dX11_say_217 ?_
        refine lv_aload_n hx hb dX11_say_220 rfl (lv_at hl 0 rfl) ?_
        refine va_get (D := D) (ci := 10) (v := .ref a_sayings) (C := RX11) (T := TX11) (N := 25) hx hb hts u_X11 hown hK hP 8 rfl rfl 12 (by decide) k_f0 (fun _ h9 => h9) rfl dX11_say_221 ?_
        refine lv_iconst (v := 0) hx hb dX11_say_224 ic_0 ?_
        obtain ⟨hi_225, h⟩ := ck_e h
        refine va_iald hx hb hK hP 1 0 rfl rfl hi_225 dX11_say_225 ?_
        refine lv_aload_n hx hb dX11_say_226 rfl (lv_at hl 0 rfl) ?_
        refine va_get (D := D) (ci := 10) (v := .ref a_some) (C := RX11) (T := TX11) (N := 25) hx hb hts u_X11 hown hK hP 8 rfl rfl 18 (by decide) k_f5 (fun _ h9 => h9) rfl dX11_say_227 ?_
        refine lv_iconst (v := 0) hx hb dX11_say_230 ic_0 ?_
        obtain ⟨hi_231, h⟩ := ck_e h
        refine va_iald hx hb hK hP 6 0 rfl rfl hi_231 dX11_say_231 ?_
        refine lv_aload_n hx hb dX11_say_232 rfl (lv_at hl 0 rfl) ?_
        refine va_get (D := D) (ci := 10) (v := .ref a_every) (C := RX11) (T := TX11) (N := 25) hx hb hts u_X11 hown hK hP 8 rfl rfl 19 (by decide) k_f6 (fun _ h9 => h9) rfl dX11_say_233 ?_
        refine lv_iconst (v := 0) hx hb dX11_say_236 ic_0 ?_
        obtain ⟨hi_237, h⟩ := ck_e h
        refine va_iald hx hb hK hP 7 0 rfl rfl hi_237 dX11_say_237 ?_
        refine lv_ior hx hb dX11_say_238 ?_
        obtain ⟨hi_239, h⟩ := ck_e h
        refine va_iast hx hb hK hP hD hS 2 0 rfl rfl hi_239 dX11_say_239 (fun H locs hP hD hS => ?_)
        have hP : va_P D vwCl [(a_values, .inl (cI, 3, .inl f_values)), (a_sayings, .inl (cI, 3, .inl f_sayings)), (a_leaves, .inl (cI, 24, .inl (upd f_leaves (f_sayings (0 : Int32).toNatClampNeg).toNatClampNeg ((x199_f_some (0 : Int32).toNatClampNeg) ||| (x199_f_every (0 : Int32).toNatClampNeg))))), (a_signs, .inl (cI, 24, .inl f_signs)), (a_words, .inl (cI, 3, .inl f_words)), (a_word, .inl (cI, 9, .inl f_word)), (a_some, .inl (cI, 10, .inl x199_f_some)), (a_every, .inl (cI, 10, .inl x199_f_every)), (a_o, .inr (10, [.long o_trace, .ref a_text, .int o_typed, .int o_choices, .int o_worlds, .ref a_values, .int x199_o_at, .int x199_o_start, .int x199_o_sort, .int x199_o_value, .int x199_o_fault, w_o_draft, .ref a_sayings, .ref a_leaves, .ref a_signs, .ref a_words, .ref a_word, w_o_isKept, .ref a_some, .ref a_every, .int x199_o_deep, .int x199_o_many, w_o_length, w_o_found, .int o_foundMany])), (a_text, .inl (cB, 200, .inl f_text))] H := hP
        have hD : va_D A [(a_values, .inl (cI, 3, .inl f_values)), (a_sayings, .inl (cI, 3, .inl f_sayings)), (a_leaves, .inl (cI, 24, .inl (upd f_leaves (f_sayings (0 : Int32).toNatClampNeg).toNatClampNeg ((x199_f_some (0 : Int32).toNatClampNeg) ||| (x199_f_every (0 : Int32).toNatClampNeg))))), (a_signs, .inl (cI, 24, .inl f_signs)), (a_words, .inl (cI, 3, .inl f_words)), (a_word, .inl (cI, 9, .inl f_word)), (a_some, .inl (cI, 10, .inl x199_f_some)), (a_every, .inl (cI, 10, .inl x199_f_every)), (a_o, .inr (10, [.long o_trace, .ref a_text, .int o_typed, .int o_choices, .int o_worlds, .ref a_values, .int x199_o_at, .int x199_o_start, .int x199_o_sort, .int x199_o_value, .int x199_o_fault, w_o_draft, .ref a_sayings, .ref a_leaves, .ref a_signs, .ref a_words, .ref a_word, w_o_isKept, .ref a_some, .ref a_every, .int x199_o_deep, .int x199_o_many, w_o_length, w_o_found, .int o_foundMany])), (a_text, .inl (cB, 200, .inl f_text))] := hD
        refine lv_aload_n hx hb dX11_say_240 rfl (lv_at hl 0 rfl) ?_
        refine va_get (D := D) (ci := 10) (v := .ref a_signs) (C := RX11) (T := TX11) (N := 25) hx hb hts u_X11 hown hK hP 8 rfl rfl 14 (by decide) k_f7 (fun _ h9 => h9) rfl dX11_say_241 ?_
        refine lv_aload_n hx hb dX11_say_244 rfl (lv_at hl 0 rfl) ?_
        refine va_get (D := D) (ci := 10) (v := .ref a_sayings) (C := RX11) (T := TX11) (N := 25) hx hb hts u_X11 hown hK hP 8 rfl rfl 12 (by decide) k_f0 (fun _ h9 => h9) rfl dX11_say_245 ?_
        refine lv_iconst (v := 0) hx hb dX11_say_248 ic_0 ?_
        obtain ⟨hi_249, h⟩ := ck_e h
        refine va_iald hx hb hK hP 1 0 rfl rfl hi_249 dX11_say_249 ?_
        refine lv_aload_n hx hb dX11_say_250 rfl (lv_at hl 0 rfl) ?_
        refine va_get (D := D) (ci := 10) (v := .int x199_o_many) (C := RX11) (T := TX11) (N := 25) hx hb hts u_X11 hown hK hP 8 rfl rfl 21 (by decide) k_f3 (fun _ h9 => h9) rfl dX11_say_251 ?_
        obtain ⟨hi_254, h⟩ := ck_e h
        refine va_iast hx hb hK hP hD hS 3 0 rfl rfl hi_254 dX11_say_254 (fun H locs hP hD hS => ?_)
        have hP : va_P D vwCl [(a_values, .inl (cI, 3, .inl f_values)), (a_sayings, .inl (cI, 3, .inl f_sayings)), (a_leaves, .inl (cI, 24, .inl (upd f_leaves (f_sayings (0 : Int32).toNatClampNeg).toNatClampNeg ((x199_f_some (0 : Int32).toNatClampNeg) ||| (x199_f_every (0 : Int32).toNatClampNeg))))), (a_signs, .inl (cI, 24, .inl (upd f_signs (f_sayings (0 : Int32).toNatClampNeg).toNatClampNeg x199_o_many))), (a_words, .inl (cI, 3, .inl f_words)), (a_word, .inl (cI, 9, .inl f_word)), (a_some, .inl (cI, 10, .inl x199_f_some)), (a_every, .inl (cI, 10, .inl x199_f_every)), (a_o, .inr (10, [.long o_trace, .ref a_text, .int o_typed, .int o_choices, .int o_worlds, .ref a_values, .int x199_o_at, .int x199_o_start, .int x199_o_sort, .int x199_o_value, .int x199_o_fault, w_o_draft, .ref a_sayings, .ref a_leaves, .ref a_signs, .ref a_words, .ref a_word, w_o_isKept, .ref a_some, .ref a_every, .int x199_o_deep, .int x199_o_many, w_o_length, w_o_found, .int o_foundMany])), (a_text, .inl (cB, 200, .inl f_text))] H := hP
        have hD : va_D A [(a_values, .inl (cI, 3, .inl f_values)), (a_sayings, .inl (cI, 3, .inl f_sayings)), (a_leaves, .inl (cI, 24, .inl (upd f_leaves (f_sayings (0 : Int32).toNatClampNeg).toNatClampNeg ((x199_f_some (0 : Int32).toNatClampNeg) ||| (x199_f_every (0 : Int32).toNatClampNeg))))), (a_signs, .inl (cI, 24, .inl (upd f_signs (f_sayings (0 : Int32).toNatClampNeg).toNatClampNeg x199_o_many))), (a_words, .inl (cI, 3, .inl f_words)), (a_word, .inl (cI, 9, .inl f_word)), (a_some, .inl (cI, 10, .inl x199_f_some)), (a_every, .inl (cI, 10, .inl x199_f_every)), (a_o, .inr (10, [.long o_trace, .ref a_text, .int o_typed, .int o_choices, .int o_worlds, .ref a_values, .int x199_o_at, .int x199_o_start, .int x199_o_sort, .int x199_o_value, .int x199_o_fault, w_o_draft, .ref a_sayings, .ref a_leaves, .ref a_signs, .ref a_words, .ref a_word, w_o_isKept, .ref a_some, .ref a_every, .int x199_o_deep, .int x199_o_many, w_o_length, w_o_found, .int o_foundMany])), (a_text, .inl (cB, 200, .inl f_text))] := hD
        refine lv_aload_n hx hb dX11_say_255 rfl (lv_at hl 0 rfl) ?_
        refine va_get (D := D) (ci := 10) (v := .ref a_sayings) (C := RX11) (T := TX11) (N := 25) hx hb hts u_X11 hown hK hP 8 rfl rfl 12 (by decide) k_f0 (fun _ h9 => h9) rfl dX11_say_256 ?_
        refine lv_iconst (v := 0) hx hb dX11_say_259 ic_0 ?_
        refine lv_dup2_11 hx hb dX11_say_260 rfl rfl ?_
        obtain ⟨hi_261, h⟩ := ck_e h
        refine va_iald hx hb hK hP 1 0 rfl rfl hi_261 dX11_say_261 ?_
        refine lv_iconst (v := 1) hx hb dX11_say_262 ic_1 ?_
        refine lv_iadd hx hb dX11_say_263 ?_
        obtain ⟨hi_264, h⟩ := ck_e h
        refine va_iast hx hb hK hP hD hS 1 0 rfl rfl hi_264 dX11_say_264 (fun H locs hP hD hS => ?_)
        have hP : va_P D vwCl [(a_values, .inl (cI, 3, .inl f_values)), (a_sayings, .inl (cI, 3, .inl (upd f_sayings (0 : Int32).toNatClampNeg ((f_sayings (0 : Int32).toNatClampNeg) + 1)))), (a_leaves, .inl (cI, 24, .inl (upd f_leaves (f_sayings (0 : Int32).toNatClampNeg).toNatClampNeg ((x199_f_some (0 : Int32).toNatClampNeg) ||| (x199_f_every (0 : Int32).toNatClampNeg))))), (a_signs, .inl (cI, 24, .inl (upd f_signs (f_sayings (0 : Int32).toNatClampNeg).toNatClampNeg x199_o_many))), (a_words, .inl (cI, 3, .inl f_words)), (a_word, .inl (cI, 9, .inl f_word)), (a_some, .inl (cI, 10, .inl x199_f_some)), (a_every, .inl (cI, 10, .inl x199_f_every)), (a_o, .inr (10, [.long o_trace, .ref a_text, .int o_typed, .int o_choices, .int o_worlds, .ref a_values, .int x199_o_at, .int x199_o_start, .int x199_o_sort, .int x199_o_value, .int x199_o_fault, w_o_draft, .ref a_sayings, .ref a_leaves, .ref a_signs, .ref a_words, .ref a_word, w_o_isKept, .ref a_some, .ref a_every, .int x199_o_deep, .int x199_o_many, w_o_length, w_o_found, .int o_foundMany])), (a_text, .inl (cB, 200, .inl f_text))] H := hP
        have hD : va_D A [(a_values, .inl (cI, 3, .inl f_values)), (a_sayings, .inl (cI, 3, .inl (upd f_sayings (0 : Int32).toNatClampNeg ((f_sayings (0 : Int32).toNatClampNeg) + 1)))), (a_leaves, .inl (cI, 24, .inl (upd f_leaves (f_sayings (0 : Int32).toNatClampNeg).toNatClampNeg ((x199_f_some (0 : Int32).toNatClampNeg) ||| (x199_f_every (0 : Int32).toNatClampNeg))))), (a_signs, .inl (cI, 24, .inl (upd f_signs (f_sayings (0 : Int32).toNatClampNeg).toNatClampNeg x199_o_many))), (a_words, .inl (cI, 3, .inl f_words)), (a_word, .inl (cI, 9, .inl f_word)), (a_some, .inl (cI, 10, .inl x199_f_some)), (a_every, .inl (cI, 10, .inl x199_f_every)), (a_o, .inr (10, [.long o_trace, .ref a_text, .int o_typed, .int o_choices, .int o_worlds, .ref a_values, .int x199_o_at, .int x199_o_start, .int x199_o_sort, .int x199_o_value, .int x199_o_fault, w_o_draft, .ref a_sayings, .ref a_leaves, .ref a_signs, .ref a_words, .ref a_word, w_o_isKept, .ref a_some, .ref a_every, .int x199_o_deep, .int x199_o_many, w_o_length, w_o_found, .int o_foundMany])), (a_text, .inl (cB, 200, .inl f_text))] := hD
        refine lv_aload_n hx hb dX11_say_265 rfl (lv_at hl 0 rfl) ?_
        refine lv_iconst (v := 0) hx hb dX11_say_266 ic_0 ?_
        refine va_put (D := D) (ci := 10) (v := .int 0) (ty := .int) (C := RX11) (T := TX11) (N := 25) hx hb hts u_X11 tyX11 tyX11_ok nmX11 hown hK hP hD hS 8 rfl rfl 2 (by decide) k_f8 (fun _ h9 => h9) rfl (tyX11_ok 2 (by decide)) rfl rfl (Nat.le_of_ble_eq_true rfl) dX11_say_267 (fun H locs hP hD hS => ?_)
        have hP : va_P D vwCl [(a_values, .inl (cI, 3, .inl f_values)), (a_sayings, .inl (cI, 3, .inl (upd f_sayings (0 : Int32).toNatClampNeg ((f_sayings (0 : Int32).toNatClampNeg) + 1)))), (a_leaves, .inl (cI, 24, .inl (upd f_leaves (f_sayings (0 : Int32).toNatClampNeg).toNatClampNeg ((x199_f_some (0 : Int32).toNatClampNeg) ||| (x199_f_every (0 : Int32).toNatClampNeg))))), (a_signs, .inl (cI, 24, .inl (upd f_signs (f_sayings (0 : Int32).toNatClampNeg).toNatClampNeg x199_o_many))), (a_words, .inl (cI, 3, .inl f_words)), (a_word, .inl (cI, 9, .inl f_word)), (a_some, .inl (cI, 10, .inl x199_f_some)), (a_every, .inl (cI, 10, .inl x199_f_every)), (a_o, .inr (10, [.long o_trace, .ref a_text, .int 0, .int o_choices, .int o_worlds, .ref a_values, .int x199_o_at, .int x199_o_start, .int x199_o_sort, .int x199_o_value, .int x199_o_fault, w_o_draft, .ref a_sayings, .ref a_leaves, .ref a_signs, .ref a_words, .ref a_word, w_o_isKept, .ref a_some, .ref a_every, .int x199_o_deep, .int x199_o_many, w_o_length, w_o_found, .int o_foundMany])), (a_text, .inl (cB, 200, .inl f_text))] H := hP
        have hD : va_D A [(a_values, .inl (cI, 3, .inl f_values)), (a_sayings, .inl (cI, 3, .inl (upd f_sayings (0 : Int32).toNatClampNeg ((f_sayings (0 : Int32).toNatClampNeg) + 1)))), (a_leaves, .inl (cI, 24, .inl (upd f_leaves (f_sayings (0 : Int32).toNatClampNeg).toNatClampNeg ((x199_f_some (0 : Int32).toNatClampNeg) ||| (x199_f_every (0 : Int32).toNatClampNeg))))), (a_signs, .inl (cI, 24, .inl (upd f_signs (f_sayings (0 : Int32).toNatClampNeg).toNatClampNeg x199_o_many))), (a_words, .inl (cI, 3, .inl f_words)), (a_word, .inl (cI, 9, .inl f_word)), (a_some, .inl (cI, 10, .inl x199_f_some)), (a_every, .inl (cI, 10, .inl x199_f_every)), (a_o, .inr (10, [.long o_trace, .ref a_text, .int 0, .int o_choices, .int o_worlds, .ref a_values, .int x199_o_at, .int x199_o_start, .int x199_o_sort, .int x199_o_value, .int x199_o_fault, w_o_draft, .ref a_sayings, .ref a_leaves, .ref a_signs, .ref a_words, .ref a_word, w_o_isKept, .ref a_some, .ref a_every, .int x199_o_deep, .int x199_o_many, w_o_length, w_o_found, .int o_foundMany])), (a_text, .inl (cB, 200, .inl f_text))] := hD
        refine lv_aload_n hx hb dX11_say_270 rfl (lv_at hl 0 rfl) ?_
        refine va_get (D := D) (ci := 10) (v := .ref a_sayings) (C := RX11) (T := TX11) (N := 25) hx hb hts u_X11 hown hK hP 8 rfl rfl 12 (by decide) k_f0 (fun _ h9 => h9) rfl dX11_say_271 ?_
        refine lv_iconst (v := 0) hx hb dX11_say_274 ic_0 ?_
        obtain ⟨hi_275, h⟩ := ck_e h
        refine va_iald hx hb hK hP 1 0 rfl rfl hi_275 dX11_say_275 ?_
        have hz := Option.some.inj h
        subst hz
        exact hret H locs 276 ls (fun ty h => by cases h; rfl) (hP.sub [8, 9, 0, 1, 2, 3, 4, 5, 6, 7] rfl) (hD.sub [8, 9, 0, 1, 2, 3, 4, 5, 6, 7] (by decide) rfl) hS dX11_say_276
      · replace h := if_e c_205 h
        refine lv_bipush (v := (-10)) hx hb dX11_say_208 bc_m10 ?_
        refine lv_aload_n hx hb dX11_say_210 rfl (lv_at hl 0 rfl) ?_
        refine va_get (D := D) (ci := 10) (v := .int x199_o_fault) (C := RX11) (T := TX11) (N := 25) hx hb hts u_X11 hown hK hP 8 rfl rfl 10 (by decide) k_f2 (fun _ h9 => h9) rfl dX11_say_211 ?_
        refine lv_isub hx hb dX11_say_214 ?_
        have hz := Option.some.inj h
        subst hz
        exact hret H locs 215 ls (fun ty h => by cases h; rfl) (hP.sub [8, 9, 0, 1, 2, 3, 4, 5, 6, 7] rfl) (hD.sub [8, 9, 0, 1, 2, 3, 4, 5, 6, 7] (by decide) rfl) hS dX11_say_215
    have L41 : ∀ (n : Nat), ∀ (x41_l1 : Int32) (x41_o_at : Int32) (x41_o_start : Int32) (x41_o_sort : Int32) (x41_o_value : Int32) (x41_o_fault : Int32) (x41_o_deep : Int32) (x41_o_many : Int32) (x41_f_some : (Nat → Int32)) (x41_f_every : (Nat → Int32)) (H : Heap) (locs : List Loc) (ls : Array Slot), P_X11_say_41 o_typed o_choices o_worlds f_text f_values f_words f_word k199 n x41_l1 x41_o_at x41_o_start x41_o_sort x41_o_value x41_o_fault x41_o_deep x41_o_many x41_f_some x41_f_every = some z → va_P D vwCl [(a_values, .inl (cI, 3, .inl f_values)), (a_sayings, .inl (cI, 3, .inl f_sayings)), (a_leaves, .inl (cI, 24, .inl f_leaves)), (a_signs, .inl (cI, 24, .inl f_signs)), (a_words, .inl (cI, 3, .inl f_words)), (a_word, .inl (cI, 9, .inl f_word)), (a_some, .inl (cI, 10, .inl x41_f_some)), (a_every, .inl (cI, 10, .inl x41_f_every)), (a_o, .inr (10, [.long o_trace, .ref a_text, .int o_typed, .int o_choices, .int o_worlds, .ref a_values, .int x41_o_at, .int x41_o_start, .int x41_o_sort, .int x41_o_value, .int x41_o_fault, w_o_draft, .ref a_sayings, .ref a_leaves, .ref a_signs, .ref a_words, .ref a_word, w_o_isKept, .ref a_some, .ref a_every, .int x41_o_deep, .int x41_o_many, w_o_length, w_o_found, .int o_foundMany])), (a_text, .inl (cB, 200, .inl f_text))] H → va_D A [(a_values, .inl (cI, 3, .inl f_values)), (a_sayings, .inl (cI, 3, .inl f_sayings)), (a_leaves, .inl (cI, 24, .inl f_leaves)), (a_signs, .inl (cI, 24, .inl f_signs)), (a_words, .inl (cI, 3, .inl f_words)), (a_word, .inl (cI, 9, .inl f_word)), (a_some, .inl (cI, 10, .inl x41_f_some)), (a_every, .inl (cI, 10, .inl x41_f_every)), (a_o, .inr (10, [.long o_trace, .ref a_text, .int o_typed, .int o_choices, .int o_worlds, .ref a_values, .int x41_o_at, .int x41_o_start, .int x41_o_sort, .int x41_o_value, .int x41_o_fault, w_o_draft, .ref a_sayings, .ref a_leaves, .ref a_signs, .ref a_words, .ref a_word, w_o_isKept, .ref a_some, .ref a_every, .int x41_o_deep, .int x41_o_many, w_o_length, w_o_found, .int o_foundMany])), (a_text, .inl (cB, 200, .inl f_text))] → va_S A s.heap H locs → lv_has ls 4 [(0, .ref a_o), (1, .int x41_l1)] → W p l e rmX11_say s m args below meth c H locs 0 0 Q (F0 m 41 ls []) := by
      intro n
      induction n with
      | zero =>
        intro x41_l1 x41_o_at x41_o_start x41_o_sort x41_o_value x41_o_fault x41_o_deep x41_o_many x41_f_some x41_f_every H locs ls h
        exact no_e h
      | succ n ih41 =>
        intro x41_l1 x41_o_at x41_o_start x41_o_sort x41_o_value x41_o_fault x41_o_deep x41_o_many x41_f_some x41_f_every H locs ls h hP hD hS hl
        rw [P_X11_say_41] at h
        refine lv_aload_n hx hb dX11_say_41 rfl (lv_at hl 0 rfl) ?_
        refine va_get (D := D) (ci := 10) (v := .int x41_o_fault) (C := RX11) (T := TX11) (N := 25) hx hb hts u_X11 hown hK hP 8 rfl rfl 10 (by decide) k_f2 (fun _ h9 => h9) rfl dX11_say_42 ?_
        refine lv_bipush (v := (-9)) hx hb dX11_say_45 bc_m9 ?_
        refine lv_icmp_ne (tgt := 199) hx hb dX11_say_47 (by decide) (fun c_47 => ?_) (fun c_47 => ?_)
        · replace h := if_e c_47 h
          exact Jk199 x41_o_at x41_o_start x41_o_sort x41_o_value x41_o_fault x41_o_deep x41_o_many x41_f_some x41_f_every H locs ls h hP hD hS (lv_sub hl [0] rfl)
        · replace h := it_e c_47 h
          refine lv_iload_n hx hb dX11_say_50 rfl (lv_at hl 1 rfl) ?_
          refine lv_if_eq (tgt := 199) hx hb dX11_say_51 (by decide) (fun c_51 => ?_) (fun c_51 => ?_)
          · replace h := it_e c_51 h
            exact Jk199 x41_o_at x41_o_start x41_o_sort x41_o_value x41_o_fault x41_o_deep x41_o_many x41_f_some x41_f_every H locs ls h hP hD hS (lv_sub hl [0] rfl)
          · replace h := if_e c_51 h
            refine lv_aload_n hx hb dX11_say_54 rfl (lv_at hl 0 rfl) ?_
            refine va_get (D := D) (ci := 10) (v := .int x41_o_sort) (C := RX11) (T := TX11) (N := 25) hx hb hts u_X11 hown hK hP 8 rfl rfl 8 (by decide) k_f9 (fun _ h9 => h9) rfl dX11_say_55 ?_
            refine lv_bipush (v := 7) hx hb dX11_say_58 bc_7 ?_
            obtain ⟨j68, hj68, h⟩ := jn_e h
            have Jj68 : ∀ (x68_s0 : Int32) (H : Heap) (locs : List Loc) (ls : Array Slot), j68 x68_s0 = some z → va_P D vwCl [(a_values, .inl (cI, 3, .inl f_values)), (a_sayings, .inl (cI, 3, .inl f_sayings)), (a_leaves, .inl (cI, 24, .inl f_leaves)), (a_signs, .inl (cI, 24, .inl f_signs)), (a_words, .inl (cI, 3, .inl f_words)), (a_word, .inl (cI, 9, .inl f_word)), (a_some, .inl (cI, 10, .inl x41_f_some)), (a_every, .inl (cI, 10, .inl x41_f_every)), (a_o, .inr (10, [.long o_trace, .ref a_text, .int o_typed, .int o_choices, .int o_worlds, .ref a_values, .int x41_o_at, .int x41_o_start, .int x41_o_sort, .int x41_o_value, .int x41_o_fault, w_o_draft, .ref a_sayings, .ref a_leaves, .ref a_signs, .ref a_words, .ref a_word, w_o_isKept, .ref a_some, .ref a_every, .int x41_o_deep, .int x41_o_many, w_o_length, w_o_found, .int o_foundMany])), (a_text, .inl (cB, 200, .inl f_text))] H → va_D A [(a_values, .inl (cI, 3, .inl f_values)), (a_sayings, .inl (cI, 3, .inl f_sayings)), (a_leaves, .inl (cI, 24, .inl f_leaves)), (a_signs, .inl (cI, 24, .inl f_signs)), (a_words, .inl (cI, 3, .inl f_words)), (a_word, .inl (cI, 9, .inl f_word)), (a_some, .inl (cI, 10, .inl x41_f_some)), (a_every, .inl (cI, 10, .inl x41_f_every)), (a_o, .inr (10, [.long o_trace, .ref a_text, .int o_typed, .int o_choices, .int o_worlds, .ref a_values, .int x41_o_at, .int x41_o_start, .int x41_o_sort, .int x41_o_value, .int x41_o_fault, w_o_draft, .ref a_sayings, .ref a_leaves, .ref a_signs, .ref a_words, .ref a_word, w_o_isKept, .ref a_some, .ref a_every, .int x41_o_deep, .int x41_o_many, w_o_length, w_o_found, .int o_foundMany])), (a_text, .inl (cB, 200, .inl f_text))] → va_S A s.heap H locs → lv_has ls 4 [(0, .ref a_o), (1, .int x41_l1)] → W p l e rmX11_say s m args below meth c H locs 0 0 Q (F0 m 68 ls [.int x68_s0]) := by
              intro x68_s0 H locs ls h hP hD hS hl
              rw [hj68] at h
              refine lv_istore_n (lv' := [(2, .int x68_s0), (0, .ref a_o), (1, .int x41_l1)]) hx hb dX11_say_68 rfl hl (by decide) rfl (fun ls hl => ?_)
              refine lv_aload_n hx hb dX11_say_69 rfl (lv_at hl 1 rfl) ?_
              obtain ⟨z_70, hc_70, h⟩ := bd_e h
              refine q_vV (As := []) (rest := []) (wF := [(a_sayings, .inl (cI, 3, .inl f_sayings)), (a_leaves, .inl (cI, 24, .inl f_leaves)), (a_signs, .inl (cI, 24, .inl f_signs)), (a_o, .inr (10, [.long o_trace, .ref a_text, .int o_typed, .int o_choices, .int o_worlds, .ref a_values, .int z_70.1, .int z_70.2.1, .int z_70.2.2.1, .int z_70.2.2.2.1, .int z_70.2.2.2.2.1, w_o_draft, .ref a_sayings, .ref a_leaves, .ref a_signs, .ref a_words, .ref a_word, w_o_isKept, .ref a_some, .ref a_every, .int z_70.2.2.2.2.2.1, .int z_70.2.2.2.2.2.2.1, w_o_length, w_o_found, .int o_foundMany])), (a_text, .inl (cB, 200, .inl f_text)), (a_values, .inl (cI, 3, .inl f_values)), (a_words, .inl (cI, 3, .inl f_words)), (a_word, .inl (cI, 9, .inl f_word)), (a_some, .inl (cI, 10, .inl z_70.2.2.2.2.2.2.2.1)), (a_every, .inl (cI, 10, .inl z_70.2.2.2.2.2.2.2.2))]) hF hA hZ hK hP hD hS (c_X11_readFactor l D cI cB cZ a_o o_trace o_typed o_choices o_worlds x41_o_at x41_o_start x41_o_sort x41_o_value x41_o_fault w_o_draft (.ref a_sayings) (.ref a_leaves) (.ref a_signs) w_o_isKept x41_o_deep x41_o_many w_o_length w_o_found o_foundMany a_text f_text a_values f_values a_words f_words a_word f_word a_some x41_f_some a_every x41_f_every z_70 hc_70) rfl gX11_say_X11_readFactor hdX11_readFactor ⟨rfl, rfl⟩ (Nat.le_of_ble_eq_true rfl) (Nat.le_of_ble_eq_true rfl) 10 0 rfl rfl [8, 9, 0, 4, 5, 6, 7] [1, 2, 3] rfl rfl rfl rfl (by decide) rfl hl.1 rfl (Nat.le_of_ble_eq_true rfl) (Nat.zero_le _) (Nat.zero_le _) dX11_say_70 (fun H locs hP hD hS => ?_)
              refine lv_aload_n hx hb dX11_say_73 rfl (lv_at hl 1 rfl) ?_
              refine va_get (D := D) (ci := 10) (v := .int z_70.2.2.2.2.1) (C := RX11) (T := TX11) (N := 25) hx hb hts u_X11 hown hK hP 3 rfl rfl 10 (by decide) k_f2 (fun _ h9 => h9) rfl dX11_say_74 ?_
              refine lv_bipush (v := (-9)) hx hb dX11_say_77 bc_m9 ?_
              obtain ⟨j196, hj196, h⟩ := jn_e h
              have Jj196 : ∀ (x196_l1 : Int32) (x196_o_at : Int32) (x196_o_start : Int32) (x196_o_sort : Int32) (x196_o_value : Int32) (x196_o_fault : Int32) (x196_f_some : (Nat → Int32)) (x196_f_every : (Nat → Int32)) (H : Heap) (locs : List Loc) (ls : Array Slot), j196 x196_l1 x196_o_at x196_o_start x196_o_sort x196_o_value x196_o_fault x196_f_some x196_f_every = some z → va_P D vwCl [(a_sayings, .inl (cI, 3, .inl f_sayings)), (a_leaves, .inl (cI, 24, .inl f_leaves)), (a_signs, .inl (cI, 24, .inl f_signs)), (a_o, .inr (10, [.long o_trace, .ref a_text, .int o_typed, .int o_choices, .int o_worlds, .ref a_values, .int x196_o_at, .int x196_o_start, .int x196_o_sort, .int x196_o_value, .int x196_o_fault, w_o_draft, .ref a_sayings, .ref a_leaves, .ref a_signs, .ref a_words, .ref a_word, w_o_isKept, .ref a_some, .ref a_every, .int z_70.2.2.2.2.2.1, .int z_70.2.2.2.2.2.2.1, w_o_length, w_o_found, .int o_foundMany])), (a_text, .inl (cB, 200, .inl f_text)), (a_values, .inl (cI, 3, .inl f_values)), (a_words, .inl (cI, 3, .inl f_words)), (a_word, .inl (cI, 9, .inl f_word)), (a_some, .inl (cI, 10, .inl x196_f_some)), (a_every, .inl (cI, 10, .inl x196_f_every))] H → va_D A [(a_sayings, .inl (cI, 3, .inl f_sayings)), (a_leaves, .inl (cI, 24, .inl f_leaves)), (a_signs, .inl (cI, 24, .inl f_signs)), (a_o, .inr (10, [.long o_trace, .ref a_text, .int o_typed, .int o_choices, .int o_worlds, .ref a_values, .int x196_o_at, .int x196_o_start, .int x196_o_sort, .int x196_o_value, .int x196_o_fault, w_o_draft, .ref a_sayings, .ref a_leaves, .ref a_signs, .ref a_words, .ref a_word, w_o_isKept, .ref a_some, .ref a_every, .int z_70.2.2.2.2.2.1, .int z_70.2.2.2.2.2.2.1, w_o_length, w_o_found, .int o_foundMany])), (a_text, .inl (cB, 200, .inl f_text)), (a_values, .inl (cI, 3, .inl f_values)), (a_words, .inl (cI, 3, .inl f_words)), (a_word, .inl (cI, 9, .inl f_word)), (a_some, .inl (cI, 10, .inl x196_f_some)), (a_every, .inl (cI, 10, .inl x196_f_every))] → va_S A s.heap H locs → lv_has ls 4 [(0, .ref a_o), (1, .int x196_l1)] → W p l e rmX11_say s m args below meth c H locs 0 0 Q (F0 m 196 ls []) := by
                intro x196_l1 x196_o_at x196_o_start x196_o_sort x196_o_value x196_o_fault x196_f_some x196_f_every H locs ls h hP hD hS hl
                rw [hj196] at h
                refine lv_goto (tgt := 41) hx hb dX11_say_196 (by decide) ?_
                exact ih41 x196_l1 x196_o_at x196_o_start x196_o_sort x196_o_value x196_o_fault z_70.2.2.2.2.2.1 z_70.2.2.2.2.2.2.1 x196_f_some x196_f_every H locs ls h (hP.sub [5, 0, 1, 2, 6, 7, 8, 9, 3, 4] rfl) (hD.sub [5, 0, 1, 2, 6, 7, 8, 9, 3, 4] (by decide) rfl) hS hl
              refine lv_icmp_ne (tgt := 196) hx hb dX11_say_79 (by decide) (fun c_79 => ?_) (fun c_79 => ?_)
              · replace h := if_e c_79 h
                exact Jj196 x41_l1 z_70.1 z_70.2.1 z_70.2.2.1 z_70.2.2.2.1 z_70.2.2.2.2.1 z_70.2.2.2.2.2.2.2.1 z_70.2.2.2.2.2.2.2.2 H locs ls h hP hD hS (lv_sub hl [1, 2] rfl)
              · replace h := it_e c_79 h
                refine lv_iload_n hx hb dX11_say_82 rfl (lv_at hl 0 rfl) ?_
                refine lv_if_ne (tgt := 196) hx hb dX11_say_83 (by decide) (fun c_83 => ?_) (fun c_83 => ?_)
                · replace h := if_e c_83 h
                  exact Jj196 x41_l1 z_70.1 z_70.2.1 z_70.2.2.1 z_70.2.2.2.1 z_70.2.2.2.2.1 z_70.2.2.2.2.2.2.2.1 z_70.2.2.2.2.2.2.2.2 H locs ls h hP hD hS (lv_sub hl [1, 2] rfl)
                · replace h := it_e c_83 h
                  refine lv_aload_n hx hb dX11_say_86 rfl (lv_at hl 1 rfl) ?_
                  refine va_get (D := D) (ci := 10) (v := .int z_70.2.2.1) (C := RX11) (T := TX11) (N := 25) hx hb hts u_X11 hown hK hP 3 rfl rfl 8 (by decide) k_f9 (fun _ h9 => h9) rfl dX11_say_87 ?_
                  refine lv_bipush (v := 9) hx hb dX11_say_90 bc_9 ?_
                  obtain ⟨j102, hj102, h⟩ := jn_e h
                  have Jj102 : ∀ (H : Heap) (locs : List Loc) (ls : Array Slot), j102 () = some z → va_P D vwCl [(a_sayings, .inl (cI, 3, .inl f_sayings)), (a_leaves, .inl (cI, 24, .inl f_leaves)), (a_signs, .inl (cI, 24, .inl f_signs)), (a_o, .inr (10, [.long o_trace, .ref a_text, .int o_typed, .int o_choices, .int o_worlds, .ref a_values, .int z_70.1, .int z_70.2.1, .int z_70.2.2.1, .int z_70.2.2.2.1, .int z_70.2.2.2.2.1, w_o_draft, .ref a_sayings, .ref a_leaves, .ref a_signs, .ref a_words, .ref a_word, w_o_isKept, .ref a_some, .ref a_every, .int z_70.2.2.2.2.2.1, .int z_70.2.2.2.2.2.2.1, w_o_length, w_o_found, .int o_foundMany])), (a_text, .inl (cB, 200, .inl f_text)), (a_values, .inl (cI, 3, .inl f_values)), (a_words, .inl (cI, 3, .inl f_words)), (a_word, .inl (cI, 9, .inl f_word)), (a_some, .inl (cI, 10, .inl z_70.2.2.2.2.2.2.2.1)), (a_every, .inl (cI, 10, .inl z_70.2.2.2.2.2.2.2.2))] H → va_D A [(a_sayings, .inl (cI, 3, .inl f_sayings)), (a_leaves, .inl (cI, 24, .inl f_leaves)), (a_signs, .inl (cI, 24, .inl f_signs)), (a_o, .inr (10, [.long o_trace, .ref a_text, .int o_typed, .int o_choices, .int o_worlds, .ref a_values, .int z_70.1, .int z_70.2.1, .int z_70.2.2.1, .int z_70.2.2.2.1, .int z_70.2.2.2.2.1, w_o_draft, .ref a_sayings, .ref a_leaves, .ref a_signs, .ref a_words, .ref a_word, w_o_isKept, .ref a_some, .ref a_every, .int z_70.2.2.2.2.2.1, .int z_70.2.2.2.2.2.2.1, w_o_length, w_o_found, .int o_foundMany])), (a_text, .inl (cB, 200, .inl f_text)), (a_values, .inl (cI, 3, .inl f_values)), (a_words, .inl (cI, 3, .inl f_words)), (a_word, .inl (cI, 9, .inl f_word)), (a_some, .inl (cI, 10, .inl z_70.2.2.2.2.2.2.2.1)), (a_every, .inl (cI, 10, .inl z_70.2.2.2.2.2.2.2.2))] → va_S A s.heap H locs → lv_has ls 4 [(0, .ref a_o)] → W p l e rmX11_say s m args below meth c H locs 0 0 Q (F0 m 102 ls []) := by
                    intro H locs ls h hP hD hS hl
                    rw [hj102] at h
                    refine lv_iconst (v := 1) hx hb dX11_say_102 ic_1 ?_
                    refine lv_goto (tgt := 107) hx hb dX11_say_103 (by decide) ?_
                    refine lv_istore_n (lv' := [(1, .int 1), (0, .ref a_o)]) hx hb dX11_say_107 rfl hl (by decide) rfl (fun ls hl => ?_)
                    refine lv_iload_n hx hb dX11_say_108 rfl (lv_at hl 0 rfl) ?_
                    refine lv_if_eq (tgt := 196) hx hb dX11_say_109 (by decide) (fun c_109 => ?_) (fun c_109 => ?_)
                    · replace h := it_e c_109 h
                      exact Jj196 1 z_70.1 z_70.2.1 z_70.2.2.1 z_70.2.2.2.1 z_70.2.2.2.2.1 z_70.2.2.2.2.2.2.2.1 z_70.2.2.2.2.2.2.2.2 H locs ls h hP hD hS (lv_sub hl [1, 0] rfl)
                    · replace h := if_e c_109 h
                      refine lv_aload_n hx hb dX11_say_112 rfl (lv_at hl 1 rfl) ?_
                      refine va_get (D := D) (ci := 10) (v := .int z_70.2.2.1) (C := RX11) (T := TX11) (N := 25) hx hb hts u_X11 hown hK hP 3 rfl rfl 8 (by decide) k_f9 (fun _ h9 => h9) rfl dX11_say_113 ?_
                      refine lv_iconst (v := 5) hx hb dX11_say_116 ic_5 ?_
                      obtain ⟨j125, hj125, h⟩ := jn_e h
                      have Jj125 : ∀ (x125_s0 : Int32) (H : Heap) (locs : List Loc) (ls : Array Slot), j125 x125_s0 = some z → va_P D vwCl [(a_sayings, .inl (cI, 3, .inl f_sayings)), (a_leaves, .inl (cI, 24, .inl f_leaves)), (a_signs, .inl (cI, 24, .inl f_signs)), (a_o, .inr (10, [.long o_trace, .ref a_text, .int o_typed, .int o_choices, .int o_worlds, .ref a_values, .int z_70.1, .int z_70.2.1, .int z_70.2.2.1, .int z_70.2.2.2.1, .int z_70.2.2.2.2.1, w_o_draft, .ref a_sayings, .ref a_leaves, .ref a_signs, .ref a_words, .ref a_word, w_o_isKept, .ref a_some, .ref a_every, .int z_70.2.2.2.2.2.1, .int z_70.2.2.2.2.2.2.1, w_o_length, w_o_found, .int o_foundMany])), (a_text, .inl (cB, 200, .inl f_text)), (a_values, .inl (cI, 3, .inl f_values)), (a_words, .inl (cI, 3, .inl f_words)), (a_word, .inl (cI, 9, .inl f_word)), (a_some, .inl (cI, 10, .inl z_70.2.2.2.2.2.2.2.1)), (a_every, .inl (cI, 10, .inl z_70.2.2.2.2.2.2.2.2))] H → va_D A [(a_sayings, .inl (cI, 3, .inl f_sayings)), (a_leaves, .inl (cI, 24, .inl f_leaves)), (a_signs, .inl (cI, 24, .inl f_signs)), (a_o, .inr (10, [.long o_trace, .ref a_text, .int o_typed, .int o_choices, .int o_worlds, .ref a_values, .int z_70.1, .int z_70.2.1, .int z_70.2.2.1, .int z_70.2.2.2.1, .int z_70.2.2.2.2.1, w_o_draft, .ref a_sayings, .ref a_leaves, .ref a_signs, .ref a_words, .ref a_word, w_o_isKept, .ref a_some, .ref a_every, .int z_70.2.2.2.2.2.1, .int z_70.2.2.2.2.2.2.1, w_o_length, w_o_found, .int o_foundMany])), (a_text, .inl (cB, 200, .inl f_text)), (a_values, .inl (cI, 3, .inl f_values)), (a_words, .inl (cI, 3, .inl f_words)), (a_word, .inl (cI, 9, .inl f_word)), (a_some, .inl (cI, 10, .inl z_70.2.2.2.2.2.2.2.1)), (a_every, .inl (cI, 10, .inl z_70.2.2.2.2.2.2.2.2))] → va_S A s.heap H locs → lv_has ls 4 [(0, .ref a_o), (1, .int 1)] → W p l e rmX11_say s m args below meth c H locs 0 0 Q (F0 m 125 ls [.int x125_s0]) := by
                        intro x125_s0 H locs ls h hP hD hS hl
                        rw [hj125] at h
                        refine lv_istore_n (lv' := [(3, .int x125_s0), (0, .ref a_o), (1, .int 1)]) hx hb dX11_say_125 rfl hl (by decide) rfl (fun ls hl => ?_)
                        refine lv_aload_n hx hb dX11_say_126 rfl (lv_at hl 1 rfl) ?_
                        refine lv_iload_n hx hb dX11_say_127 rfl (lv_at hl 0 rfl) ?_
                        obtain ⟨j140, hj140, h⟩ := jn_e h
                        have Jj140 : ∀ (H : Heap) (locs : List Loc) (ls : Array Slot), j140 () = some z → va_P D vwCl [(a_sayings, .inl (cI, 3, .inl f_sayings)), (a_leaves, .inl (cI, 24, .inl f_leaves)), (a_signs, .inl (cI, 24, .inl f_signs)), (a_o, .inr (10, [.long o_trace, .ref a_text, .int o_typed, .int o_choices, .int o_worlds, .ref a_values, .int z_70.1, .int z_70.2.1, .int z_70.2.2.1, .int z_70.2.2.2.1, .int z_70.2.2.2.2.1, w_o_draft, .ref a_sayings, .ref a_leaves, .ref a_signs, .ref a_words, .ref a_word, w_o_isKept, .ref a_some, .ref a_every, .int z_70.2.2.2.2.2.1, .int z_70.2.2.2.2.2.2.1, w_o_length, w_o_found, .int o_foundMany])), (a_text, .inl (cB, 200, .inl f_text)), (a_values, .inl (cI, 3, .inl f_values)), (a_words, .inl (cI, 3, .inl f_words)), (a_word, .inl (cI, 9, .inl f_word)), (a_some, .inl (cI, 10, .inl z_70.2.2.2.2.2.2.2.1)), (a_every, .inl (cI, 10, .inl z_70.2.2.2.2.2.2.2.2))] H → va_D A [(a_sayings, .inl (cI, 3, .inl f_sayings)), (a_leaves, .inl (cI, 24, .inl f_leaves)), (a_signs, .inl (cI, 24, .inl f_signs)), (a_o, .inr (10, [.long o_trace, .ref a_text, .int o_typed, .int o_choices, .int o_worlds, .ref a_values, .int z_70.1, .int z_70.2.1, .int z_70.2.2.1, .int z_70.2.2.2.1, .int z_70.2.2.2.2.1, w_o_draft, .ref a_sayings, .ref a_leaves, .ref a_signs, .ref a_words, .ref a_word, w_o_isKept, .ref a_some, .ref a_every, .int z_70.2.2.2.2.2.1, .int z_70.2.2.2.2.2.2.1, w_o_length, w_o_found, .int o_foundMany])), (a_text, .inl (cB, 200, .inl f_text)), (a_values, .inl (cI, 3, .inl f_values)), (a_words, .inl (cI, 3, .inl f_words)), (a_word, .inl (cI, 9, .inl f_word)), (a_some, .inl (cI, 10, .inl z_70.2.2.2.2.2.2.2.1)), (a_every, .inl (cI, 10, .inl z_70.2.2.2.2.2.2.2.2))] → va_S A s.heap H locs → lv_has ls 4 [(0, .ref a_o), (1, .int 1), (3, .int x125_s0)] → W p l e rmX11_say s m args below meth c H locs 0 0 Q (F0 m 140 ls [.ref a_o]) := by
                          intro H locs ls h hP hD hS hl
                          rw [hj140] at h
                          refine lv_iconst (v := 1) hx hb dX11_say_140 ic_1 ?_
                          refine lv_goto (tgt := 145) hx hb dX11_say_141 (by decide) ?_
                          obtain ⟨z_145, hc_145, h⟩ := bd_e h
                          refine q_iV (As := [.int 1]) (rest := []) (wF := [(a_sayings, .inl (cI, 3, .inl f_sayings)), (a_leaves, .inl (cI, 24, .inl f_leaves)), (a_signs, .inl (cI, 24, .inl f_signs)), (a_values, .inl (cI, 3, .inl f_values)), (a_words, .inl (cI, 3, .inl f_words)), (a_word, .inl (cI, 9, .inl f_word)), (a_some, .inl (cI, 10, .inl z_70.2.2.2.2.2.2.2.1)), (a_every, .inl (cI, 10, .inl z_70.2.2.2.2.2.2.2.2)), (a_o, .inr (10, [.long o_trace, .ref a_text, .int o_typed, .int o_choices, .int o_worlds, .ref a_values, .int z_145.2.1, .int z_145.2.2.1, .int z_145.2.2.2.1, .int z_145.2.2.2.2.1, .int z_145.2.2.2.2.2, w_o_draft, .ref a_sayings, .ref a_leaves, .ref a_signs, .ref a_words, .ref a_word, w_o_isKept, .ref a_some, .ref a_every, .int z_70.2.2.2.2.2.1, .int z_70.2.2.2.2.2.2.1, w_o_length, w_o_found, .int o_foundMany])), (a_text, .inl (cB, 200, .inl f_text))]) hF hA hZ hK hP hD hS (c_X11_due l D cI cB cZ a_o o_trace o_typed o_choices o_worlds (.ref a_values) z_70.1 z_70.2.1 z_70.2.2.1 z_70.2.2.2.1 z_70.2.2.2.2.1 w_o_draft (.ref a_sayings) (.ref a_leaves) (.ref a_signs) (.ref a_words) (.ref a_word) w_o_isKept (.ref a_some) (.ref a_every) z_70.2.2.2.2.2.1 z_70.2.2.2.2.2.2.1 w_o_length w_o_found o_foundMany a_text f_text 1 z_145 hc_145) rfl gX11_say_X11_due hdX11_due ⟨rfl, rfl⟩ (Nat.le_of_ble_eq_true rfl) (Nat.le_of_ble_eq_true rfl) 10 0 rfl rfl [3, 4] [0, 1, 2, 5, 6, 7, 8, 9] rfl rfl rfl rfl (by decide) rfl hl.1 rfl (Nat.le_of_ble_eq_true rfl) (Nat.zero_le _) (Nat.zero_le _) dX11_say_145 (fun H locs hP hD hS => ?_)
                          refine lv_pop hx hb dX11_say_148 rfl ?_
                          refine lv_aload_n hx hb dX11_say_149 rfl (lv_at hl 0 rfl) ?_
                          refine va_get (D := D) (ci := 10) (v := .int z_145.2.2.2.2.2) (C := RX11) (T := TX11) (N := 25) hx hb hts u_X11 hown hK hP 8 rfl rfl 10 (by decide) k_f2 (fun _ h9 => h9) rfl dX11_say_150 ?_
                          refine lv_bipush (v := (-9)) hx hb dX11_say_153 bc_m9 ?_
                          refine lv_icmp_ne (tgt := 196) hx hb dX11_say_155 (by decide) (fun c_155 => ?_) (fun c_155 => ?_)
                          · replace h := if_e c_155 h
                            exact Jj196 1 z_145.2.1 z_145.2.2.1 z_145.2.2.2.1 z_145.2.2.2.2.1 z_145.2.2.2.2.2 z_70.2.2.2.2.2.2.2.1 z_70.2.2.2.2.2.2.2.2 H locs ls h (hP.sub [0, 1, 2, 8, 9, 3, 4, 5, 6, 7] rfl) (hD.sub [0, 1, 2, 8, 9, 3, 4, 5, 6, 7] (by decide) rfl) hS (lv_sub hl [0, 1] rfl)
                          · replace h := it_e c_155 h
                            refine lv_iload_n hx hb dX11_say_158 rfl (lv_at hl 2 rfl) ?_
                            refine lv_if_eq (tgt := 196) hx hb dX11_say_159 (by decide) (fun c_159 => ?_) (fun c_159 => ?_)
                            · replace h := it_e c_159 h
                              exact Jj196 1 z_145.2.1 z_145.2.2.1 z_145.2.2.2.1 z_145.2.2.2.2.1 z_145.2.2.2.2.2 z_70.2.2.2.2.2.2.2.1 z_70.2.2.2.2.2.2.2.2 H locs ls h (hP.sub [0, 1, 2, 8, 9, 3, 4, 5, 6, 7] rfl) (hD.sub [0, 1, 2, 8, 9, 3, 4, 5, 6, 7] (by decide) rfl) hS (lv_sub hl [0, 1] rfl)
                            · replace h := if_e c_159 h
                              refine lv_aload_n hx hb dX11_say_162 rfl (lv_at hl 0 rfl) ?_
                              refine va_get (D := D) (ci := 10) (v := .ref a_some) (C := RX11) (T := TX11) (N := 25) hx hb hts u_X11 hown hK hP 8 rfl rfl 18 (by decide) k_f5 (fun _ h9 => h9) rfl dX11_say_163 ?_
                              refine lv_aload_n hx hb dX11_say_166 rfl (lv_at hl 0 rfl) ?_
                              refine va_get (D := D) (ci := 10) (v := .int z_70.2.2.2.2.2.1) (C := RX11) (T := TX11) (N := 25) hx hb hts u_X11 hown hK hP 8 rfl rfl 20 (by decide) k_f10 (fun _ h9 => h9) rfl dX11_say_167 ?_
                              refine lv_dup2_11 hx hb dX11_say_170 rfl rfl ?_
                              obtain ⟨hi_171, h⟩ := ck_e h
                              refine va_iald hx hb hK hP 6 0 rfl rfl hi_171 dX11_say_171 ?_
                              refine lv_aload_n hx hb dX11_say_172 rfl (lv_at hl 0 rfl) ?_
                              refine va_get (D := D) (ci := 10) (v := .ref a_every) (C := RX11) (T := TX11) (N := 25) hx hb hts u_X11 hown hK hP 8 rfl rfl 19 (by decide) k_f6 (fun _ h9 => h9) rfl dX11_say_173 ?_
                              refine lv_aload_n hx hb dX11_say_176 rfl (lv_at hl 0 rfl) ?_
                              refine va_get (D := D) (ci := 10) (v := .int z_70.2.2.2.2.2.1) (C := RX11) (T := TX11) (N := 25) hx hb hts u_X11 hown hK hP 8 rfl rfl 20 (by decide) k_f10 (fun _ h9 => h9) rfl dX11_say_177 ?_
                              obtain ⟨hi_180, h⟩ := ck_e h
                              refine va_iald hx hb hK hP 7 0 rfl rfl hi_180 dX11_say_180 ?_
                              refine lv_ior hx hb dX11_say_181 ?_
                              obtain ⟨hi_182, h⟩ := ck_e h
                              refine va_iast hx hb hK hP hD hS 6 0 rfl rfl hi_182 dX11_say_182 (fun H locs hP hD hS => ?_)
                              have hP : va_P D vwCl [(a_sayings, .inl (cI, 3, .inl f_sayings)), (a_leaves, .inl (cI, 24, .inl f_leaves)), (a_signs, .inl (cI, 24, .inl f_signs)), (a_values, .inl (cI, 3, .inl f_values)), (a_words, .inl (cI, 3, .inl f_words)), (a_word, .inl (cI, 9, .inl f_word)), (a_some, .inl (cI, 10, .inl (upd z_70.2.2.2.2.2.2.2.1 z_70.2.2.2.2.2.1.toNatClampNeg ((z_70.2.2.2.2.2.2.2.1 z_70.2.2.2.2.2.1.toNatClampNeg) ||| (z_70.2.2.2.2.2.2.2.2 z_70.2.2.2.2.2.1.toNatClampNeg))))), (a_every, .inl (cI, 10, .inl z_70.2.2.2.2.2.2.2.2)), (a_o, .inr (10, [.long o_trace, .ref a_text, .int o_typed, .int o_choices, .int o_worlds, .ref a_values, .int z_145.2.1, .int z_145.2.2.1, .int z_145.2.2.2.1, .int z_145.2.2.2.2.1, .int z_145.2.2.2.2.2, w_o_draft, .ref a_sayings, .ref a_leaves, .ref a_signs, .ref a_words, .ref a_word, w_o_isKept, .ref a_some, .ref a_every, .int z_70.2.2.2.2.2.1, .int z_70.2.2.2.2.2.2.1, w_o_length, w_o_found, .int o_foundMany])), (a_text, .inl (cB, 200, .inl f_text))] H := hP
                              have hD : va_D A [(a_sayings, .inl (cI, 3, .inl f_sayings)), (a_leaves, .inl (cI, 24, .inl f_leaves)), (a_signs, .inl (cI, 24, .inl f_signs)), (a_values, .inl (cI, 3, .inl f_values)), (a_words, .inl (cI, 3, .inl f_words)), (a_word, .inl (cI, 9, .inl f_word)), (a_some, .inl (cI, 10, .inl (upd z_70.2.2.2.2.2.2.2.1 z_70.2.2.2.2.2.1.toNatClampNeg ((z_70.2.2.2.2.2.2.2.1 z_70.2.2.2.2.2.1.toNatClampNeg) ||| (z_70.2.2.2.2.2.2.2.2 z_70.2.2.2.2.2.1.toNatClampNeg))))), (a_every, .inl (cI, 10, .inl z_70.2.2.2.2.2.2.2.2)), (a_o, .inr (10, [.long o_trace, .ref a_text, .int o_typed, .int o_choices, .int o_worlds, .ref a_values, .int z_145.2.1, .int z_145.2.2.1, .int z_145.2.2.2.1, .int z_145.2.2.2.2.1, .int z_145.2.2.2.2.2, w_o_draft, .ref a_sayings, .ref a_leaves, .ref a_signs, .ref a_words, .ref a_word, w_o_isKept, .ref a_some, .ref a_every, .int z_70.2.2.2.2.2.1, .int z_70.2.2.2.2.2.2.1, w_o_length, w_o_found, .int o_foundMany])), (a_text, .inl (cB, 200, .inl f_text))] := hD
                              refine lv_aload_n hx hb dX11_say_183 rfl (lv_at hl 0 rfl) ?_
                              refine va_get (D := D) (ci := 10) (v := .ref a_every) (C := RX11) (T := TX11) (N := 25) hx hb hts u_X11 hown hK hP 8 rfl rfl 19 (by decide) k_f6 (fun _ h9 => h9) rfl dX11_say_184 ?_
                              refine lv_aload_n hx hb dX11_say_187 rfl (lv_at hl 0 rfl) ?_
                              refine va_get (D := D) (ci := 10) (v := .int z_70.2.2.2.2.2.1) (C := RX11) (T := TX11) (N := 25) hx hb hts u_X11 hown hK hP 8 rfl rfl 20 (by decide) k_f10 (fun _ h9 => h9) rfl dX11_say_188 ?_
                              refine lv_aload_n hx hb dX11_say_191 rfl (lv_at hl 0 rfl) ?_
                              obtain ⟨z_192, hc_192, h⟩ := bd_e h
                              refine q_iV (As := []) (rest := [.int z_70.2.2.2.2.2.1, .ref a_every]) (wF := [(a_sayings, .inl (cI, 3, .inl f_sayings)), (a_leaves, .inl (cI, 24, .inl f_leaves)), (a_signs, .inl (cI, 24, .inl f_signs)), (a_values, .inl (cI, 3, .inl f_values)), (a_words, .inl (cI, 3, .inl f_words)), (a_word, .inl (cI, 9, .inl f_word)), (a_some, .inl (cI, 10, .inl (upd z_70.2.2.2.2.2.2.2.1 z_70.2.2.2.2.2.1.toNatClampNeg ((z_70.2.2.2.2.2.2.2.1 z_70.2.2.2.2.2.1.toNatClampNeg) ||| (z_70.2.2.2.2.2.2.2.2 z_70.2.2.2.2.2.1.toNatClampNeg))))), (a_every, .inl (cI, 10, .inl z_70.2.2.2.2.2.2.2.2)), (a_text, .inl (cB, 200, .inl f_text)), (a_o, .inr (10, [.long o_trace, .ref a_text, .int o_typed, .int o_choices, .int o_worlds, .ref a_values, .int z_145.2.1, .int z_145.2.2.1, .int z_145.2.2.2.1, .int z_145.2.2.2.2.1, .int z_145.2.2.2.2.2, w_o_draft, .ref a_sayings, .ref a_leaves, .ref a_signs, .ref a_words, .ref a_word, w_o_isKept, .ref a_some, .ref a_every, .int z_70.2.2.2.2.2.1, .int z_70.2.2.2.2.2.2.1, w_o_length, w_o_found, .int o_foundMany]))]) hF hA hZ hK hP hD hS (c_X11_allSets l D cI cB cZ a_o o_trace (.ref a_text) o_typed o_choices o_worlds (.ref a_values) z_145.2.1 z_145.2.2.1 z_145.2.2.2.1 z_145.2.2.2.2.1 z_145.2.2.2.2.2 w_o_draft (.ref a_sayings) (.ref a_leaves) (.ref a_signs) (.ref a_words) (.ref a_word) w_o_isKept (.ref a_some) (.ref a_every) z_70.2.2.2.2.2.1 z_70.2.2.2.2.2.2.1 w_o_length w_o_found o_foundMany z_192 hc_192) rfl gX11_say_X11_allSets hdX11_allSets ⟨rfl, rfl⟩ (Nat.le_of_ble_eq_true rfl) (Nat.le_of_ble_eq_true rfl) 10 0 rfl rfl [8] [0, 1, 2, 3, 4, 5, 6, 7, 9] rfl rfl rfl rfl (by decide) rfl hl.1 rfl (Nat.le_of_ble_eq_true rfl) (Nat.zero_le _) (Nat.zero_le _) dX11_say_192 (fun H locs hP hD hS => ?_)
                              obtain ⟨hi_195, h⟩ := ck_e h
                              refine va_iast hx hb hK hP hD hS 7 0 rfl rfl hi_195 dX11_say_195 (fun H locs hP hD hS => ?_)
                              have hP : va_P D vwCl [(a_sayings, .inl (cI, 3, .inl f_sayings)), (a_leaves, .inl (cI, 24, .inl f_leaves)), (a_signs, .inl (cI, 24, .inl f_signs)), (a_values, .inl (cI, 3, .inl f_values)), (a_words, .inl (cI, 3, .inl f_words)), (a_word, .inl (cI, 9, .inl f_word)), (a_some, .inl (cI, 10, .inl (upd z_70.2.2.2.2.2.2.2.1 z_70.2.2.2.2.2.1.toNatClampNeg ((z_70.2.2.2.2.2.2.2.1 z_70.2.2.2.2.2.1.toNatClampNeg) ||| (z_70.2.2.2.2.2.2.2.2 z_70.2.2.2.2.2.1.toNatClampNeg))))), (a_every, .inl (cI, 10, .inl (upd z_70.2.2.2.2.2.2.2.2 z_70.2.2.2.2.2.1.toNatClampNeg z_192))), (a_text, .inl (cB, 200, .inl f_text)), (a_o, .inr (10, [.long o_trace, .ref a_text, .int o_typed, .int o_choices, .int o_worlds, .ref a_values, .int z_145.2.1, .int z_145.2.2.1, .int z_145.2.2.2.1, .int z_145.2.2.2.2.1, .int z_145.2.2.2.2.2, w_o_draft, .ref a_sayings, .ref a_leaves, .ref a_signs, .ref a_words, .ref a_word, w_o_isKept, .ref a_some, .ref a_every, .int z_70.2.2.2.2.2.1, .int z_70.2.2.2.2.2.2.1, w_o_length, w_o_found, .int o_foundMany]))] H := hP
                              have hD : va_D A [(a_sayings, .inl (cI, 3, .inl f_sayings)), (a_leaves, .inl (cI, 24, .inl f_leaves)), (a_signs, .inl (cI, 24, .inl f_signs)), (a_values, .inl (cI, 3, .inl f_values)), (a_words, .inl (cI, 3, .inl f_words)), (a_word, .inl (cI, 9, .inl f_word)), (a_some, .inl (cI, 10, .inl (upd z_70.2.2.2.2.2.2.2.1 z_70.2.2.2.2.2.1.toNatClampNeg ((z_70.2.2.2.2.2.2.2.1 z_70.2.2.2.2.2.1.toNatClampNeg) ||| (z_70.2.2.2.2.2.2.2.2 z_70.2.2.2.2.2.1.toNatClampNeg))))), (a_every, .inl (cI, 10, .inl (upd z_70.2.2.2.2.2.2.2.2 z_70.2.2.2.2.2.1.toNatClampNeg z_192))), (a_text, .inl (cB, 200, .inl f_text)), (a_o, .inr (10, [.long o_trace, .ref a_text, .int o_typed, .int o_choices, .int o_worlds, .ref a_values, .int z_145.2.1, .int z_145.2.2.1, .int z_145.2.2.2.1, .int z_145.2.2.2.2.1, .int z_145.2.2.2.2.2, w_o_draft, .ref a_sayings, .ref a_leaves, .ref a_signs, .ref a_words, .ref a_word, w_o_isKept, .ref a_some, .ref a_every, .int z_70.2.2.2.2.2.1, .int z_70.2.2.2.2.2.2.1, w_o_length, w_o_found, .int o_foundMany]))] := hD
                              exact Jj196 1 z_145.2.1 z_145.2.2.1 z_145.2.2.2.1 z_145.2.2.2.2.1 z_145.2.2.2.2.2 (upd z_70.2.2.2.2.2.2.2.1 z_70.2.2.2.2.2.1.toNatClampNeg ((z_70.2.2.2.2.2.2.2.1 z_70.2.2.2.2.2.1.toNatClampNeg) ||| (z_70.2.2.2.2.2.2.2.2 z_70.2.2.2.2.2.1.toNatClampNeg))) (upd z_70.2.2.2.2.2.2.2.2 z_70.2.2.2.2.2.1.toNatClampNeg z_192) H locs ls h (hP.sub [0, 1, 2, 9, 8, 3, 4, 5, 6, 7] rfl) (hD.sub [0, 1, 2, 9, 8, 3, 4, 5, 6, 7] (by decide) rfl) hS (lv_sub hl [0, 1] rfl)
                        obtain ⟨j145, hj145, h⟩ := jn_e h
                        have Jj145 : ∀ (x145_s1 : Int32) (H : Heap) (locs : List Loc) (ls : Array Slot), j145 x145_s1 = some z → va_P D vwCl [(a_sayings, .inl (cI, 3, .inl f_sayings)), (a_leaves, .inl (cI, 24, .inl f_leaves)), (a_signs, .inl (cI, 24, .inl f_signs)), (a_o, .inr (10, [.long o_trace, .ref a_text, .int o_typed, .int o_choices, .int o_worlds, .ref a_values, .int z_70.1, .int z_70.2.1, .int z_70.2.2.1, .int z_70.2.2.2.1, .int z_70.2.2.2.2.1, w_o_draft, .ref a_sayings, .ref a_leaves, .ref a_signs, .ref a_words, .ref a_word, w_o_isKept, .ref a_some, .ref a_every, .int z_70.2.2.2.2.2.1, .int z_70.2.2.2.2.2.2.1, w_o_length, w_o_found, .int o_foundMany])), (a_text, .inl (cB, 200, .inl f_text)), (a_values, .inl (cI, 3, .inl f_values)), (a_words, .inl (cI, 3, .inl f_words)), (a_word, .inl (cI, 9, .inl f_word)), (a_some, .inl (cI, 10, .inl z_70.2.2.2.2.2.2.2.1)), (a_every, .inl (cI, 10, .inl z_70.2.2.2.2.2.2.2.2))] H → va_D A [(a_sayings, .inl (cI, 3, .inl f_sayings)), (a_leaves, .inl (cI, 24, .inl f_leaves)), (a_signs, .inl (cI, 24, .inl f_signs)), (a_o, .inr (10, [.long o_trace, .ref a_text, .int o_typed, .int o_choices, .int o_worlds, .ref a_values, .int z_70.1, .int z_70.2.1, .int z_70.2.2.1, .int z_70.2.2.2.1, .int z_70.2.2.2.2.1, w_o_draft, .ref a_sayings, .ref a_leaves, .ref a_signs, .ref a_words, .ref a_word, w_o_isKept, .ref a_some, .ref a_every, .int z_70.2.2.2.2.2.1, .int z_70.2.2.2.2.2.2.1, w_o_length, w_o_found, .int o_foundMany])), (a_text, .inl (cB, 200, .inl f_text)), (a_values, .inl (cI, 3, .inl f_values)), (a_words, .inl (cI, 3, .inl f_words)), (a_word, .inl (cI, 9, .inl f_word)), (a_some, .inl (cI, 10, .inl z_70.2.2.2.2.2.2.2.1)), (a_every, .inl (cI, 10, .inl z_70.2.2.2.2.2.2.2.2))] → va_S A s.heap H locs → lv_has ls 4 [(0, .ref a_o), (1, .int 1), (3, .int x125_s0)] → W p l e rmX11_say s m args below meth c H locs 0 0 Q (F0 m 145 ls [.int x145_s1, .ref a_o]) := by
                          intro x145_s1 H locs ls h hP hD hS hl
                          rw [hj145] at h
                          obtain ⟨z_145, hc_145, h⟩ := bd_e h
                          refine q_iV (As := [.int x145_s1]) (rest := []) (wF := [(a_sayings, .inl (cI, 3, .inl f_sayings)), (a_leaves, .inl (cI, 24, .inl f_leaves)), (a_signs, .inl (cI, 24, .inl f_signs)), (a_values, .inl (cI, 3, .inl f_values)), (a_words, .inl (cI, 3, .inl f_words)), (a_word, .inl (cI, 9, .inl f_word)), (a_some, .inl (cI, 10, .inl z_70.2.2.2.2.2.2.2.1)), (a_every, .inl (cI, 10, .inl z_70.2.2.2.2.2.2.2.2)), (a_o, .inr (10, [.long o_trace, .ref a_text, .int o_typed, .int o_choices, .int o_worlds, .ref a_values, .int z_145.2.1, .int z_145.2.2.1, .int z_145.2.2.2.1, .int z_145.2.2.2.2.1, .int z_145.2.2.2.2.2, w_o_draft, .ref a_sayings, .ref a_leaves, .ref a_signs, .ref a_words, .ref a_word, w_o_isKept, .ref a_some, .ref a_every, .int z_70.2.2.2.2.2.1, .int z_70.2.2.2.2.2.2.1, w_o_length, w_o_found, .int o_foundMany])), (a_text, .inl (cB, 200, .inl f_text))]) hF hA hZ hK hP hD hS (c_X11_due l D cI cB cZ a_o o_trace o_typed o_choices o_worlds (.ref a_values) z_70.1 z_70.2.1 z_70.2.2.1 z_70.2.2.2.1 z_70.2.2.2.2.1 w_o_draft (.ref a_sayings) (.ref a_leaves) (.ref a_signs) (.ref a_words) (.ref a_word) w_o_isKept (.ref a_some) (.ref a_every) z_70.2.2.2.2.2.1 z_70.2.2.2.2.2.2.1 w_o_length w_o_found o_foundMany a_text f_text x145_s1 z_145 hc_145) rfl gX11_say_X11_due hdX11_due ⟨rfl, rfl⟩ (Nat.le_of_ble_eq_true rfl) (Nat.le_of_ble_eq_true rfl) 10 0 rfl rfl [3, 4] [0, 1, 2, 5, 6, 7, 8, 9] rfl rfl rfl rfl (by decide) rfl hl.1 rfl (Nat.le_of_ble_eq_true rfl) (Nat.zero_le _) (Nat.zero_le _) dX11_say_145 (fun H locs hP hD hS => ?_)
                          refine lv_pop hx hb dX11_say_148 rfl ?_
                          refine lv_aload_n hx hb dX11_say_149 rfl (lv_at hl 0 rfl) ?_
                          refine va_get (D := D) (ci := 10) (v := .int z_145.2.2.2.2.2) (C := RX11) (T := TX11) (N := 25) hx hb hts u_X11 hown hK hP 8 rfl rfl 10 (by decide) k_f2 (fun _ h9 => h9) rfl dX11_say_150 ?_
                          refine lv_bipush (v := (-9)) hx hb dX11_say_153 bc_m9 ?_
                          refine lv_icmp_ne (tgt := 196) hx hb dX11_say_155 (by decide) (fun c_155 => ?_) (fun c_155 => ?_)
                          · replace h := if_e c_155 h
                            exact Jj196 1 z_145.2.1 z_145.2.2.1 z_145.2.2.2.1 z_145.2.2.2.2.1 z_145.2.2.2.2.2 z_70.2.2.2.2.2.2.2.1 z_70.2.2.2.2.2.2.2.2 H locs ls h (hP.sub [0, 1, 2, 8, 9, 3, 4, 5, 6, 7] rfl) (hD.sub [0, 1, 2, 8, 9, 3, 4, 5, 6, 7] (by decide) rfl) hS (lv_sub hl [0, 1] rfl)
                          · replace h := it_e c_155 h
                            refine lv_iload_n hx hb dX11_say_158 rfl (lv_at hl 2 rfl) ?_
                            refine lv_if_eq (tgt := 196) hx hb dX11_say_159 (by decide) (fun c_159 => ?_) (fun c_159 => ?_)
                            · replace h := it_e c_159 h
                              exact Jj196 1 z_145.2.1 z_145.2.2.1 z_145.2.2.2.1 z_145.2.2.2.2.1 z_145.2.2.2.2.2 z_70.2.2.2.2.2.2.2.1 z_70.2.2.2.2.2.2.2.2 H locs ls h (hP.sub [0, 1, 2, 8, 9, 3, 4, 5, 6, 7] rfl) (hD.sub [0, 1, 2, 8, 9, 3, 4, 5, 6, 7] (by decide) rfl) hS (lv_sub hl [0, 1] rfl)
                            · replace h := if_e c_159 h
                              refine lv_aload_n hx hb dX11_say_162 rfl (lv_at hl 0 rfl) ?_
                              refine va_get (D := D) (ci := 10) (v := .ref a_some) (C := RX11) (T := TX11) (N := 25) hx hb hts u_X11 hown hK hP 8 rfl rfl 18 (by decide) k_f5 (fun _ h9 => h9) rfl dX11_say_163 ?_
                              refine lv_aload_n hx hb dX11_say_166 rfl (lv_at hl 0 rfl) ?_
                              refine va_get (D := D) (ci := 10) (v := .int z_70.2.2.2.2.2.1) (C := RX11) (T := TX11) (N := 25) hx hb hts u_X11 hown hK hP 8 rfl rfl 20 (by decide) k_f10 (fun _ h9 => h9) rfl dX11_say_167 ?_
                              refine lv_dup2_11 hx hb dX11_say_170 rfl rfl ?_
                              obtain ⟨hi_171, h⟩ := ck_e h
                              refine va_iald hx hb hK hP 6 0 rfl rfl hi_171 dX11_say_171 ?_
                              refine lv_aload_n hx hb dX11_say_172 rfl (lv_at hl 0 rfl) ?_
                              refine va_get (D := D) (ci := 10) (v := .ref a_every) (C := RX11) (T := TX11) (N := 25) hx hb hts u_X11 hown hK hP 8 rfl rfl 19 (by decide) k_f6 (fun _ h9 => h9) rfl dX11_say_173 ?_
                              refine lv_aload_n hx hb dX11_say_176 rfl (lv_at hl 0 rfl) ?_
                              refine va_get (D := D) (ci := 10) (v := .int z_70.2.2.2.2.2.1) (C := RX11) (T := TX11) (N := 25) hx hb hts u_X11 hown hK hP 8 rfl rfl 20 (by decide) k_f10 (fun _ h9 => h9) rfl dX11_say_177 ?_
                              obtain ⟨hi_180, h⟩ := ck_e h
                              refine va_iald hx hb hK hP 7 0 rfl rfl hi_180 dX11_say_180 ?_
                              refine lv_ior hx hb dX11_say_181 ?_
                              obtain ⟨hi_182, h⟩ := ck_e h
                              refine va_iast hx hb hK hP hD hS 6 0 rfl rfl hi_182 dX11_say_182 (fun H locs hP hD hS => ?_)
                              have hP : va_P D vwCl [(a_sayings, .inl (cI, 3, .inl f_sayings)), (a_leaves, .inl (cI, 24, .inl f_leaves)), (a_signs, .inl (cI, 24, .inl f_signs)), (a_values, .inl (cI, 3, .inl f_values)), (a_words, .inl (cI, 3, .inl f_words)), (a_word, .inl (cI, 9, .inl f_word)), (a_some, .inl (cI, 10, .inl (upd z_70.2.2.2.2.2.2.2.1 z_70.2.2.2.2.2.1.toNatClampNeg ((z_70.2.2.2.2.2.2.2.1 z_70.2.2.2.2.2.1.toNatClampNeg) ||| (z_70.2.2.2.2.2.2.2.2 z_70.2.2.2.2.2.1.toNatClampNeg))))), (a_every, .inl (cI, 10, .inl z_70.2.2.2.2.2.2.2.2)), (a_o, .inr (10, [.long o_trace, .ref a_text, .int o_typed, .int o_choices, .int o_worlds, .ref a_values, .int z_145.2.1, .int z_145.2.2.1, .int z_145.2.2.2.1, .int z_145.2.2.2.2.1, .int z_145.2.2.2.2.2, w_o_draft, .ref a_sayings, .ref a_leaves, .ref a_signs, .ref a_words, .ref a_word, w_o_isKept, .ref a_some, .ref a_every, .int z_70.2.2.2.2.2.1, .int z_70.2.2.2.2.2.2.1, w_o_length, w_o_found, .int o_foundMany])), (a_text, .inl (cB, 200, .inl f_text))] H := hP
                              have hD : va_D A [(a_sayings, .inl (cI, 3, .inl f_sayings)), (a_leaves, .inl (cI, 24, .inl f_leaves)), (a_signs, .inl (cI, 24, .inl f_signs)), (a_values, .inl (cI, 3, .inl f_values)), (a_words, .inl (cI, 3, .inl f_words)), (a_word, .inl (cI, 9, .inl f_word)), (a_some, .inl (cI, 10, .inl (upd z_70.2.2.2.2.2.2.2.1 z_70.2.2.2.2.2.1.toNatClampNeg ((z_70.2.2.2.2.2.2.2.1 z_70.2.2.2.2.2.1.toNatClampNeg) ||| (z_70.2.2.2.2.2.2.2.2 z_70.2.2.2.2.2.1.toNatClampNeg))))), (a_every, .inl (cI, 10, .inl z_70.2.2.2.2.2.2.2.2)), (a_o, .inr (10, [.long o_trace, .ref a_text, .int o_typed, .int o_choices, .int o_worlds, .ref a_values, .int z_145.2.1, .int z_145.2.2.1, .int z_145.2.2.2.1, .int z_145.2.2.2.2.1, .int z_145.2.2.2.2.2, w_o_draft, .ref a_sayings, .ref a_leaves, .ref a_signs, .ref a_words, .ref a_word, w_o_isKept, .ref a_some, .ref a_every, .int z_70.2.2.2.2.2.1, .int z_70.2.2.2.2.2.2.1, w_o_length, w_o_found, .int o_foundMany])), (a_text, .inl (cB, 200, .inl f_text))] := hD
                              refine lv_aload_n hx hb dX11_say_183 rfl (lv_at hl 0 rfl) ?_
                              refine va_get (D := D) (ci := 10) (v := .ref a_every) (C := RX11) (T := TX11) (N := 25) hx hb hts u_X11 hown hK hP 8 rfl rfl 19 (by decide) k_f6 (fun _ h9 => h9) rfl dX11_say_184 ?_
                              refine lv_aload_n hx hb dX11_say_187 rfl (lv_at hl 0 rfl) ?_
                              refine va_get (D := D) (ci := 10) (v := .int z_70.2.2.2.2.2.1) (C := RX11) (T := TX11) (N := 25) hx hb hts u_X11 hown hK hP 8 rfl rfl 20 (by decide) k_f10 (fun _ h9 => h9) rfl dX11_say_188 ?_
                              refine lv_aload_n hx hb dX11_say_191 rfl (lv_at hl 0 rfl) ?_
                              obtain ⟨z_192, hc_192, h⟩ := bd_e h
                              refine q_iV (As := []) (rest := [.int z_70.2.2.2.2.2.1, .ref a_every]) (wF := [(a_sayings, .inl (cI, 3, .inl f_sayings)), (a_leaves, .inl (cI, 24, .inl f_leaves)), (a_signs, .inl (cI, 24, .inl f_signs)), (a_values, .inl (cI, 3, .inl f_values)), (a_words, .inl (cI, 3, .inl f_words)), (a_word, .inl (cI, 9, .inl f_word)), (a_some, .inl (cI, 10, .inl (upd z_70.2.2.2.2.2.2.2.1 z_70.2.2.2.2.2.1.toNatClampNeg ((z_70.2.2.2.2.2.2.2.1 z_70.2.2.2.2.2.1.toNatClampNeg) ||| (z_70.2.2.2.2.2.2.2.2 z_70.2.2.2.2.2.1.toNatClampNeg))))), (a_every, .inl (cI, 10, .inl z_70.2.2.2.2.2.2.2.2)), (a_text, .inl (cB, 200, .inl f_text)), (a_o, .inr (10, [.long o_trace, .ref a_text, .int o_typed, .int o_choices, .int o_worlds, .ref a_values, .int z_145.2.1, .int z_145.2.2.1, .int z_145.2.2.2.1, .int z_145.2.2.2.2.1, .int z_145.2.2.2.2.2, w_o_draft, .ref a_sayings, .ref a_leaves, .ref a_signs, .ref a_words, .ref a_word, w_o_isKept, .ref a_some, .ref a_every, .int z_70.2.2.2.2.2.1, .int z_70.2.2.2.2.2.2.1, w_o_length, w_o_found, .int o_foundMany]))]) hF hA hZ hK hP hD hS (c_X11_allSets l D cI cB cZ a_o o_trace (.ref a_text) o_typed o_choices o_worlds (.ref a_values) z_145.2.1 z_145.2.2.1 z_145.2.2.2.1 z_145.2.2.2.2.1 z_145.2.2.2.2.2 w_o_draft (.ref a_sayings) (.ref a_leaves) (.ref a_signs) (.ref a_words) (.ref a_word) w_o_isKept (.ref a_some) (.ref a_every) z_70.2.2.2.2.2.1 z_70.2.2.2.2.2.2.1 w_o_length w_o_found o_foundMany z_192 hc_192) rfl gX11_say_X11_allSets hdX11_allSets ⟨rfl, rfl⟩ (Nat.le_of_ble_eq_true rfl) (Nat.le_of_ble_eq_true rfl) 10 0 rfl rfl [8] [0, 1, 2, 3, 4, 5, 6, 7, 9] rfl rfl rfl rfl (by decide) rfl hl.1 rfl (Nat.le_of_ble_eq_true rfl) (Nat.zero_le _) (Nat.zero_le _) dX11_say_192 (fun H locs hP hD hS => ?_)
                              obtain ⟨hi_195, h⟩ := ck_e h
                              refine va_iast hx hb hK hP hD hS 7 0 rfl rfl hi_195 dX11_say_195 (fun H locs hP hD hS => ?_)
                              have hP : va_P D vwCl [(a_sayings, .inl (cI, 3, .inl f_sayings)), (a_leaves, .inl (cI, 24, .inl f_leaves)), (a_signs, .inl (cI, 24, .inl f_signs)), (a_values, .inl (cI, 3, .inl f_values)), (a_words, .inl (cI, 3, .inl f_words)), (a_word, .inl (cI, 9, .inl f_word)), (a_some, .inl (cI, 10, .inl (upd z_70.2.2.2.2.2.2.2.1 z_70.2.2.2.2.2.1.toNatClampNeg ((z_70.2.2.2.2.2.2.2.1 z_70.2.2.2.2.2.1.toNatClampNeg) ||| (z_70.2.2.2.2.2.2.2.2 z_70.2.2.2.2.2.1.toNatClampNeg))))), (a_every, .inl (cI, 10, .inl (upd z_70.2.2.2.2.2.2.2.2 z_70.2.2.2.2.2.1.toNatClampNeg z_192))), (a_text, .inl (cB, 200, .inl f_text)), (a_o, .inr (10, [.long o_trace, .ref a_text, .int o_typed, .int o_choices, .int o_worlds, .ref a_values, .int z_145.2.1, .int z_145.2.2.1, .int z_145.2.2.2.1, .int z_145.2.2.2.2.1, .int z_145.2.2.2.2.2, w_o_draft, .ref a_sayings, .ref a_leaves, .ref a_signs, .ref a_words, .ref a_word, w_o_isKept, .ref a_some, .ref a_every, .int z_70.2.2.2.2.2.1, .int z_70.2.2.2.2.2.2.1, w_o_length, w_o_found, .int o_foundMany]))] H := hP
                              have hD : va_D A [(a_sayings, .inl (cI, 3, .inl f_sayings)), (a_leaves, .inl (cI, 24, .inl f_leaves)), (a_signs, .inl (cI, 24, .inl f_signs)), (a_values, .inl (cI, 3, .inl f_values)), (a_words, .inl (cI, 3, .inl f_words)), (a_word, .inl (cI, 9, .inl f_word)), (a_some, .inl (cI, 10, .inl (upd z_70.2.2.2.2.2.2.2.1 z_70.2.2.2.2.2.1.toNatClampNeg ((z_70.2.2.2.2.2.2.2.1 z_70.2.2.2.2.2.1.toNatClampNeg) ||| (z_70.2.2.2.2.2.2.2.2 z_70.2.2.2.2.2.1.toNatClampNeg))))), (a_every, .inl (cI, 10, .inl (upd z_70.2.2.2.2.2.2.2.2 z_70.2.2.2.2.2.1.toNatClampNeg z_192))), (a_text, .inl (cB, 200, .inl f_text)), (a_o, .inr (10, [.long o_trace, .ref a_text, .int o_typed, .int o_choices, .int o_worlds, .ref a_values, .int z_145.2.1, .int z_145.2.2.1, .int z_145.2.2.2.1, .int z_145.2.2.2.2.1, .int z_145.2.2.2.2.2, w_o_draft, .ref a_sayings, .ref a_leaves, .ref a_signs, .ref a_words, .ref a_word, w_o_isKept, .ref a_some, .ref a_every, .int z_70.2.2.2.2.2.1, .int z_70.2.2.2.2.2.2.1, w_o_length, w_o_found, .int o_foundMany]))] := hD
                              exact Jj196 1 z_145.2.1 z_145.2.2.1 z_145.2.2.2.1 z_145.2.2.2.2.1 z_145.2.2.2.2.2 (upd z_70.2.2.2.2.2.2.2.1 z_70.2.2.2.2.2.1.toNatClampNeg ((z_70.2.2.2.2.2.2.2.1 z_70.2.2.2.2.2.1.toNatClampNeg) ||| (z_70.2.2.2.2.2.2.2.2 z_70.2.2.2.2.2.1.toNatClampNeg))) (upd z_70.2.2.2.2.2.2.2.2 z_70.2.2.2.2.2.1.toNatClampNeg z_192) H locs ls h (hP.sub [0, 1, 2, 9, 8, 3, 4, 5, 6, 7] rfl) (hD.sub [0, 1, 2, 9, 8, 3, 4, 5, 6, 7] (by decide) rfl) hS (lv_sub hl [0, 1] rfl)
                        refine lv_if_ne (tgt := 140) hx hb dX11_say_128 (by decide) (fun c_128 => ?_) (fun c_128 => ?_)
                        · replace h := if_e c_128 h
                          exact Jj140  H locs ls h hP hD hS (lv_sub hl [1, 2, 0] rfl)
                        · replace h := it_e c_128 h
                          refine lv_aload_n hx hb dX11_say_131 rfl (lv_at hl 1 rfl) ?_
                          refine va_get (D := D) (ci := 10) (v := .int z_70.2.2.1) (C := RX11) (T := TX11) (N := 25) hx hb hts u_X11 hown hK hP 3 rfl rfl 8 (by decide) k_f9 (fun _ h9 => h9) rfl dX11_say_132 ?_
                          refine lv_bipush (v := 6) hx hb dX11_say_135 bc_6 ?_
                          refine lv_icmp_ne (tgt := 144) hx hb dX11_say_137 (by decide) (fun c_137 => ?_) (fun c_137 => ?_)
                          · replace h := if_e c_137 h
                            refine lv_iconst (v := 0) hx hb dX11_say_144 ic_0 ?_
                            exact Jj145 0 H locs ls h hP hD hS (lv_sub hl [1, 2, 0] rfl)
                          · replace h := it_e c_137 h
                            exact Jj140  H locs ls h hP hD hS (lv_sub hl [1, 2, 0] rfl)
                      refine lv_icmp_ne (tgt := 124) hx hb dX11_say_117 (by decide) (fun c_117 => ?_) (fun c_117 => ?_)
                      · replace h := if_e c_117 h
                        refine lv_iconst (v := 0) hx hb dX11_say_124 ic_0 ?_
                        exact Jj125 0 H locs ls h hP hD hS (lv_sub hl [1, 0] rfl)
                      · replace h := it_e c_117 h
                        refine lv_iconst (v := 1) hx hb dX11_say_120 ic_1 ?_
                        refine lv_goto (tgt := 125) hx hb dX11_say_121 (by decide) ?_
                        exact Jj125 1 H locs ls h hP hD hS (lv_sub hl [1, 0] rfl)
                  obtain ⟨j107, hj107, h⟩ := jn_e h
                  have Jj107 : ∀ (x107_s0 : Int32) (H : Heap) (locs : List Loc) (ls : Array Slot), j107 x107_s0 = some z → va_P D vwCl [(a_sayings, .inl (cI, 3, .inl f_sayings)), (a_leaves, .inl (cI, 24, .inl f_leaves)), (a_signs, .inl (cI, 24, .inl f_signs)), (a_o, .inr (10, [.long o_trace, .ref a_text, .int o_typed, .int o_choices, .int o_worlds, .ref a_values, .int z_70.1, .int z_70.2.1, .int z_70.2.2.1, .int z_70.2.2.2.1, .int z_70.2.2.2.2.1, w_o_draft, .ref a_sayings, .ref a_leaves, .ref a_signs, .ref a_words, .ref a_word, w_o_isKept, .ref a_some, .ref a_every, .int z_70.2.2.2.2.2.1, .int z_70.2.2.2.2.2.2.1, w_o_length, w_o_found, .int o_foundMany])), (a_text, .inl (cB, 200, .inl f_text)), (a_values, .inl (cI, 3, .inl f_values)), (a_words, .inl (cI, 3, .inl f_words)), (a_word, .inl (cI, 9, .inl f_word)), (a_some, .inl (cI, 10, .inl z_70.2.2.2.2.2.2.2.1)), (a_every, .inl (cI, 10, .inl z_70.2.2.2.2.2.2.2.2))] H → va_D A [(a_sayings, .inl (cI, 3, .inl f_sayings)), (a_leaves, .inl (cI, 24, .inl f_leaves)), (a_signs, .inl (cI, 24, .inl f_signs)), (a_o, .inr (10, [.long o_trace, .ref a_text, .int o_typed, .int o_choices, .int o_worlds, .ref a_values, .int z_70.1, .int z_70.2.1, .int z_70.2.2.1, .int z_70.2.2.2.1, .int z_70.2.2.2.2.1, w_o_draft, .ref a_sayings, .ref a_leaves, .ref a_signs, .ref a_words, .ref a_word, w_o_isKept, .ref a_some, .ref a_every, .int z_70.2.2.2.2.2.1, .int z_70.2.2.2.2.2.2.1, w_o_length, w_o_found, .int o_foundMany])), (a_text, .inl (cB, 200, .inl f_text)), (a_values, .inl (cI, 3, .inl f_values)), (a_words, .inl (cI, 3, .inl f_words)), (a_word, .inl (cI, 9, .inl f_word)), (a_some, .inl (cI, 10, .inl z_70.2.2.2.2.2.2.2.1)), (a_every, .inl (cI, 10, .inl z_70.2.2.2.2.2.2.2.2))] → va_S A s.heap H locs → lv_has ls 4 [(0, .ref a_o)] → W p l e rmX11_say s m args below meth c H locs 0 0 Q (F0 m 107 ls [.int x107_s0]) := by
                    intro x107_s0 H locs ls h hP hD hS hl
                    rw [hj107] at h
                    refine lv_istore_n (lv' := [(1, .int x107_s0), (0, .ref a_o)]) hx hb dX11_say_107 rfl hl (by decide) rfl (fun ls hl => ?_)
                    refine lv_iload_n hx hb dX11_say_108 rfl (lv_at hl 0 rfl) ?_
                    refine lv_if_eq (tgt := 196) hx hb dX11_say_109 (by decide) (fun c_109 => ?_) (fun c_109 => ?_)
                    · replace h := it_e c_109 h
                      exact Jj196 x107_s0 z_70.1 z_70.2.1 z_70.2.2.1 z_70.2.2.2.1 z_70.2.2.2.2.1 z_70.2.2.2.2.2.2.2.1 z_70.2.2.2.2.2.2.2.2 H locs ls h hP hD hS (lv_sub hl [1, 0] rfl)
                    · replace h := if_e c_109 h
                      refine lv_aload_n hx hb dX11_say_112 rfl (lv_at hl 1 rfl) ?_
                      refine va_get (D := D) (ci := 10) (v := .int z_70.2.2.1) (C := RX11) (T := TX11) (N := 25) hx hb hts u_X11 hown hK hP 3 rfl rfl 8 (by decide) k_f9 (fun _ h9 => h9) rfl dX11_say_113 ?_
                      refine lv_iconst (v := 5) hx hb dX11_say_116 ic_5 ?_
                      obtain ⟨j125, hj125, h⟩ := jn_e h
                      have Jj125 : ∀ (x125_s0 : Int32) (H : Heap) (locs : List Loc) (ls : Array Slot), j125 x125_s0 = some z → va_P D vwCl [(a_sayings, .inl (cI, 3, .inl f_sayings)), (a_leaves, .inl (cI, 24, .inl f_leaves)), (a_signs, .inl (cI, 24, .inl f_signs)), (a_o, .inr (10, [.long o_trace, .ref a_text, .int o_typed, .int o_choices, .int o_worlds, .ref a_values, .int z_70.1, .int z_70.2.1, .int z_70.2.2.1, .int z_70.2.2.2.1, .int z_70.2.2.2.2.1, w_o_draft, .ref a_sayings, .ref a_leaves, .ref a_signs, .ref a_words, .ref a_word, w_o_isKept, .ref a_some, .ref a_every, .int z_70.2.2.2.2.2.1, .int z_70.2.2.2.2.2.2.1, w_o_length, w_o_found, .int o_foundMany])), (a_text, .inl (cB, 200, .inl f_text)), (a_values, .inl (cI, 3, .inl f_values)), (a_words, .inl (cI, 3, .inl f_words)), (a_word, .inl (cI, 9, .inl f_word)), (a_some, .inl (cI, 10, .inl z_70.2.2.2.2.2.2.2.1)), (a_every, .inl (cI, 10, .inl z_70.2.2.2.2.2.2.2.2))] H → va_D A [(a_sayings, .inl (cI, 3, .inl f_sayings)), (a_leaves, .inl (cI, 24, .inl f_leaves)), (a_signs, .inl (cI, 24, .inl f_signs)), (a_o, .inr (10, [.long o_trace, .ref a_text, .int o_typed, .int o_choices, .int o_worlds, .ref a_values, .int z_70.1, .int z_70.2.1, .int z_70.2.2.1, .int z_70.2.2.2.1, .int z_70.2.2.2.2.1, w_o_draft, .ref a_sayings, .ref a_leaves, .ref a_signs, .ref a_words, .ref a_word, w_o_isKept, .ref a_some, .ref a_every, .int z_70.2.2.2.2.2.1, .int z_70.2.2.2.2.2.2.1, w_o_length, w_o_found, .int o_foundMany])), (a_text, .inl (cB, 200, .inl f_text)), (a_values, .inl (cI, 3, .inl f_values)), (a_words, .inl (cI, 3, .inl f_words)), (a_word, .inl (cI, 9, .inl f_word)), (a_some, .inl (cI, 10, .inl z_70.2.2.2.2.2.2.2.1)), (a_every, .inl (cI, 10, .inl z_70.2.2.2.2.2.2.2.2))] → va_S A s.heap H locs → lv_has ls 4 [(0, .ref a_o), (1, .int x107_s0)] → W p l e rmX11_say s m args below meth c H locs 0 0 Q (F0 m 125 ls [.int x125_s0]) := by
                        intro x125_s0 H locs ls h hP hD hS hl
                        rw [hj125] at h
                        refine lv_istore_n (lv' := [(3, .int x125_s0), (0, .ref a_o), (1, .int x107_s0)]) hx hb dX11_say_125 rfl hl (by decide) rfl (fun ls hl => ?_)
                        refine lv_aload_n hx hb dX11_say_126 rfl (lv_at hl 1 rfl) ?_
                        refine lv_iload_n hx hb dX11_say_127 rfl (lv_at hl 0 rfl) ?_
                        obtain ⟨j140, hj140, h⟩ := jn_e h
                        have Jj140 : ∀ (H : Heap) (locs : List Loc) (ls : Array Slot), j140 () = some z → va_P D vwCl [(a_sayings, .inl (cI, 3, .inl f_sayings)), (a_leaves, .inl (cI, 24, .inl f_leaves)), (a_signs, .inl (cI, 24, .inl f_signs)), (a_o, .inr (10, [.long o_trace, .ref a_text, .int o_typed, .int o_choices, .int o_worlds, .ref a_values, .int z_70.1, .int z_70.2.1, .int z_70.2.2.1, .int z_70.2.2.2.1, .int z_70.2.2.2.2.1, w_o_draft, .ref a_sayings, .ref a_leaves, .ref a_signs, .ref a_words, .ref a_word, w_o_isKept, .ref a_some, .ref a_every, .int z_70.2.2.2.2.2.1, .int z_70.2.2.2.2.2.2.1, w_o_length, w_o_found, .int o_foundMany])), (a_text, .inl (cB, 200, .inl f_text)), (a_values, .inl (cI, 3, .inl f_values)), (a_words, .inl (cI, 3, .inl f_words)), (a_word, .inl (cI, 9, .inl f_word)), (a_some, .inl (cI, 10, .inl z_70.2.2.2.2.2.2.2.1)), (a_every, .inl (cI, 10, .inl z_70.2.2.2.2.2.2.2.2))] H → va_D A [(a_sayings, .inl (cI, 3, .inl f_sayings)), (a_leaves, .inl (cI, 24, .inl f_leaves)), (a_signs, .inl (cI, 24, .inl f_signs)), (a_o, .inr (10, [.long o_trace, .ref a_text, .int o_typed, .int o_choices, .int o_worlds, .ref a_values, .int z_70.1, .int z_70.2.1, .int z_70.2.2.1, .int z_70.2.2.2.1, .int z_70.2.2.2.2.1, w_o_draft, .ref a_sayings, .ref a_leaves, .ref a_signs, .ref a_words, .ref a_word, w_o_isKept, .ref a_some, .ref a_every, .int z_70.2.2.2.2.2.1, .int z_70.2.2.2.2.2.2.1, w_o_length, w_o_found, .int o_foundMany])), (a_text, .inl (cB, 200, .inl f_text)), (a_values, .inl (cI, 3, .inl f_values)), (a_words, .inl (cI, 3, .inl f_words)), (a_word, .inl (cI, 9, .inl f_word)), (a_some, .inl (cI, 10, .inl z_70.2.2.2.2.2.2.2.1)), (a_every, .inl (cI, 10, .inl z_70.2.2.2.2.2.2.2.2))] → va_S A s.heap H locs → lv_has ls 4 [(0, .ref a_o), (1, .int x107_s0), (3, .int x125_s0)] → W p l e rmX11_say s m args below meth c H locs 0 0 Q (F0 m 140 ls [.ref a_o]) := by
                          intro H locs ls h hP hD hS hl
                          rw [hj140] at h
                          refine lv_iconst (v := 1) hx hb dX11_say_140 ic_1 ?_
                          refine lv_goto (tgt := 145) hx hb dX11_say_141 (by decide) ?_
                          obtain ⟨z_145, hc_145, h⟩ := bd_e h
                          refine q_iV (As := [.int 1]) (rest := []) (wF := [(a_sayings, .inl (cI, 3, .inl f_sayings)), (a_leaves, .inl (cI, 24, .inl f_leaves)), (a_signs, .inl (cI, 24, .inl f_signs)), (a_values, .inl (cI, 3, .inl f_values)), (a_words, .inl (cI, 3, .inl f_words)), (a_word, .inl (cI, 9, .inl f_word)), (a_some, .inl (cI, 10, .inl z_70.2.2.2.2.2.2.2.1)), (a_every, .inl (cI, 10, .inl z_70.2.2.2.2.2.2.2.2)), (a_o, .inr (10, [.long o_trace, .ref a_text, .int o_typed, .int o_choices, .int o_worlds, .ref a_values, .int z_145.2.1, .int z_145.2.2.1, .int z_145.2.2.2.1, .int z_145.2.2.2.2.1, .int z_145.2.2.2.2.2, w_o_draft, .ref a_sayings, .ref a_leaves, .ref a_signs, .ref a_words, .ref a_word, w_o_isKept, .ref a_some, .ref a_every, .int z_70.2.2.2.2.2.1, .int z_70.2.2.2.2.2.2.1, w_o_length, w_o_found, .int o_foundMany])), (a_text, .inl (cB, 200, .inl f_text))]) hF hA hZ hK hP hD hS (c_X11_due l D cI cB cZ a_o o_trace o_typed o_choices o_worlds (.ref a_values) z_70.1 z_70.2.1 z_70.2.2.1 z_70.2.2.2.1 z_70.2.2.2.2.1 w_o_draft (.ref a_sayings) (.ref a_leaves) (.ref a_signs) (.ref a_words) (.ref a_word) w_o_isKept (.ref a_some) (.ref a_every) z_70.2.2.2.2.2.1 z_70.2.2.2.2.2.2.1 w_o_length w_o_found o_foundMany a_text f_text 1 z_145 hc_145) rfl gX11_say_X11_due hdX11_due ⟨rfl, rfl⟩ (Nat.le_of_ble_eq_true rfl) (Nat.le_of_ble_eq_true rfl) 10 0 rfl rfl [3, 4] [0, 1, 2, 5, 6, 7, 8, 9] rfl rfl rfl rfl (by decide) rfl hl.1 rfl (Nat.le_of_ble_eq_true rfl) (Nat.zero_le _) (Nat.zero_le _) dX11_say_145 (fun H locs hP hD hS => ?_)
                          refine lv_pop hx hb dX11_say_148 rfl ?_
                          refine lv_aload_n hx hb dX11_say_149 rfl (lv_at hl 0 rfl) ?_
                          refine va_get (D := D) (ci := 10) (v := .int z_145.2.2.2.2.2) (C := RX11) (T := TX11) (N := 25) hx hb hts u_X11 hown hK hP 8 rfl rfl 10 (by decide) k_f2 (fun _ h9 => h9) rfl dX11_say_150 ?_
                          refine lv_bipush (v := (-9)) hx hb dX11_say_153 bc_m9 ?_
                          refine lv_icmp_ne (tgt := 196) hx hb dX11_say_155 (by decide) (fun c_155 => ?_) (fun c_155 => ?_)
                          · replace h := if_e c_155 h
                            exact Jj196 x107_s0 z_145.2.1 z_145.2.2.1 z_145.2.2.2.1 z_145.2.2.2.2.1 z_145.2.2.2.2.2 z_70.2.2.2.2.2.2.2.1 z_70.2.2.2.2.2.2.2.2 H locs ls h (hP.sub [0, 1, 2, 8, 9, 3, 4, 5, 6, 7] rfl) (hD.sub [0, 1, 2, 8, 9, 3, 4, 5, 6, 7] (by decide) rfl) hS (lv_sub hl [0, 1] rfl)
                          · replace h := it_e c_155 h
                            refine lv_iload_n hx hb dX11_say_158 rfl (lv_at hl 2 rfl) ?_
                            refine lv_if_eq (tgt := 196) hx hb dX11_say_159 (by decide) (fun c_159 => ?_) (fun c_159 => ?_)
                            · replace h := it_e c_159 h
                              exact Jj196 x107_s0 z_145.2.1 z_145.2.2.1 z_145.2.2.2.1 z_145.2.2.2.2.1 z_145.2.2.2.2.2 z_70.2.2.2.2.2.2.2.1 z_70.2.2.2.2.2.2.2.2 H locs ls h (hP.sub [0, 1, 2, 8, 9, 3, 4, 5, 6, 7] rfl) (hD.sub [0, 1, 2, 8, 9, 3, 4, 5, 6, 7] (by decide) rfl) hS (lv_sub hl [0, 1] rfl)
                            · replace h := if_e c_159 h
                              refine lv_aload_n hx hb dX11_say_162 rfl (lv_at hl 0 rfl) ?_
                              refine va_get (D := D) (ci := 10) (v := .ref a_some) (C := RX11) (T := TX11) (N := 25) hx hb hts u_X11 hown hK hP 8 rfl rfl 18 (by decide) k_f5 (fun _ h9 => h9) rfl dX11_say_163 ?_
                              refine lv_aload_n hx hb dX11_say_166 rfl (lv_at hl 0 rfl) ?_
                              refine va_get (D := D) (ci := 10) (v := .int z_70.2.2.2.2.2.1) (C := RX11) (T := TX11) (N := 25) hx hb hts u_X11 hown hK hP 8 rfl rfl 20 (by decide) k_f10 (fun _ h9 => h9) rfl dX11_say_167 ?_
                              refine lv_dup2_11 hx hb dX11_say_170 rfl rfl ?_
                              obtain ⟨hi_171, h⟩ := ck_e h
                              refine va_iald hx hb hK hP 6 0 rfl rfl hi_171 dX11_say_171 ?_
                              refine lv_aload_n hx hb dX11_say_172 rfl (lv_at hl 0 rfl) ?_
                              refine va_get (D := D) (ci := 10) (v := .ref a_every) (C := RX11) (T := TX11) (N := 25) hx hb hts u_X11 hown hK hP 8 rfl rfl 19 (by decide) k_f6 (fun _ h9 => h9) rfl dX11_say_173 ?_
                              refine lv_aload_n hx hb dX11_say_176 rfl (lv_at hl 0 rfl) ?_
                              refine va_get (D := D) (ci := 10) (v := .int z_70.2.2.2.2.2.1) (C := RX11) (T := TX11) (N := 25) hx hb hts u_X11 hown hK hP 8 rfl rfl 20 (by decide) k_f10 (fun _ h9 => h9) rfl dX11_say_177 ?_
                              obtain ⟨hi_180, h⟩ := ck_e h
                              refine va_iald hx hb hK hP 7 0 rfl rfl hi_180 dX11_say_180 ?_
                              refine lv_ior hx hb dX11_say_181 ?_
                              obtain ⟨hi_182, h⟩ := ck_e h
                              refine va_iast hx hb hK hP hD hS 6 0 rfl rfl hi_182 dX11_say_182 (fun H locs hP hD hS => ?_)
                              have hP : va_P D vwCl [(a_sayings, .inl (cI, 3, .inl f_sayings)), (a_leaves, .inl (cI, 24, .inl f_leaves)), (a_signs, .inl (cI, 24, .inl f_signs)), (a_values, .inl (cI, 3, .inl f_values)), (a_words, .inl (cI, 3, .inl f_words)), (a_word, .inl (cI, 9, .inl f_word)), (a_some, .inl (cI, 10, .inl (upd z_70.2.2.2.2.2.2.2.1 z_70.2.2.2.2.2.1.toNatClampNeg ((z_70.2.2.2.2.2.2.2.1 z_70.2.2.2.2.2.1.toNatClampNeg) ||| (z_70.2.2.2.2.2.2.2.2 z_70.2.2.2.2.2.1.toNatClampNeg))))), (a_every, .inl (cI, 10, .inl z_70.2.2.2.2.2.2.2.2)), (a_o, .inr (10, [.long o_trace, .ref a_text, .int o_typed, .int o_choices, .int o_worlds, .ref a_values, .int z_145.2.1, .int z_145.2.2.1, .int z_145.2.2.2.1, .int z_145.2.2.2.2.1, .int z_145.2.2.2.2.2, w_o_draft, .ref a_sayings, .ref a_leaves, .ref a_signs, .ref a_words, .ref a_word, w_o_isKept, .ref a_some, .ref a_every, .int z_70.2.2.2.2.2.1, .int z_70.2.2.2.2.2.2.1, w_o_length, w_o_found, .int o_foundMany])), (a_text, .inl (cB, 200, .inl f_text))] H := hP
                              have hD : va_D A [(a_sayings, .inl (cI, 3, .inl f_sayings)), (a_leaves, .inl (cI, 24, .inl f_leaves)), (a_signs, .inl (cI, 24, .inl f_signs)), (a_values, .inl (cI, 3, .inl f_values)), (a_words, .inl (cI, 3, .inl f_words)), (a_word, .inl (cI, 9, .inl f_word)), (a_some, .inl (cI, 10, .inl (upd z_70.2.2.2.2.2.2.2.1 z_70.2.2.2.2.2.1.toNatClampNeg ((z_70.2.2.2.2.2.2.2.1 z_70.2.2.2.2.2.1.toNatClampNeg) ||| (z_70.2.2.2.2.2.2.2.2 z_70.2.2.2.2.2.1.toNatClampNeg))))), (a_every, .inl (cI, 10, .inl z_70.2.2.2.2.2.2.2.2)), (a_o, .inr (10, [.long o_trace, .ref a_text, .int o_typed, .int o_choices, .int o_worlds, .ref a_values, .int z_145.2.1, .int z_145.2.2.1, .int z_145.2.2.2.1, .int z_145.2.2.2.2.1, .int z_145.2.2.2.2.2, w_o_draft, .ref a_sayings, .ref a_leaves, .ref a_signs, .ref a_words, .ref a_word, w_o_isKept, .ref a_some, .ref a_every, .int z_70.2.2.2.2.2.1, .int z_70.2.2.2.2.2.2.1, w_o_length, w_o_found, .int o_foundMany])), (a_text, .inl (cB, 200, .inl f_text))] := hD
                              refine lv_aload_n hx hb dX11_say_183 rfl (lv_at hl 0 rfl) ?_
                              refine va_get (D := D) (ci := 10) (v := .ref a_every) (C := RX11) (T := TX11) (N := 25) hx hb hts u_X11 hown hK hP 8 rfl rfl 19 (by decide) k_f6 (fun _ h9 => h9) rfl dX11_say_184 ?_
                              refine lv_aload_n hx hb dX11_say_187 rfl (lv_at hl 0 rfl) ?_
                              refine va_get (D := D) (ci := 10) (v := .int z_70.2.2.2.2.2.1) (C := RX11) (T := TX11) (N := 25) hx hb hts u_X11 hown hK hP 8 rfl rfl 20 (by decide) k_f10 (fun _ h9 => h9) rfl dX11_say_188 ?_
                              refine lv_aload_n hx hb dX11_say_191 rfl (lv_at hl 0 rfl) ?_
                              obtain ⟨z_192, hc_192, h⟩ := bd_e h
                              refine q_iV (As := []) (rest := [.int z_70.2.2.2.2.2.1, .ref a_every]) (wF := [(a_sayings, .inl (cI, 3, .inl f_sayings)), (a_leaves, .inl (cI, 24, .inl f_leaves)), (a_signs, .inl (cI, 24, .inl f_signs)), (a_values, .inl (cI, 3, .inl f_values)), (a_words, .inl (cI, 3, .inl f_words)), (a_word, .inl (cI, 9, .inl f_word)), (a_some, .inl (cI, 10, .inl (upd z_70.2.2.2.2.2.2.2.1 z_70.2.2.2.2.2.1.toNatClampNeg ((z_70.2.2.2.2.2.2.2.1 z_70.2.2.2.2.2.1.toNatClampNeg) ||| (z_70.2.2.2.2.2.2.2.2 z_70.2.2.2.2.2.1.toNatClampNeg))))), (a_every, .inl (cI, 10, .inl z_70.2.2.2.2.2.2.2.2)), (a_text, .inl (cB, 200, .inl f_text)), (a_o, .inr (10, [.long o_trace, .ref a_text, .int o_typed, .int o_choices, .int o_worlds, .ref a_values, .int z_145.2.1, .int z_145.2.2.1, .int z_145.2.2.2.1, .int z_145.2.2.2.2.1, .int z_145.2.2.2.2.2, w_o_draft, .ref a_sayings, .ref a_leaves, .ref a_signs, .ref a_words, .ref a_word, w_o_isKept, .ref a_some, .ref a_every, .int z_70.2.2.2.2.2.1, .int z_70.2.2.2.2.2.2.1, w_o_length, w_o_found, .int o_foundMany]))]) hF hA hZ hK hP hD hS (c_X11_allSets l D cI cB cZ a_o o_trace (.ref a_text) o_typed o_choices o_worlds (.ref a_values) z_145.2.1 z_145.2.2.1 z_145.2.2.2.1 z_145.2.2.2.2.1 z_145.2.2.2.2.2 w_o_draft (.ref a_sayings) (.ref a_leaves) (.ref a_signs) (.ref a_words) (.ref a_word) w_o_isKept (.ref a_some) (.ref a_every) z_70.2.2.2.2.2.1 z_70.2.2.2.2.2.2.1 w_o_length w_o_found o_foundMany z_192 hc_192) rfl gX11_say_X11_allSets hdX11_allSets ⟨rfl, rfl⟩ (Nat.le_of_ble_eq_true rfl) (Nat.le_of_ble_eq_true rfl) 10 0 rfl rfl [8] [0, 1, 2, 3, 4, 5, 6, 7, 9] rfl rfl rfl rfl (by decide) rfl hl.1 rfl (Nat.le_of_ble_eq_true rfl) (Nat.zero_le _) (Nat.zero_le _) dX11_say_192 (fun H locs hP hD hS => ?_)
                              obtain ⟨hi_195, h⟩ := ck_e h
                              refine va_iast hx hb hK hP hD hS 7 0 rfl rfl hi_195 dX11_say_195 (fun H locs hP hD hS => ?_)
                              have hP : va_P D vwCl [(a_sayings, .inl (cI, 3, .inl f_sayings)), (a_leaves, .inl (cI, 24, .inl f_leaves)), (a_signs, .inl (cI, 24, .inl f_signs)), (a_values, .inl (cI, 3, .inl f_values)), (a_words, .inl (cI, 3, .inl f_words)), (a_word, .inl (cI, 9, .inl f_word)), (a_some, .inl (cI, 10, .inl (upd z_70.2.2.2.2.2.2.2.1 z_70.2.2.2.2.2.1.toNatClampNeg ((z_70.2.2.2.2.2.2.2.1 z_70.2.2.2.2.2.1.toNatClampNeg) ||| (z_70.2.2.2.2.2.2.2.2 z_70.2.2.2.2.2.1.toNatClampNeg))))), (a_every, .inl (cI, 10, .inl (upd z_70.2.2.2.2.2.2.2.2 z_70.2.2.2.2.2.1.toNatClampNeg z_192))), (a_text, .inl (cB, 200, .inl f_text)), (a_o, .inr (10, [.long o_trace, .ref a_text, .int o_typed, .int o_choices, .int o_worlds, .ref a_values, .int z_145.2.1, .int z_145.2.2.1, .int z_145.2.2.2.1, .int z_145.2.2.2.2.1, .int z_145.2.2.2.2.2, w_o_draft, .ref a_sayings, .ref a_leaves, .ref a_signs, .ref a_words, .ref a_word, w_o_isKept, .ref a_some, .ref a_every, .int z_70.2.2.2.2.2.1, .int z_70.2.2.2.2.2.2.1, w_o_length, w_o_found, .int o_foundMany]))] H := hP
                              have hD : va_D A [(a_sayings, .inl (cI, 3, .inl f_sayings)), (a_leaves, .inl (cI, 24, .inl f_leaves)), (a_signs, .inl (cI, 24, .inl f_signs)), (a_values, .inl (cI, 3, .inl f_values)), (a_words, .inl (cI, 3, .inl f_words)), (a_word, .inl (cI, 9, .inl f_word)), (a_some, .inl (cI, 10, .inl (upd z_70.2.2.2.2.2.2.2.1 z_70.2.2.2.2.2.1.toNatClampNeg ((z_70.2.2.2.2.2.2.2.1 z_70.2.2.2.2.2.1.toNatClampNeg) ||| (z_70.2.2.2.2.2.2.2.2 z_70.2.2.2.2.2.1.toNatClampNeg))))), (a_every, .inl (cI, 10, .inl (upd z_70.2.2.2.2.2.2.2.2 z_70.2.2.2.2.2.1.toNatClampNeg z_192))), (a_text, .inl (cB, 200, .inl f_text)), (a_o, .inr (10, [.long o_trace, .ref a_text, .int o_typed, .int o_choices, .int o_worlds, .ref a_values, .int z_145.2.1, .int z_145.2.2.1, .int z_145.2.2.2.1, .int z_145.2.2.2.2.1, .int z_145.2.2.2.2.2, w_o_draft, .ref a_sayings, .ref a_leaves, .ref a_signs, .ref a_words, .ref a_word, w_o_isKept, .ref a_some, .ref a_every, .int z_70.2.2.2.2.2.1, .int z_70.2.2.2.2.2.2.1, w_o_length, w_o_found, .int o_foundMany]))] := hD
                              exact Jj196 x107_s0 z_145.2.1 z_145.2.2.1 z_145.2.2.2.1 z_145.2.2.2.2.1 z_145.2.2.2.2.2 (upd z_70.2.2.2.2.2.2.2.1 z_70.2.2.2.2.2.1.toNatClampNeg ((z_70.2.2.2.2.2.2.2.1 z_70.2.2.2.2.2.1.toNatClampNeg) ||| (z_70.2.2.2.2.2.2.2.2 z_70.2.2.2.2.2.1.toNatClampNeg))) (upd z_70.2.2.2.2.2.2.2.2 z_70.2.2.2.2.2.1.toNatClampNeg z_192) H locs ls h (hP.sub [0, 1, 2, 9, 8, 3, 4, 5, 6, 7] rfl) (hD.sub [0, 1, 2, 9, 8, 3, 4, 5, 6, 7] (by decide) rfl) hS (lv_sub hl [0, 1] rfl)
                        obtain ⟨j145, hj145, h⟩ := jn_e h
                        have Jj145 : ∀ (x145_s1 : Int32) (H : Heap) (locs : List Loc) (ls : Array Slot), j145 x145_s1 = some z → va_P D vwCl [(a_sayings, .inl (cI, 3, .inl f_sayings)), (a_leaves, .inl (cI, 24, .inl f_leaves)), (a_signs, .inl (cI, 24, .inl f_signs)), (a_o, .inr (10, [.long o_trace, .ref a_text, .int o_typed, .int o_choices, .int o_worlds, .ref a_values, .int z_70.1, .int z_70.2.1, .int z_70.2.2.1, .int z_70.2.2.2.1, .int z_70.2.2.2.2.1, w_o_draft, .ref a_sayings, .ref a_leaves, .ref a_signs, .ref a_words, .ref a_word, w_o_isKept, .ref a_some, .ref a_every, .int z_70.2.2.2.2.2.1, .int z_70.2.2.2.2.2.2.1, w_o_length, w_o_found, .int o_foundMany])), (a_text, .inl (cB, 200, .inl f_text)), (a_values, .inl (cI, 3, .inl f_values)), (a_words, .inl (cI, 3, .inl f_words)), (a_word, .inl (cI, 9, .inl f_word)), (a_some, .inl (cI, 10, .inl z_70.2.2.2.2.2.2.2.1)), (a_every, .inl (cI, 10, .inl z_70.2.2.2.2.2.2.2.2))] H → va_D A [(a_sayings, .inl (cI, 3, .inl f_sayings)), (a_leaves, .inl (cI, 24, .inl f_leaves)), (a_signs, .inl (cI, 24, .inl f_signs)), (a_o, .inr (10, [.long o_trace, .ref a_text, .int o_typed, .int o_choices, .int o_worlds, .ref a_values, .int z_70.1, .int z_70.2.1, .int z_70.2.2.1, .int z_70.2.2.2.1, .int z_70.2.2.2.2.1, w_o_draft, .ref a_sayings, .ref a_leaves, .ref a_signs, .ref a_words, .ref a_word, w_o_isKept, .ref a_some, .ref a_every, .int z_70.2.2.2.2.2.1, .int z_70.2.2.2.2.2.2.1, w_o_length, w_o_found, .int o_foundMany])), (a_text, .inl (cB, 200, .inl f_text)), (a_values, .inl (cI, 3, .inl f_values)), (a_words, .inl (cI, 3, .inl f_words)), (a_word, .inl (cI, 9, .inl f_word)), (a_some, .inl (cI, 10, .inl z_70.2.2.2.2.2.2.2.1)), (a_every, .inl (cI, 10, .inl z_70.2.2.2.2.2.2.2.2))] → va_S A s.heap H locs → lv_has ls 4 [(0, .ref a_o), (1, .int x107_s0), (3, .int x125_s0)] → W p l e rmX11_say s m args below meth c H locs 0 0 Q (F0 m 145 ls [.int x145_s1, .ref a_o]) := by
                          intro x145_s1 H locs ls h hP hD hS hl
                          rw [hj145] at h
                          obtain ⟨z_145, hc_145, h⟩ := bd_e h
                          refine q_iV (As := [.int x145_s1]) (rest := []) (wF := [(a_sayings, .inl (cI, 3, .inl f_sayings)), (a_leaves, .inl (cI, 24, .inl f_leaves)), (a_signs, .inl (cI, 24, .inl f_signs)), (a_values, .inl (cI, 3, .inl f_values)), (a_words, .inl (cI, 3, .inl f_words)), (a_word, .inl (cI, 9, .inl f_word)), (a_some, .inl (cI, 10, .inl z_70.2.2.2.2.2.2.2.1)), (a_every, .inl (cI, 10, .inl z_70.2.2.2.2.2.2.2.2)), (a_o, .inr (10, [.long o_trace, .ref a_text, .int o_typed, .int o_choices, .int o_worlds, .ref a_values, .int z_145.2.1, .int z_145.2.2.1, .int z_145.2.2.2.1, .int z_145.2.2.2.2.1, .int z_145.2.2.2.2.2, w_o_draft, .ref a_sayings, .ref a_leaves, .ref a_signs, .ref a_words, .ref a_word, w_o_isKept, .ref a_some, .ref a_every, .int z_70.2.2.2.2.2.1, .int z_70.2.2.2.2.2.2.1, w_o_length, w_o_found, .int o_foundMany])), (a_text, .inl (cB, 200, .inl f_text))]) hF hA hZ hK hP hD hS (c_X11_due l D cI cB cZ a_o o_trace o_typed o_choices o_worlds (.ref a_values) z_70.1 z_70.2.1 z_70.2.2.1 z_70.2.2.2.1 z_70.2.2.2.2.1 w_o_draft (.ref a_sayings) (.ref a_leaves) (.ref a_signs) (.ref a_words) (.ref a_word) w_o_isKept (.ref a_some) (.ref a_every) z_70.2.2.2.2.2.1 z_70.2.2.2.2.2.2.1 w_o_length w_o_found o_foundMany a_text f_text x145_s1 z_145 hc_145) rfl gX11_say_X11_due hdX11_due ⟨rfl, rfl⟩ (Nat.le_of_ble_eq_true rfl) (Nat.le_of_ble_eq_true rfl) 10 0 rfl rfl [3, 4] [0, 1, 2, 5, 6, 7, 8, 9] rfl rfl rfl rfl (by decide) rfl hl.1 rfl (Nat.le_of_ble_eq_true rfl) (Nat.zero_le _) (Nat.zero_le _) dX11_say_145 (fun H locs hP hD hS => ?_)
                          refine lv_pop hx hb dX11_say_148 rfl ?_
                          refine lv_aload_n hx hb dX11_say_149 rfl (lv_at hl 0 rfl) ?_
                          refine va_get (D := D) (ci := 10) (v := .int z_145.2.2.2.2.2) (C := RX11) (T := TX11) (N := 25) hx hb hts u_X11 hown hK hP 8 rfl rfl 10 (by decide) k_f2 (fun _ h9 => h9) rfl dX11_say_150 ?_
                          refine lv_bipush (v := (-9)) hx hb dX11_say_153 bc_m9 ?_
                          refine lv_icmp_ne (tgt := 196) hx hb dX11_say_155 (by decide) (fun c_155 => ?_) (fun c_155 => ?_)
                          · replace h := if_e c_155 h
                            exact Jj196 x107_s0 z_145.2.1 z_145.2.2.1 z_145.2.2.2.1 z_145.2.2.2.2.1 z_145.2.2.2.2.2 z_70.2.2.2.2.2.2.2.1 z_70.2.2.2.2.2.2.2.2 H locs ls h (hP.sub [0, 1, 2, 8, 9, 3, 4, 5, 6, 7] rfl) (hD.sub [0, 1, 2, 8, 9, 3, 4, 5, 6, 7] (by decide) rfl) hS (lv_sub hl [0, 1] rfl)
                          · replace h := it_e c_155 h
                            refine lv_iload_n hx hb dX11_say_158 rfl (lv_at hl 2 rfl) ?_
                            refine lv_if_eq (tgt := 196) hx hb dX11_say_159 (by decide) (fun c_159 => ?_) (fun c_159 => ?_)
                            · replace h := it_e c_159 h
                              exact Jj196 x107_s0 z_145.2.1 z_145.2.2.1 z_145.2.2.2.1 z_145.2.2.2.2.1 z_145.2.2.2.2.2 z_70.2.2.2.2.2.2.2.1 z_70.2.2.2.2.2.2.2.2 H locs ls h (hP.sub [0, 1, 2, 8, 9, 3, 4, 5, 6, 7] rfl) (hD.sub [0, 1, 2, 8, 9, 3, 4, 5, 6, 7] (by decide) rfl) hS (lv_sub hl [0, 1] rfl)
                            · replace h := if_e c_159 h
                              refine lv_aload_n hx hb dX11_say_162 rfl (lv_at hl 0 rfl) ?_
                              refine va_get (D := D) (ci := 10) (v := .ref a_some) (C := RX11) (T := TX11) (N := 25) hx hb hts u_X11 hown hK hP 8 rfl rfl 18 (by decide) k_f5 (fun _ h9 => h9) rfl dX11_say_163 ?_
                              refine lv_aload_n hx hb dX11_say_166 rfl (lv_at hl 0 rfl) ?_
                              refine va_get (D := D) (ci := 10) (v := .int z_70.2.2.2.2.2.1) (C := RX11) (T := TX11) (N := 25) hx hb hts u_X11 hown hK hP 8 rfl rfl 20 (by decide) k_f10 (fun _ h9 => h9) rfl dX11_say_167 ?_
                              refine lv_dup2_11 hx hb dX11_say_170 rfl rfl ?_
                              obtain ⟨hi_171, h⟩ := ck_e h
                              refine va_iald hx hb hK hP 6 0 rfl rfl hi_171 dX11_say_171 ?_
                              refine lv_aload_n hx hb dX11_say_172 rfl (lv_at hl 0 rfl) ?_
                              refine va_get (D := D) (ci := 10) (v := .ref a_every) (C := RX11) (T := TX11) (N := 25) hx hb hts u_X11 hown hK hP 8 rfl rfl 19 (by decide) k_f6 (fun _ h9 => h9) rfl dX11_say_173 ?_
                              refine lv_aload_n hx hb dX11_say_176 rfl (lv_at hl 0 rfl) ?_
                              refine va_get (D := D) (ci := 10) (v := .int z_70.2.2.2.2.2.1) (C := RX11) (T := TX11) (N := 25) hx hb hts u_X11 hown hK hP 8 rfl rfl 20 (by decide) k_f10 (fun _ h9 => h9) rfl dX11_say_177 ?_
                              obtain ⟨hi_180, h⟩ := ck_e h
                              refine va_iald hx hb hK hP 7 0 rfl rfl hi_180 dX11_say_180 ?_
                              refine lv_ior hx hb dX11_say_181 ?_
                              obtain ⟨hi_182, h⟩ := ck_e h
                              refine va_iast hx hb hK hP hD hS 6 0 rfl rfl hi_182 dX11_say_182 (fun H locs hP hD hS => ?_)
                              have hP : va_P D vwCl [(a_sayings, .inl (cI, 3, .inl f_sayings)), (a_leaves, .inl (cI, 24, .inl f_leaves)), (a_signs, .inl (cI, 24, .inl f_signs)), (a_values, .inl (cI, 3, .inl f_values)), (a_words, .inl (cI, 3, .inl f_words)), (a_word, .inl (cI, 9, .inl f_word)), (a_some, .inl (cI, 10, .inl (upd z_70.2.2.2.2.2.2.2.1 z_70.2.2.2.2.2.1.toNatClampNeg ((z_70.2.2.2.2.2.2.2.1 z_70.2.2.2.2.2.1.toNatClampNeg) ||| (z_70.2.2.2.2.2.2.2.2 z_70.2.2.2.2.2.1.toNatClampNeg))))), (a_every, .inl (cI, 10, .inl z_70.2.2.2.2.2.2.2.2)), (a_o, .inr (10, [.long o_trace, .ref a_text, .int o_typed, .int o_choices, .int o_worlds, .ref a_values, .int z_145.2.1, .int z_145.2.2.1, .int z_145.2.2.2.1, .int z_145.2.2.2.2.1, .int z_145.2.2.2.2.2, w_o_draft, .ref a_sayings, .ref a_leaves, .ref a_signs, .ref a_words, .ref a_word, w_o_isKept, .ref a_some, .ref a_every, .int z_70.2.2.2.2.2.1, .int z_70.2.2.2.2.2.2.1, w_o_length, w_o_found, .int o_foundMany])), (a_text, .inl (cB, 200, .inl f_text))] H := hP
                              have hD : va_D A [(a_sayings, .inl (cI, 3, .inl f_sayings)), (a_leaves, .inl (cI, 24, .inl f_leaves)), (a_signs, .inl (cI, 24, .inl f_signs)), (a_values, .inl (cI, 3, .inl f_values)), (a_words, .inl (cI, 3, .inl f_words)), (a_word, .inl (cI, 9, .inl f_word)), (a_some, .inl (cI, 10, .inl (upd z_70.2.2.2.2.2.2.2.1 z_70.2.2.2.2.2.1.toNatClampNeg ((z_70.2.2.2.2.2.2.2.1 z_70.2.2.2.2.2.1.toNatClampNeg) ||| (z_70.2.2.2.2.2.2.2.2 z_70.2.2.2.2.2.1.toNatClampNeg))))), (a_every, .inl (cI, 10, .inl z_70.2.2.2.2.2.2.2.2)), (a_o, .inr (10, [.long o_trace, .ref a_text, .int o_typed, .int o_choices, .int o_worlds, .ref a_values, .int z_145.2.1, .int z_145.2.2.1, .int z_145.2.2.2.1, .int z_145.2.2.2.2.1, .int z_145.2.2.2.2.2, w_o_draft, .ref a_sayings, .ref a_leaves, .ref a_signs, .ref a_words, .ref a_word, w_o_isKept, .ref a_some, .ref a_every, .int z_70.2.2.2.2.2.1, .int z_70.2.2.2.2.2.2.1, w_o_length, w_o_found, .int o_foundMany])), (a_text, .inl (cB, 200, .inl f_text))] := hD
                              refine lv_aload_n hx hb dX11_say_183 rfl (lv_at hl 0 rfl) ?_
                              refine va_get (D := D) (ci := 10) (v := .ref a_every) (C := RX11) (T := TX11) (N := 25) hx hb hts u_X11 hown hK hP 8 rfl rfl 19 (by decide) k_f6 (fun _ h9 => h9) rfl dX11_say_184 ?_
                              refine lv_aload_n hx hb dX11_say_187 rfl (lv_at hl 0 rfl) ?_
                              refine va_get (D := D) (ci := 10) (v := .int z_70.2.2.2.2.2.1) (C := RX11) (T := TX11) (N := 25) hx hb hts u_X11 hown hK hP 8 rfl rfl 20 (by decide) k_f10 (fun _ h9 => h9) rfl dX11_say_188 ?_
                              refine lv_aload_n hx hb dX11_say_191 rfl (lv_at hl 0 rfl) ?_
                              obtain ⟨z_192, hc_192, h⟩ := bd_e h
                              refine q_iV (As := []) (rest := [.int z_70.2.2.2.2.2.1, .ref a_every]) (wF := [(a_sayings, .inl (cI, 3, .inl f_sayings)), (a_leaves, .inl (cI, 24, .inl f_leaves)), (a_signs, .inl (cI, 24, .inl f_signs)), (a_values, .inl (cI, 3, .inl f_values)), (a_words, .inl (cI, 3, .inl f_words)), (a_word, .inl (cI, 9, .inl f_word)), (a_some, .inl (cI, 10, .inl (upd z_70.2.2.2.2.2.2.2.1 z_70.2.2.2.2.2.1.toNatClampNeg ((z_70.2.2.2.2.2.2.2.1 z_70.2.2.2.2.2.1.toNatClampNeg) ||| (z_70.2.2.2.2.2.2.2.2 z_70.2.2.2.2.2.1.toNatClampNeg))))), (a_every, .inl (cI, 10, .inl z_70.2.2.2.2.2.2.2.2)), (a_text, .inl (cB, 200, .inl f_text)), (a_o, .inr (10, [.long o_trace, .ref a_text, .int o_typed, .int o_choices, .int o_worlds, .ref a_values, .int z_145.2.1, .int z_145.2.2.1, .int z_145.2.2.2.1, .int z_145.2.2.2.2.1, .int z_145.2.2.2.2.2, w_o_draft, .ref a_sayings, .ref a_leaves, .ref a_signs, .ref a_words, .ref a_word, w_o_isKept, .ref a_some, .ref a_every, .int z_70.2.2.2.2.2.1, .int z_70.2.2.2.2.2.2.1, w_o_length, w_o_found, .int o_foundMany]))]) hF hA hZ hK hP hD hS (c_X11_allSets l D cI cB cZ a_o o_trace (.ref a_text) o_typed o_choices o_worlds (.ref a_values) z_145.2.1 z_145.2.2.1 z_145.2.2.2.1 z_145.2.2.2.2.1 z_145.2.2.2.2.2 w_o_draft (.ref a_sayings) (.ref a_leaves) (.ref a_signs) (.ref a_words) (.ref a_word) w_o_isKept (.ref a_some) (.ref a_every) z_70.2.2.2.2.2.1 z_70.2.2.2.2.2.2.1 w_o_length w_o_found o_foundMany z_192 hc_192) rfl gX11_say_X11_allSets hdX11_allSets ⟨rfl, rfl⟩ (Nat.le_of_ble_eq_true rfl) (Nat.le_of_ble_eq_true rfl) 10 0 rfl rfl [8] [0, 1, 2, 3, 4, 5, 6, 7, 9] rfl rfl rfl rfl (by decide) rfl hl.1 rfl (Nat.le_of_ble_eq_true rfl) (Nat.zero_le _) (Nat.zero_le _) dX11_say_192 (fun H locs hP hD hS => ?_)
                              obtain ⟨hi_195, h⟩ := ck_e h
                              refine va_iast hx hb hK hP hD hS 7 0 rfl rfl hi_195 dX11_say_195 (fun H locs hP hD hS => ?_)
                              have hP : va_P D vwCl [(a_sayings, .inl (cI, 3, .inl f_sayings)), (a_leaves, .inl (cI, 24, .inl f_leaves)), (a_signs, .inl (cI, 24, .inl f_signs)), (a_values, .inl (cI, 3, .inl f_values)), (a_words, .inl (cI, 3, .inl f_words)), (a_word, .inl (cI, 9, .inl f_word)), (a_some, .inl (cI, 10, .inl (upd z_70.2.2.2.2.2.2.2.1 z_70.2.2.2.2.2.1.toNatClampNeg ((z_70.2.2.2.2.2.2.2.1 z_70.2.2.2.2.2.1.toNatClampNeg) ||| (z_70.2.2.2.2.2.2.2.2 z_70.2.2.2.2.2.1.toNatClampNeg))))), (a_every, .inl (cI, 10, .inl (upd z_70.2.2.2.2.2.2.2.2 z_70.2.2.2.2.2.1.toNatClampNeg z_192))), (a_text, .inl (cB, 200, .inl f_text)), (a_o, .inr (10, [.long o_trace, .ref a_text, .int o_typed, .int o_choices, .int o_worlds, .ref a_values, .int z_145.2.1, .int z_145.2.2.1, .int z_145.2.2.2.1, .int z_145.2.2.2.2.1, .int z_145.2.2.2.2.2, w_o_draft, .ref a_sayings, .ref a_leaves, .ref a_signs, .ref a_words, .ref a_word, w_o_isKept, .ref a_some, .ref a_every, .int z_70.2.2.2.2.2.1, .int z_70.2.2.2.2.2.2.1, w_o_length, w_o_found, .int o_foundMany]))] H := hP
                              have hD : va_D A [(a_sayings, .inl (cI, 3, .inl f_sayings)), (a_leaves, .inl (cI, 24, .inl f_leaves)), (a_signs, .inl (cI, 24, .inl f_signs)), (a_values, .inl (cI, 3, .inl f_values)), (a_words, .inl (cI, 3, .inl f_words)), (a_word, .inl (cI, 9, .inl f_word)), (a_some, .inl (cI, 10, .inl (upd z_70.2.2.2.2.2.2.2.1 z_70.2.2.2.2.2.1.toNatClampNeg ((z_70.2.2.2.2.2.2.2.1 z_70.2.2.2.2.2.1.toNatClampNeg) ||| (z_70.2.2.2.2.2.2.2.2 z_70.2.2.2.2.2.1.toNatClampNeg))))), (a_every, .inl (cI, 10, .inl (upd z_70.2.2.2.2.2.2.2.2 z_70.2.2.2.2.2.1.toNatClampNeg z_192))), (a_text, .inl (cB, 200, .inl f_text)), (a_o, .inr (10, [.long o_trace, .ref a_text, .int o_typed, .int o_choices, .int o_worlds, .ref a_values, .int z_145.2.1, .int z_145.2.2.1, .int z_145.2.2.2.1, .int z_145.2.2.2.2.1, .int z_145.2.2.2.2.2, w_o_draft, .ref a_sayings, .ref a_leaves, .ref a_signs, .ref a_words, .ref a_word, w_o_isKept, .ref a_some, .ref a_every, .int z_70.2.2.2.2.2.1, .int z_70.2.2.2.2.2.2.1, w_o_length, w_o_found, .int o_foundMany]))] := hD
                              exact Jj196 x107_s0 z_145.2.1 z_145.2.2.1 z_145.2.2.2.1 z_145.2.2.2.2.1 z_145.2.2.2.2.2 (upd z_70.2.2.2.2.2.2.2.1 z_70.2.2.2.2.2.1.toNatClampNeg ((z_70.2.2.2.2.2.2.2.1 z_70.2.2.2.2.2.1.toNatClampNeg) ||| (z_70.2.2.2.2.2.2.2.2 z_70.2.2.2.2.2.1.toNatClampNeg))) (upd z_70.2.2.2.2.2.2.2.2 z_70.2.2.2.2.2.1.toNatClampNeg z_192) H locs ls h (hP.sub [0, 1, 2, 9, 8, 3, 4, 5, 6, 7] rfl) (hD.sub [0, 1, 2, 9, 8, 3, 4, 5, 6, 7] (by decide) rfl) hS (lv_sub hl [0, 1] rfl)
                        refine lv_if_ne (tgt := 140) hx hb dX11_say_128 (by decide) (fun c_128 => ?_) (fun c_128 => ?_)
                        · replace h := if_e c_128 h
                          exact Jj140  H locs ls h hP hD hS (lv_sub hl [1, 2, 0] rfl)
                        · replace h := it_e c_128 h
                          refine lv_aload_n hx hb dX11_say_131 rfl (lv_at hl 1 rfl) ?_
                          refine va_get (D := D) (ci := 10) (v := .int z_70.2.2.1) (C := RX11) (T := TX11) (N := 25) hx hb hts u_X11 hown hK hP 3 rfl rfl 8 (by decide) k_f9 (fun _ h9 => h9) rfl dX11_say_132 ?_
                          refine lv_bipush (v := 6) hx hb dX11_say_135 bc_6 ?_
                          refine lv_icmp_ne (tgt := 144) hx hb dX11_say_137 (by decide) (fun c_137 => ?_) (fun c_137 => ?_)
                          · replace h := if_e c_137 h
                            refine lv_iconst (v := 0) hx hb dX11_say_144 ic_0 ?_
                            exact Jj145 0 H locs ls h hP hD hS (lv_sub hl [1, 2, 0] rfl)
                          · replace h := it_e c_137 h
                            exact Jj140  H locs ls h hP hD hS (lv_sub hl [1, 2, 0] rfl)
                      refine lv_icmp_ne (tgt := 124) hx hb dX11_say_117 (by decide) (fun c_117 => ?_) (fun c_117 => ?_)
                      · replace h := if_e c_117 h
                        refine lv_iconst (v := 0) hx hb dX11_say_124 ic_0 ?_
                        exact Jj125 0 H locs ls h hP hD hS (lv_sub hl [1, 0] rfl)
                      · replace h := it_e c_117 h
                        refine lv_iconst (v := 1) hx hb dX11_say_120 ic_1 ?_
                        refine lv_goto (tgt := 125) hx hb dX11_say_121 (by decide) ?_
                        exact Jj125 1 H locs ls h hP hD hS (lv_sub hl [1, 0] rfl)
                  refine lv_icmp_ne (tgt := 102) hx hb dX11_say_92 (by decide) (fun c_92 => ?_) (fun c_92 => ?_)
                  · replace h := if_e c_92 h
                    exact Jj102  H locs ls h hP hD hS (lv_sub hl [1] rfl)
                  · replace h := it_e c_92 h
                    refine lv_aload_n hx hb dX11_say_95 rfl (lv_at hl 1 rfl) ?_
                    refine va_get (D := D) (ci := 10) (v := .int z_70.2.2.2.2.2.1) (C := RX11) (T := TX11) (N := 25) hx hb hts u_X11 hown hK hP 3 rfl rfl 20 (by decide) k_f10 (fun _ h9 => h9) rfl dX11_say_96 ?_
                    refine lv_if_le (tgt := 106) hx hb dX11_say_99 (by decide) (fun c_99 => ?_) (fun c_99 => ?_)
                    · replace h := it_e c_99 h
                      refine lv_iconst (v := 0) hx hb dX11_say_106 ic_0 ?_
                      exact Jj107 0 H locs ls h hP hD hS (lv_sub hl [1] rfl)
                    · replace h := if_e c_99 h
                      exact Jj102  H locs ls h hP hD hS (lv_sub hl [1] rfl)
            refine lv_icmp_ne (tgt := 67) hx hb dX11_say_60 (by decide) (fun c_60 => ?_) (fun c_60 => ?_)
            · replace h := if_e c_60 h
              refine lv_iconst (v := 0) hx hb dX11_say_67 ic_0 ?_
              exact Jj68 0 H locs ls h hP hD hS hl
            · replace h := it_e c_60 h
              refine lv_iconst (v := 1) hx hb dX11_say_63 ic_1 ?_
              refine lv_goto (tgt := 68) hx hb dX11_say_64 (by decide) ?_
              exact Jj68 1 H locs ls h hP hD hS hl
    exact L41 QF 1 z_36.1 z_36.2.1 z_36.2.2.1 z_36.2.2.2 (-9) z_32.1 0 z_32.2.1 z_32.2.2 H locs ls h hP hD hS (lv_sub hl [1, 0] rfl)
  · replace h := it_e c_8 h
    refine lv_bipush (v := (-3)) hx hb dX11_say_11 bc_m3 ?_
    have hz := Option.some.inj h
    subst hz
    exact hret H locs 13 ls (fun ty h => by cases h; rfl) hP hD hS dX11_say_13
abbrev rmX11_unsay : Room := { frames := 0, cells := 0, slots := 0, locals := 0 }
theorem hdX11_unsay : yX11_unsay.cls = RX11 ∧ yX11_unsay.cls ≠ "java/lang/invoke/MethodHandle" ∧ yX11_unsay.cls ≠ "java/lang/invoke/VarHandle" ∧ (parseMethodDescriptor yX11_unsay.desc).map (fun d => d.parameters.length) = some 0 := by decide +kernel
set_option maxRecDepth 100000 in
set_option maxHeartbeats 4000000 in
theorem c_X11_unsay (l : Launch) (D : va_G) (cI cB cZ : ClassId) (a_o : Nat) (o_trace : Int64) (w_o_text : Value) (o_typed : Int32) (o_choices : Int32) (o_worlds : Int32) (w_o_values : Value) (o_at : Int32) (o_start : Int32) (o_sort : Int32) (o_value : Int32) (o_fault : Int32) (w_o_draft : Value) (w_o_leaves : Value) (w_o_signs : Value) (w_o_words : Value) (w_o_word : Value) (w_o_isKept : Value) (w_o_some : Value) (w_o_every : Value) (o_deep : Int32) (o_many : Int32) (w_o_length : Value) (w_o_found : Value) (o_foundMany : Int32) (a_sayings : Nat) (f_sayings : Nat → Int32) (z : Int32 × (Nat → Int32)) (h : P_X11_unsay f_sayings = some z) : KI l yX11_unsay wsX11_unsay rmX11_unsay D [(cI, .int), (cB, .byte), (cZ, .boolean)] [.ref a_o] [(a_o, .inr (10, [.long o_trace, w_o_text, .int o_typed, .int o_choices, .int o_worlds, w_o_values, .int o_at, .int o_start, .int o_sort, .int o_value, .int o_fault, w_o_draft, .ref a_sayings, w_o_leaves, w_o_signs, w_o_words, w_o_word, w_o_isKept, w_o_some, w_o_every, .int o_deep, .int o_many, w_o_length, w_o_found, .int o_foundMany])), (a_sayings, .inl (cI, 3, .inl f_sayings))] [(a_o, .inr (10, [.long o_trace, w_o_text, .int o_typed, .int o_choices, .int o_worlds, w_o_values, .int o_at, .int o_start, .int o_sort, .int o_value, .int o_fault, w_o_draft, .ref a_sayings, w_o_leaves, w_o_signs, w_o_words, w_o_word, w_o_isKept, w_o_some, w_o_every, .int o_deep, .int o_many, w_o_length, w_o_found, .int o_foundMany])), (a_sayings, .inl (cI, 3, .inl z.2))] z.1 := by
  refine KI_of (own := RX11) (cc := cX11_unsay) (maxL := 1) (ret := some .int) (by decide) rfl rfl (Nat.le_of_ble_eq_true rfl) (Or.inl rfl) ?_
  intro p e s m args below meth c A Q hx hb hml hown hts hA hZ hK hret H locs ls hP hD hS hl
  have hl : lv_has ls 1 [(0, .ref a_o)] := hl
  have hF : CallFix p m c cX11_unsay 1 s args wsX11_unsay RX11 := ⟨hx, hb, hml, hown, hts⟩
  have u_X11 : ∀ w ∈ u_ws RX11 TX11 25, w ∈ wsX11_unsay := by decide +kernel
  have k_f0 := hts (.fieldLink RX11 20 "NoWordNoModel" "sayings" "[I") (by decide +kernel)
  unfold P_X11_unsay at h
  refine lv_aload_n hx hb dX11_unsay_0 rfl (lv_at hl 0 rfl) ?_
  refine va_get (D := D) (ci := 10) (v := .ref a_sayings) (C := RX11) (T := TX11) (N := 25) hx hb hts u_X11 hown hK hP 0 rfl rfl 12 (by decide) k_f0 (fun _ h9 => h9) rfl dX11_unsay_1 ?_
  refine lv_iconst (v := 0) hx hb dX11_unsay_4 ic_0 ?_
  obtain ⟨hi_5, h⟩ := ck_e h
  refine va_iald hx hb hK hP 1 0 rfl rfl hi_5 dX11_unsay_5 ?_
  refine lv_if_ne (tgt := 12) hx hb dX11_unsay_6 (by decide) (fun c_6 => ?_) (fun c_6 => ?_)
  · replace h := if_e c_6 h
    refine lv_aload_n hx hb dX11_unsay_12 rfl (lv_at hl 0 rfl) ?_
    refine va_get (D := D) (ci := 10) (v := .ref a_sayings) (C := RX11) (T := TX11) (N := 25) hx hb hts u_X11 hown hK hP 0 rfl rfl 12 (by decide) k_f0 (fun _ h9 => h9) rfl dX11_unsay_13 ?_
    refine lv_iconst (v := 0) hx hb dX11_unsay_16 ic_0 ?_
    refine lv_dup2_11 hx hb dX11_unsay_17 rfl rfl ?_
    obtain ⟨hi_18, h⟩ := ck_e h
    refine va_iald hx hb hK hP 1 0 rfl rfl hi_18 dX11_unsay_18 ?_
    refine lv_iconst (v := 1) hx hb dX11_unsay_19 ic_1 ?_
    refine lv_isub hx hb dX11_unsay_20 ?_
    obtain ⟨hi_21, h⟩ := ck_e h
    refine va_iast hx hb hK hP hD hS 1 0 rfl rfl hi_21 dX11_unsay_21 (fun H locs hP hD hS => ?_)
    have hP : va_P D vwCl [(a_o, .inr (10, [.long o_trace, w_o_text, .int o_typed, .int o_choices, .int o_worlds, w_o_values, .int o_at, .int o_start, .int o_sort, .int o_value, .int o_fault, w_o_draft, .ref a_sayings, w_o_leaves, w_o_signs, w_o_words, w_o_word, w_o_isKept, w_o_some, w_o_every, .int o_deep, .int o_many, w_o_length, w_o_found, .int o_foundMany])), (a_sayings, .inl (cI, 3, .inl (upd f_sayings (0 : Int32).toNatClampNeg ((f_sayings (0 : Int32).toNatClampNeg) - 1))))] H := hP
    have hD : va_D A [(a_o, .inr (10, [.long o_trace, w_o_text, .int o_typed, .int o_choices, .int o_worlds, w_o_values, .int o_at, .int o_start, .int o_sort, .int o_value, .int o_fault, w_o_draft, .ref a_sayings, w_o_leaves, w_o_signs, w_o_words, w_o_word, w_o_isKept, w_o_some, w_o_every, .int o_deep, .int o_many, w_o_length, w_o_found, .int o_foundMany])), (a_sayings, .inl (cI, 3, .inl (upd f_sayings (0 : Int32).toNatClampNeg ((f_sayings (0 : Int32).toNatClampNeg) - 1))))] := hD
    refine lv_aload_n hx hb dX11_unsay_22 rfl (lv_at hl 0 rfl) ?_
    refine va_get (D := D) (ci := 10) (v := .ref a_sayings) (C := RX11) (T := TX11) (N := 25) hx hb hts u_X11 hown hK hP 0 rfl rfl 12 (by decide) k_f0 (fun _ h9 => h9) rfl dX11_unsay_23 ?_
    refine lv_iconst (v := 0) hx hb dX11_unsay_26 ic_0 ?_
    obtain ⟨hi_27, h⟩ := ck_e h
    refine va_iald hx hb hK hP 1 0 rfl rfl hi_27 dX11_unsay_27 ?_
    have hz := Option.some.inj h
    subst hz
    exact hret H locs 28 ls (fun ty h => by cases h; rfl) hP hD hS dX11_unsay_28
  · replace h := it_e c_6 h
    refine lv_bipush (v := (-2)) hx hb dX11_unsay_9 bc_m2 ?_
    have hz := Option.some.inj h
    subst hz
    exact hret H locs 11 ls (fun ty h => by cases h; rfl) hP hD hS dX11_unsay_11
abbrev rmX11_isSet : Room := { frames := 1, cells := 0, slots := 0, locals := 22 }
theorem hdX11_isSet : yX11_isSet.cls = RX11 ∧ yX11_isSet.cls ≠ "java/lang/invoke/MethodHandle" ∧ yX11_isSet.cls ≠ "java/lang/invoke/VarHandle" ∧ (parseMethodDescriptor yX11_isSet.desc).map (fun d => d.parameters.length) = some 1 := by decide +kernel
set_option maxRecDepth 100000 in
set_option maxHeartbeats 4000000 in
theorem c_X11_isSet (l : Launch) (D : va_G) (cI cB cZ : ClassId) (a_o : Nat) (o_trace : Int64) (w_o_text : Value) (o_typed : Int32) (o_choices : Int32) (o_worlds : Int32) (w_o_values : Value) (o_at : Int32) (o_start : Int32) (o_sort : Int32) (o_value : Int32) (o_fault : Int32) (w_o_draft : Value) (w_o_sayings : Value) (w_o_leaves : Value) (w_o_signs : Value) (w_o_words : Value) (w_o_word : Value) (w_o_isKept : Value) (w_o_some : Value) (w_o_every : Value) (o_deep : Int32) (o_many : Int32) (w_o_length : Value) (w_o_found : Value) (o_foundMany : Int32) (p1 : Int32) (z : Int32) (h : P_X11_isSet p1 o_worlds = some z) : KI l yX11_isSet wsX11_isSet rmX11_isSet D [(cI, .int), (cB, .byte), (cZ, .boolean)] [.ref a_o, .int p1] [(a_o, .inr (10, [.long o_trace, w_o_text, .int o_typed, .int o_choices, .int o_worlds, w_o_values, .int o_at, .int o_start, .int o_sort, .int o_value, .int o_fault, w_o_draft, w_o_sayings, w_o_leaves, w_o_signs, w_o_words, w_o_word, w_o_isKept, w_o_some, w_o_every, .int o_deep, .int o_many, w_o_length, w_o_found, .int o_foundMany]))] [(a_o, .inr (10, [.long o_trace, w_o_text, .int o_typed, .int o_choices, .int o_worlds, w_o_values, .int o_at, .int o_start, .int o_sort, .int o_value, .int o_fault, w_o_draft, w_o_sayings, w_o_leaves, w_o_signs, w_o_words, w_o_word, w_o_isKept, w_o_some, w_o_every, .int o_deep, .int o_many, w_o_length, w_o_found, .int o_foundMany]))] z := by
  refine KI_of (own := RX11) (cc := cX11_isSet) (maxL := 2) (ret := some .boolean) (by decide) rfl rfl (Nat.le_of_ble_eq_true rfl) (Or.inr rfl) ?_
  intro p e s m args below meth c A Q hx hb hml hown hts hA hZ hK hret H locs ls hP hD hS hl
  have hl : lv_has ls 2 [(0, .ref a_o), (1, .int p1)] := hl
  have hF : CallFix p m c cX11_isSet 2 s args wsX11_isSet RX11 := ⟨hx, hb, hml, hown, hts⟩
  unfold P_X11_isSet at h
  refine lv_iload_n hx hb dX11_isSet_0 rfl (lv_at hl 1 rfl) ?_
  refine lv_iconst (v := 0) hx hb dX11_isSet_1 ic_0 ?_
  refine lv_aload_n hx hb dX11_isSet_2 rfl (lv_at hl 0 rfl) ?_
  obtain ⟨z_3, hc_3, h⟩ := bd_e h
  refine q_iV (As := []) (rest := [.int 0, .int p1]) (wF := [(a_o, .inr (10, [.long o_trace, w_o_text, .int o_typed, .int o_choices, .int o_worlds, w_o_values, .int o_at, .int o_start, .int o_sort, .int o_value, .int o_fault, w_o_draft, w_o_sayings, w_o_leaves, w_o_signs, w_o_words, w_o_word, w_o_isKept, w_o_some, w_o_every, .int o_deep, .int o_many, w_o_length, w_o_found, .int o_foundMany]))]) hF hA hZ hK hP hD hS (c_X11_allSets l D cI cB cZ a_o o_trace w_o_text o_typed o_choices o_worlds w_o_values o_at o_start o_sort o_value o_fault w_o_draft w_o_sayings w_o_leaves w_o_signs w_o_words w_o_word w_o_isKept w_o_some w_o_every o_deep o_many w_o_length w_o_found o_foundMany z_3 hc_3) rfl gX11_isSet_X11_allSets hdX11_allSets ⟨rfl, rfl⟩ (Nat.le_of_ble_eq_true rfl) (Nat.le_of_ble_eq_true rfl) 10 0 rfl rfl [0] [] rfl rfl rfl rfl (by decide) rfl hl.1 rfl (Nat.le_of_ble_eq_true rfl) (Nat.zero_le _) (Nat.zero_le _) dX11_isSet_3 (fun H locs hP hD hS => ?_)
  obtain ⟨z_6, hc_6, h⟩ := bd_e h
  refine q_iS (As := [.int p1, .int 0, .int z_3]) (rest := []) (wF := [(a_o, .inr (10, [.long o_trace, w_o_text, .int o_typed, .int o_choices, .int o_worlds, w_o_values, .int o_at, .int o_start, .int o_sort, .int o_value, .int o_fault, w_o_draft, w_o_sayings, w_o_leaves, w_o_signs, w_o_words, w_o_word, w_o_isKept, w_o_some, w_o_every, .int o_deep, .int o_many, w_o_length, w_o_found, .int o_foundMany]))]) hF hA hZ hK hP hD hS (c_X11_in l D cI cB cZ p1 0 z_3 z_6 hc_6) rfl gX11_isSet_X11_in hdX11_in ⟨rfl, rfl⟩ (Nat.le_of_ble_eq_true rfl) (Nat.le_of_ble_eq_true rfl) [] [0] rfl rfl rfl rfl (by decide) rfl hl.1 rfl (Nat.le_of_ble_eq_true rfl) (Nat.zero_le _) (Nat.zero_le _) dX11_isSet_6 (fun H locs hP hD hS => ?_)
  obtain ⟨hn9, -, h⟩ := cz_e h
  have hz := Option.some.inj h
  subst hz
  exact hret H locs 9 ls (fun ty h => by cases h; exact hn9) hP hD hS dX11_isSet_9
abbrev rmX11_word : Room := { frames := 2, cells := 0, slots := 0, locals := 43 }
theorem hdX11_word : yX11_word.cls = RX11 ∧ yX11_word.cls ≠ "java/lang/invoke/MethodHandle" ∧ yX11_word.cls ≠ "java/lang/invoke/VarHandle" ∧ (parseMethodDescriptor yX11_word.desc).map (fun d => d.parameters.length) = some 1 := by decide +kernel
set_option maxRecDepth 100000 in
set_option maxHeartbeats 4000000 in
theorem c_X11_word (l : Launch) (D : va_G) (cI cB cZ : ClassId) (a_o : Nat) (o_trace : Int64) (w_o_text : Value) (o_typed : Int32) (o_choices : Int32) (o_worlds : Int32) (w_o_values : Value) (o_at : Int32) (o_start : Int32) (o_sort : Int32) (o_value : Int32) (o_fault : Int32) (w_o_draft : Value) (w_o_sayings : Value) (w_o_leaves : Value) (w_o_signs : Value) (w_o_isKept : Value) (w_o_some : Value) (w_o_every : Value) (o_deep : Int32) (o_many : Int32) (w_o_length : Value) (w_o_found : Value) (o_foundMany : Int32) (a_words : Nat) (f_words : Nat → Int32) (a_word : Nat) (f_word : Nat → Int32) (p1 : Int32) (z : Int32 × (Nat → Int32) × (Nat → Int32)) (h : P_X11_word p1 o_worlds f_words f_word = some z) : KI l yX11_word wsX11_word rmX11_word D [(cI, .int), (cB, .byte), (cZ, .boolean)] [.ref a_o, .int p1] [(a_o, .inr (10, [.long o_trace, w_o_text, .int o_typed, .int o_choices, .int o_worlds, w_o_values, .int o_at, .int o_start, .int o_sort, .int o_value, .int o_fault, w_o_draft, w_o_sayings, w_o_leaves, w_o_signs, .ref a_words, .ref a_word, w_o_isKept, w_o_some, w_o_every, .int o_deep, .int o_many, w_o_length, w_o_found, .int o_foundMany])), (a_words, .inl (cI, 3, .inl f_words)), (a_word, .inl (cI, 9, .inl f_word))] [(a_o, .inr (10, [.long o_trace, w_o_text, .int o_typed, .int o_choices, .int o_worlds, w_o_values, .int o_at, .int o_start, .int o_sort, .int o_value, .int o_fault, w_o_draft, w_o_sayings, w_o_leaves, w_o_signs, .ref a_words, .ref a_word, w_o_isKept, w_o_some, w_o_every, .int o_deep, .int o_many, w_o_length, w_o_found, .int o_foundMany])), (a_words, .inl (cI, 3, .inl z.2.1)), (a_word, .inl (cI, 9, .inl z.2.2))] z.1 := by
  refine KI_of (own := RX11) (cc := cX11_word) (maxL := 2) (ret := some .int) (by decide) rfl rfl (Nat.le_of_ble_eq_true rfl) (Or.inl rfl) ?_
  intro p e s m args below meth c A Q hx hb hml hown hts hA hZ hK hret H locs ls hP hD hS hl
  have hl : lv_has ls 2 [(0, .ref a_o), (1, .int p1)] := hl
  have hF : CallFix p m c cX11_word 2 s args wsX11_word RX11 := ⟨hx, hb, hml, hown, hts⟩
  have u_X11 : ∀ w ∈ u_ws RX11 TX11 25, w ∈ wsX11_word := by decide +kernel
  have k_f0 := hts (.fieldLink RX11 29 "NoWordNoModel" "words" "[I") (by decide +kernel)
  have k_f1 := hts (.fieldLink RX11 32 "NoWordNoModel" "word" "[I") (by decide +kernel)
  unfold P_X11_word at h
  refine lv_aload_n hx hb dX11_word_0 rfl (lv_at hl 0 rfl) ?_
  refine lv_iload_n hx hb dX11_word_1 rfl (lv_at hl 1 rfl) ?_
  obtain ⟨z_2, hc_2, h⟩ := bd_e h
  refine q_iV (As := [.int p1]) (rest := []) (wF := [(a_words, .inl (cI, 3, .inl f_words)), (a_word, .inl (cI, 9, .inl f_word)), (a_o, .inr (10, [.long o_trace, w_o_text, .int o_typed, .int o_choices, .int o_worlds, w_o_values, .int o_at, .int o_start, .int o_sort, .int o_value, .int o_fault, w_o_draft, w_o_sayings, w_o_leaves, w_o_signs, .ref a_words, .ref a_word, w_o_isKept, w_o_some, w_o_every, .int o_deep, .int o_many, w_o_length, w_o_found, .int o_foundMany]))]) hF hA hZ hK hP hD hS (c_X11_isSet l D cI cB cZ a_o o_trace w_o_text o_typed o_choices o_worlds w_o_values o_at o_start o_sort o_value o_fault w_o_draft w_o_sayings w_o_leaves w_o_signs (.ref a_words) (.ref a_word) w_o_isKept w_o_some w_o_every o_deep o_many w_o_length w_o_found o_foundMany p1 z_2 hc_2) rfl gX11_word_X11_isSet hdX11_isSet ⟨rfl, rfl⟩ (Nat.le_of_ble_eq_true rfl) (Nat.le_of_ble_eq_true rfl) 10 0 rfl rfl [0] [1, 2] rfl rfl rfl rfl (by decide) rfl hl.1 rfl (Nat.le_of_ble_eq_true rfl) (Nat.zero_le _) (Nat.zero_le _) dX11_word_2 (fun H locs hP hD hS => ?_)
  refine lv_if_ne (tgt := 10) hx hb dX11_word_5 (by decide) (fun c_5 => ?_) (fun c_5 => ?_)
  · replace h := if_e c_5 h
    refine lv_aload_n hx hb dX11_word_10 rfl (lv_at hl 0 rfl) ?_
    refine va_get (D := D) (ci := 10) (v := .ref a_words) (C := RX11) (T := TX11) (N := 25) hx hb hts u_X11 hown hK hP 2 rfl rfl 15 (by decide) k_f0 (fun _ h9 => h9) rfl dX11_word_11 ?_
    refine lv_iconst (v := 0) hx hb dX11_word_14 ic_0 ?_
    obtain ⟨hi_15, h⟩ := ck_e h
    refine va_iald hx hb hK hP 0 0 rfl rfl hi_15 dX11_word_15 ?_
    refine lv_iconst (v := 3) hx hb dX11_word_16 ic_3 ?_
    refine lv_icmp_ne (tgt := 23) hx hb dX11_word_17 (by decide) (fun c_17 => ?_) (fun c_17 => ?_)
    · replace h := if_e c_17 h
      refine lv_aload_n hx hb dX11_word_23 rfl (lv_at hl 0 rfl) ?_
      refine va_get (D := D) (ci := 10) (v := .ref a_word) (C := RX11) (T := TX11) (N := 25) hx hb hts u_X11 hown hK hP 2 rfl rfl 16 (by decide) k_f1 (fun _ h9 => h9) rfl dX11_word_24 ?_
      refine lv_aload_n hx hb dX11_word_27 rfl (lv_at hl 0 rfl) ?_
      refine va_get (D := D) (ci := 10) (v := .ref a_words) (C := RX11) (T := TX11) (N := 25) hx hb hts u_X11 hown hK hP 2 rfl rfl 15 (by decide) k_f0 (fun _ h9 => h9) rfl dX11_word_28 ?_
      refine lv_iconst (v := 0) hx hb dX11_word_31 ic_0 ?_
      obtain ⟨hi_32, h⟩ := ck_e h
      refine va_iald hx hb hK hP 0 0 rfl rfl hi_32 dX11_word_32 ?_
      refine lv_iload_n hx hb dX11_word_33 rfl (lv_at hl 1 rfl) ?_
      obtain ⟨hi_34, h⟩ := ck_e h
      refine va_iast hx hb hK hP hD hS 1 0 rfl rfl hi_34 dX11_word_34 (fun H locs hP hD hS => ?_)
      have hP : va_P D vwCl [(a_words, .inl (cI, 3, .inl f_words)), (a_word, .inl (cI, 9, .inl (upd f_word (f_words (0 : Int32).toNatClampNeg).toNatClampNeg p1))), (a_o, .inr (10, [.long o_trace, w_o_text, .int o_typed, .int o_choices, .int o_worlds, w_o_values, .int o_at, .int o_start, .int o_sort, .int o_value, .int o_fault, w_o_draft, w_o_sayings, w_o_leaves, w_o_signs, .ref a_words, .ref a_word, w_o_isKept, w_o_some, w_o_every, .int o_deep, .int o_many, w_o_length, w_o_found, .int o_foundMany]))] H := hP
      have hD : va_D A [(a_words, .inl (cI, 3, .inl f_words)), (a_word, .inl (cI, 9, .inl (upd f_word (f_words (0 : Int32).toNatClampNeg).toNatClampNeg p1))), (a_o, .inr (10, [.long o_trace, w_o_text, .int o_typed, .int o_choices, .int o_worlds, w_o_values, .int o_at, .int o_start, .int o_sort, .int o_value, .int o_fault, w_o_draft, w_o_sayings, w_o_leaves, w_o_signs, .ref a_words, .ref a_word, w_o_isKept, w_o_some, w_o_every, .int o_deep, .int o_many, w_o_length, w_o_found, .int o_foundMany]))] := hD
      refine lv_aload_n hx hb dX11_word_35 rfl (lv_at hl 0 rfl) ?_
      refine va_get (D := D) (ci := 10) (v := .ref a_words) (C := RX11) (T := TX11) (N := 25) hx hb hts u_X11 hown hK hP 2 rfl rfl 15 (by decide) k_f0 (fun _ h9 => h9) rfl dX11_word_36 ?_
      refine lv_iconst (v := 0) hx hb dX11_word_39 ic_0 ?_
      refine lv_dup2_11 hx hb dX11_word_40 rfl rfl ?_
      obtain ⟨hi_41, h⟩ := ck_e h
      refine va_iald hx hb hK hP 0 0 rfl rfl hi_41 dX11_word_41 ?_
      refine lv_iconst (v := 1) hx hb dX11_word_42 ic_1 ?_
      refine lv_iadd hx hb dX11_word_43 ?_
      obtain ⟨hi_44, h⟩ := ck_e h
      refine va_iast hx hb hK hP hD hS 0 0 rfl rfl hi_44 dX11_word_44 (fun H locs hP hD hS => ?_)
      have hP : va_P D vwCl [(a_words, .inl (cI, 3, .inl (upd f_words (0 : Int32).toNatClampNeg ((f_words (0 : Int32).toNatClampNeg) + 1)))), (a_word, .inl (cI, 9, .inl (upd f_word (f_words (0 : Int32).toNatClampNeg).toNatClampNeg p1))), (a_o, .inr (10, [.long o_trace, w_o_text, .int o_typed, .int o_choices, .int o_worlds, w_o_values, .int o_at, .int o_start, .int o_sort, .int o_value, .int o_fault, w_o_draft, w_o_sayings, w_o_leaves, w_o_signs, .ref a_words, .ref a_word, w_o_isKept, w_o_some, w_o_every, .int o_deep, .int o_many, w_o_length, w_o_found, .int o_foundMany]))] H := hP
      have hD : va_D A [(a_words, .inl (cI, 3, .inl (upd f_words (0 : Int32).toNatClampNeg ((f_words (0 : Int32).toNatClampNeg) + 1)))), (a_word, .inl (cI, 9, .inl (upd f_word (f_words (0 : Int32).toNatClampNeg).toNatClampNeg p1))), (a_o, .inr (10, [.long o_trace, w_o_text, .int o_typed, .int o_choices, .int o_worlds, w_o_values, .int o_at, .int o_start, .int o_sort, .int o_value, .int o_fault, w_o_draft, w_o_sayings, w_o_leaves, w_o_signs, .ref a_words, .ref a_word, w_o_isKept, w_o_some, w_o_every, .int o_deep, .int o_many, w_o_length, w_o_found, .int o_foundMany]))] := hD
      refine lv_aload_n hx hb dX11_word_45 rfl (lv_at hl 0 rfl) ?_
      refine va_get (D := D) (ci := 10) (v := .ref a_words) (C := RX11) (T := TX11) (N := 25) hx hb hts u_X11 hown hK hP 2 rfl rfl 15 (by decide) k_f0 (fun _ h9 => h9) rfl dX11_word_46 ?_
      refine lv_iconst (v := 0) hx hb dX11_word_49 ic_0 ?_
      obtain ⟨hi_50, h⟩ := ck_e h
      refine va_iald hx hb hK hP 0 0 rfl rfl hi_50 dX11_word_50 ?_
      have hz := Option.some.inj h
      subst hz
      exact hret H locs 51 ls (fun ty h => by cases h; rfl) (hP.sub [2, 0, 1] rfl) (hD.sub [2, 0, 1] (by decide) rfl) hS dX11_word_51
    · replace h := it_e c_17 h
      refine lv_bipush (v := (-3)) hx hb dX11_word_20 bc_m3 ?_
      have hz := Option.some.inj h
      subst hz
      exact hret H locs 22 ls (fun ty h => by cases h; rfl) (hP.sub [2, 0, 1] rfl) (hD.sub [2, 0, 1] (by decide) rfl) hS dX11_word_22
  · replace h := it_e c_5 h
    refine lv_iconst (v := (-1)) hx hb dX11_word_8 ic_m1 ?_
    have hz := Option.some.inj h
    subst hz
    exact hret H locs 9 ls (fun ty h => by cases h; rfl) (hP.sub [2, 0, 1] rfl) (hD.sub [2, 0, 1] (by decide) rfl) hS dX11_word_9
abbrev rmX11_unword : Room := { frames := 0, cells := 0, slots := 0, locals := 0 }
theorem hdX11_unword : yX11_unword.cls = RX11 ∧ yX11_unword.cls ≠ "java/lang/invoke/MethodHandle" ∧ yX11_unword.cls ≠ "java/lang/invoke/VarHandle" ∧ (parseMethodDescriptor yX11_unword.desc).map (fun d => d.parameters.length) = some 0 := by decide +kernel
set_option maxRecDepth 100000 in
set_option maxHeartbeats 4000000 in
theorem c_X11_unword (l : Launch) (D : va_G) (cI cB cZ : ClassId) (a_o : Nat) (o_trace : Int64) (w_o_text : Value) (o_typed : Int32) (o_choices : Int32) (o_worlds : Int32) (w_o_values : Value) (o_at : Int32) (o_start : Int32) (o_sort : Int32) (o_value : Int32) (o_fault : Int32) (w_o_draft : Value) (w_o_sayings : Value) (w_o_leaves : Value) (w_o_signs : Value) (w_o_word : Value) (w_o_isKept : Value) (w_o_some : Value) (w_o_every : Value) (o_deep : Int32) (o_many : Int32) (w_o_length : Value) (w_o_found : Value) (o_foundMany : Int32) (a_words : Nat) (f_words : Nat → Int32) (z : Int32 × (Nat → Int32)) (h : P_X11_unword f_words = some z) : KI l yX11_unword wsX11_unword rmX11_unword D [(cI, .int), (cB, .byte), (cZ, .boolean)] [.ref a_o] [(a_o, .inr (10, [.long o_trace, w_o_text, .int o_typed, .int o_choices, .int o_worlds, w_o_values, .int o_at, .int o_start, .int o_sort, .int o_value, .int o_fault, w_o_draft, w_o_sayings, w_o_leaves, w_o_signs, .ref a_words, w_o_word, w_o_isKept, w_o_some, w_o_every, .int o_deep, .int o_many, w_o_length, w_o_found, .int o_foundMany])), (a_words, .inl (cI, 3, .inl f_words))] [(a_o, .inr (10, [.long o_trace, w_o_text, .int o_typed, .int o_choices, .int o_worlds, w_o_values, .int o_at, .int o_start, .int o_sort, .int o_value, .int o_fault, w_o_draft, w_o_sayings, w_o_leaves, w_o_signs, .ref a_words, w_o_word, w_o_isKept, w_o_some, w_o_every, .int o_deep, .int o_many, w_o_length, w_o_found, .int o_foundMany])), (a_words, .inl (cI, 3, .inl z.2))] z.1 := by
  refine KI_of (own := RX11) (cc := cX11_unword) (maxL := 2) (ret := some .int) (by decide) rfl rfl (Nat.le_of_ble_eq_true rfl) (Or.inl rfl) ?_
  intro p e s m args below meth c A Q hx hb hml hown hts hA hZ hK hret H locs ls hP hD hS hl
  have hl : lv_has ls 2 [(0, .ref a_o)] := hl
  have hF : CallFix p m c cX11_unword 2 s args wsX11_unword RX11 := ⟨hx, hb, hml, hown, hts⟩
  have u_X11 : ∀ w ∈ u_ws RX11 TX11 25, w ∈ wsX11_unword := by decide +kernel
  have k_f0 := hts (.fieldLink RX11 29 "NoWordNoModel" "words" "[I") (by decide +kernel)
  unfold P_X11_unword at h
  refine lv_aload_n hx hb dX11_unword_0 rfl (lv_at hl 0 rfl) ?_
  refine va_get (D := D) (ci := 10) (v := .ref a_words) (C := RX11) (T := TX11) (N := 25) hx hb hts u_X11 hown hK hP 0 rfl rfl 15 (by decide) k_f0 (fun _ h9 => h9) rfl dX11_unword_1 ?_
  refine lv_iconst (v := 0) hx hb dX11_unword_4 ic_0 ?_
  obtain ⟨hi_5, h⟩ := ck_e h
  refine va_iald hx hb hK hP 1 0 rfl rfl hi_5 dX11_unword_5 ?_
  refine lv_istore_n (lv' := [(1, .int (f_words (0 : Int32).toNatClampNeg)), (0, .ref a_o)]) hx hb dX11_unword_6 rfl hl (by decide) rfl (fun ls hl => ?_)
  refine lv_aload_n hx hb dX11_unword_7 rfl (lv_at hl 1 rfl) ?_
  refine va_get (D := D) (ci := 10) (v := .ref a_words) (C := RX11) (T := TX11) (N := 25) hx hb hts u_X11 hown hK hP 0 rfl rfl 15 (by decide) k_f0 (fun _ h9 => h9) rfl dX11_unword_8 ?_
  refine lv_iconst (v := 0) hx hb dX11_unword_11 ic_0 ?_
  refine lv_iconst (v := 0) hx hb dX11_unword_12 ic_0 ?_
  obtain ⟨hi_13, h⟩ := ck_e h
  refine va_iast hx hb hK hP hD hS 1 0 rfl rfl hi_13 dX11_unword_13 (fun H locs hP hD hS => ?_)
  have hP : va_P D vwCl [(a_o, .inr (10, [.long o_trace, w_o_text, .int o_typed, .int o_choices, .int o_worlds, w_o_values, .int o_at, .int o_start, .int o_sort, .int o_value, .int o_fault, w_o_draft, w_o_sayings, w_o_leaves, w_o_signs, .ref a_words, w_o_word, w_o_isKept, w_o_some, w_o_every, .int o_deep, .int o_many, w_o_length, w_o_found, .int o_foundMany])), (a_words, .inl (cI, 3, .inl (upd f_words (0 : Int32).toNatClampNeg 0)))] H := hP
  have hD : va_D A [(a_o, .inr (10, [.long o_trace, w_o_text, .int o_typed, .int o_choices, .int o_worlds, w_o_values, .int o_at, .int o_start, .int o_sort, .int o_value, .int o_fault, w_o_draft, w_o_sayings, w_o_leaves, w_o_signs, .ref a_words, w_o_word, w_o_isKept, w_o_some, w_o_every, .int o_deep, .int o_many, w_o_length, w_o_found, .int o_foundMany])), (a_words, .inl (cI, 3, .inl (upd f_words (0 : Int32).toNatClampNeg 0)))] := hD
  refine lv_iload_n hx hb dX11_unword_14 rfl (lv_at hl 0 rfl) ?_
  have hz := Option.some.inj h
  subst hz
  exact hret H locs 15 ls (fun ty h => by cases h; rfl) hP hD hS dX11_unword_15
abbrev rmX11_isSaying : Room := { frames := 1, cells := 0, slots := 0, locals := 22 }
theorem hdX11_isSaying : yX11_isSaying.cls = RX11 ∧ yX11_isSaying.cls ≠ "java/lang/invoke/MethodHandle" ∧ yX11_isSaying.cls ≠ "java/lang/invoke/VarHandle" ∧ (parseMethodDescriptor yX11_isSaying.desc).map (fun d => d.parameters.length) = some 1 := by decide +kernel
set_option maxRecDepth 100000 in
set_option maxHeartbeats 4000000 in
theorem c_X11_isSaying (l : Launch) (D : va_G) (cI cB cZ : ClassId) (a_o : Nat) (o_trace : Int64) (w_o_text : Value) (o_typed : Int32) (o_choices : Int32) (o_worlds : Int32) (w_o_values : Value) (o_at : Int32) (o_start : Int32) (o_sort : Int32) (o_value : Int32) (o_fault : Int32) (w_o_draft : Value) (w_o_leaves : Value) (w_o_signs : Value) (w_o_words : Value) (w_o_word : Value) (w_o_isKept : Value) (w_o_some : Value) (w_o_every : Value) (o_deep : Int32) (o_many : Int32) (w_o_length : Value) (w_o_found : Value) (o_foundMany : Int32) (a_sayings : Nat) (f_sayings : Nat → Int32) (p1 : Int32) (z : Int32) (h : P_X11_isSaying p1 f_sayings = some z) : KI l yX11_isSaying wsX11_isSaying rmX11_isSaying D [(cI, .int), (cB, .byte), (cZ, .boolean)] [.ref a_o, .int p1] [(a_o, .inr (10, [.long o_trace, w_o_text, .int o_typed, .int o_choices, .int o_worlds, w_o_values, .int o_at, .int o_start, .int o_sort, .int o_value, .int o_fault, w_o_draft, .ref a_sayings, w_o_leaves, w_o_signs, w_o_words, w_o_word, w_o_isKept, w_o_some, w_o_every, .int o_deep, .int o_many, w_o_length, w_o_found, .int o_foundMany])), (a_sayings, .inl (cI, 3, .inl f_sayings))] [(a_o, .inr (10, [.long o_trace, w_o_text, .int o_typed, .int o_choices, .int o_worlds, w_o_values, .int o_at, .int o_start, .int o_sort, .int o_value, .int o_fault, w_o_draft, .ref a_sayings, w_o_leaves, w_o_signs, w_o_words, w_o_word, w_o_isKept, w_o_some, w_o_every, .int o_deep, .int o_many, w_o_length, w_o_found, .int o_foundMany])), (a_sayings, .inl (cI, 3, .inl f_sayings))] z := by
  refine KI_of (own := RX11) (cc := cX11_isSaying) (maxL := 2) (ret := some .boolean) (by decide) rfl rfl (Nat.le_of_ble_eq_true rfl) (Or.inr rfl) ?_
  intro p e s m args below meth c A Q hx hb hml hown hts hA hZ hK hret H locs ls hP hD hS hl
  have hl : lv_has ls 2 [(0, .ref a_o), (1, .int p1)] := hl
  have hF : CallFix p m c cX11_isSaying 2 s args wsX11_isSaying RX11 := ⟨hx, hb, hml, hown, hts⟩
  have u_X11 : ∀ w ∈ u_ws RX11 TX11 25, w ∈ wsX11_isSaying := by decide +kernel
  have k_f0 := hts (.fieldLink RX11 20 "NoWordNoModel" "sayings" "[I") (by decide +kernel)
  unfold P_X11_isSaying at h
  refine lv_iload_n hx hb dX11_isSaying_0 rfl (lv_at hl 1 rfl) ?_
  refine lv_iconst (v := 0) hx hb dX11_isSaying_1 ic_0 ?_
  refine lv_aload_n hx hb dX11_isSaying_2 rfl (lv_at hl 0 rfl) ?_
  refine va_get (D := D) (ci := 10) (v := .ref a_sayings) (C := RX11) (T := TX11) (N := 25) hx hb hts u_X11 hown hK hP 0 rfl rfl 12 (by decide) k_f0 (fun _ h9 => h9) rfl dX11_isSaying_3 ?_
  refine lv_iconst (v := 0) hx hb dX11_isSaying_6 ic_0 ?_
  obtain ⟨hi_7, h⟩ := ck_e h
  refine va_iald hx hb hK hP 1 0 rfl rfl hi_7 dX11_isSaying_7 ?_
  refine lv_iconst (v := 1) hx hb dX11_isSaying_8 ic_1 ?_
  refine lv_isub hx hb dX11_isSaying_9 ?_
  obtain ⟨z_10, hc_10, h⟩ := bd_e h
  refine q_iS (As := [.int p1, .int 0, .int ((f_sayings (0 : Int32).toNatClampNeg) - 1)]) (rest := []) (wF := [(a_o, .inr (10, [.long o_trace, w_o_text, .int o_typed, .int o_choices, .int o_worlds, w_o_values, .int o_at, .int o_start, .int o_sort, .int o_value, .int o_fault, w_o_draft, .ref a_sayings, w_o_leaves, w_o_signs, w_o_words, w_o_word, w_o_isKept, w_o_some, w_o_every, .int o_deep, .int o_many, w_o_length, w_o_found, .int o_foundMany])), (a_sayings, .inl (cI, 3, .inl f_sayings))]) hF hA hZ hK hP hD hS (c_X11_in l D cI cB cZ p1 0 ((f_sayings (0 : Int32).toNatClampNeg) - 1) z_10 hc_10) rfl gX11_isSaying_X11_in hdX11_in ⟨rfl, rfl⟩ (Nat.le_of_ble_eq_true rfl) (Nat.le_of_ble_eq_true rfl) [] [0, 1] rfl rfl rfl rfl (by decide) rfl hl.1 rfl (Nat.le_of_ble_eq_true rfl) (Nat.zero_le _) (Nat.zero_le _) dX11_isSaying_10 (fun H locs hP hD hS => ?_)
  obtain ⟨hn9, -, h⟩ := cz_e h
  have hz := Option.some.inj h
  subst hz
  exact hret H locs 13 ls (fun ty h => by cases h; exact hn9) hP hD hS dX11_isSaying_13
abbrev rmX11_saying : Room := { frames := 2, cells := 0, slots := 0, locals := 43 }
theorem hdX11_saying : yX11_saying.cls = RX11 ∧ yX11_saying.cls ≠ "java/lang/invoke/MethodHandle" ∧ yX11_saying.cls ≠ "java/lang/invoke/VarHandle" ∧ (parseMethodDescriptor yX11_saying.desc).map (fun d => d.parameters.length) = some 2 := by decide +kernel
set_option maxRecDepth 100000 in
set_option maxHeartbeats 4000000 in
theorem c_X11_saying (l : Launch) (D : va_G) (cI cB cZ : ClassId) (a_o : Nat) (o_trace : Int64) (w_o_text : Value) (o_typed : Int32) (o_choices : Int32) (o_worlds : Int32) (w_o_values : Value) (o_at : Int32) (o_start : Int32) (o_sort : Int32) (o_value : Int32) (o_fault : Int32) (w_o_draft : Value) (w_o_words : Value) (w_o_word : Value) (w_o_isKept : Value) (w_o_some : Value) (w_o_every : Value) (o_deep : Int32) (o_many : Int32) (w_o_length : Value) (w_o_found : Value) (o_foundMany : Int32) (a_sayings : Nat) (f_sayings : Nat → Int32) (a_leaves : Nat) (f_leaves : Nat → Int32) (a_signs : Nat) (f_signs : Nat → Int32) (p1 : Int32) (p2 : Int32) (z : Int32) (h : P_X11_saying p1 p2 f_sayings f_leaves f_signs = some z) : KI l yX11_saying wsX11_saying rmX11_saying D [(cI, .int), (cB, .byte), (cZ, .boolean)] [.ref a_o, .int p1, .int p2] [(a_o, .inr (10, [.long o_trace, w_o_text, .int o_typed, .int o_choices, .int o_worlds, w_o_values, .int o_at, .int o_start, .int o_sort, .int o_value, .int o_fault, w_o_draft, .ref a_sayings, .ref a_leaves, .ref a_signs, w_o_words, w_o_word, w_o_isKept, w_o_some, w_o_every, .int o_deep, .int o_many, w_o_length, w_o_found, .int o_foundMany])), (a_sayings, .inl (cI, 3, .inl f_sayings)), (a_leaves, .inl (cI, 24, .inl f_leaves)), (a_signs, .inl (cI, 24, .inl f_signs))] [(a_o, .inr (10, [.long o_trace, w_o_text, .int o_typed, .int o_choices, .int o_worlds, w_o_values, .int o_at, .int o_start, .int o_sort, .int o_value, .int o_fault, w_o_draft, .ref a_sayings, .ref a_leaves, .ref a_signs, w_o_words, w_o_word, w_o_isKept, w_o_some, w_o_every, .int o_deep, .int o_many, w_o_length, w_o_found, .int o_foundMany])), (a_sayings, .inl (cI, 3, .inl f_sayings)), (a_leaves, .inl (cI, 24, .inl f_leaves)), (a_signs, .inl (cI, 24, .inl f_signs))] z := by
  refine KI_of (own := RX11) (cc := cX11_saying) (maxL := 3) (ret := some .int) (by decide) rfl rfl (Nat.le_of_ble_eq_true rfl) (Or.inl rfl) ?_
  intro p e s m args below meth c A Q hx hb hml hown hts hA hZ hK hret H locs ls hP hD hS hl
  have hl : lv_has ls 3 [(0, .ref a_o), (1, .int p1), (2, .int p2)] := hl
  have hF : CallFix p m c cX11_saying 3 s args wsX11_saying RX11 := ⟨hx, hb, hml, hown, hts⟩
  have u_X11 : ∀ w ∈ u_ws RX11 TX11 25, w ∈ wsX11_saying := by decide +kernel
  have k_f0 := hts (.fieldLink RX11 26 "NoWordNoModel" "signs" "[I") (by decide +kernel)
  have k_f1 := hts (.fieldLink RX11 23 "NoWordNoModel" "leaves" "[I") (by decide +kernel)
  unfold P_X11_saying at h
  refine lv_aload_n hx hb dX11_saying_0 rfl (lv_at hl 0 rfl) ?_
  refine lv_iload_n hx hb dX11_saying_1 rfl (lv_at hl 1 rfl) ?_
  obtain ⟨z_2, hc_2, h⟩ := bd_e h
  refine q_iV (As := [.int p1]) (rest := []) (wF := [(a_leaves, .inl (cI, 24, .inl f_leaves)), (a_signs, .inl (cI, 24, .inl f_signs)), (a_o, .inr (10, [.long o_trace, w_o_text, .int o_typed, .int o_choices, .int o_worlds, w_o_values, .int o_at, .int o_start, .int o_sort, .int o_value, .int o_fault, w_o_draft, .ref a_sayings, .ref a_leaves, .ref a_signs, w_o_words, w_o_word, w_o_isKept, w_o_some, w_o_every, .int o_deep, .int o_many, w_o_length, w_o_found, .int o_foundMany])), (a_sayings, .inl (cI, 3, .inl f_sayings))]) hF hA hZ hK hP hD hS (c_X11_isSaying l D cI cB cZ a_o o_trace w_o_text o_typed o_choices o_worlds w_o_values o_at o_start o_sort o_value o_fault w_o_draft (.ref a_leaves) (.ref a_signs) w_o_words w_o_word w_o_isKept w_o_some w_o_every o_deep o_many w_o_length w_o_found o_foundMany a_sayings f_sayings p1 z_2 hc_2) rfl gX11_saying_X11_isSaying hdX11_isSaying ⟨rfl, rfl⟩ (Nat.le_of_ble_eq_true rfl) (Nat.le_of_ble_eq_true rfl) 10 0 rfl rfl [0, 1] [2, 3] rfl rfl rfl rfl (by decide) rfl hl.1 rfl (Nat.le_of_ble_eq_true rfl) (Nat.zero_le _) (Nat.zero_le _) dX11_saying_2 (fun H locs hP hD hS => ?_)
  refine lv_if_eq (tgt := 39) hx hb dX11_saying_5 (by decide) (fun c_5 => ?_) (fun c_5 => ?_)
  · replace h := it_e c_5 h
    refine lv_iconst (v := (-1)) hx hb dX11_saying_39 ic_m1 ?_
    have hz := Option.some.inj h
    subst hz
    exact hret H locs 40 ls (fun ty h => by cases h; rfl) (hP.sub [2, 3, 0, 1] rfl) (hD.sub [2, 3, 0, 1] (by decide) rfl) hS dX11_saying_40
  · replace h := if_e c_5 h
    refine lv_iload_n hx hb dX11_saying_8 rfl (lv_at hl 2 rfl) ?_
    refine lv_iconst (v := 0) hx hb dX11_saying_9 ic_0 ?_
    refine lv_iconst (v := 1) hx hb dX11_saying_10 ic_1 ?_
    obtain ⟨z_11, hc_11, h⟩ := bd_e h
    refine q_iS (As := [.int p2, .int 0, .int 1]) (rest := []) (wF := [(a_leaves, .inl (cI, 24, .inl f_leaves)), (a_signs, .inl (cI, 24, .inl f_signs)), (a_o, .inr (10, [.long o_trace, w_o_text, .int o_typed, .int o_choices, .int o_worlds, w_o_values, .int o_at, .int o_start, .int o_sort, .int o_value, .int o_fault, w_o_draft, .ref a_sayings, .ref a_leaves, .ref a_signs, w_o_words, w_o_word, w_o_isKept, w_o_some, w_o_every, .int o_deep, .int o_many, w_o_length, w_o_found, .int o_foundMany])), (a_sayings, .inl (cI, 3, .inl f_sayings))]) hF hA hZ hK hP hD hS (c_X11_in l D cI cB cZ p2 0 1 z_11 hc_11) rfl gX11_saying_X11_in hdX11_in ⟨rfl, rfl⟩ (Nat.le_of_ble_eq_true rfl) (Nat.le_of_ble_eq_true rfl) [] [0, 1, 2, 3] rfl rfl rfl rfl (by decide) rfl hl.1 rfl (Nat.le_of_ble_eq_true rfl) (Nat.zero_le _) (Nat.zero_le _) dX11_saying_11 (fun H locs hP hD hS => ?_)
    refine lv_if_eq (tgt := 39) hx hb dX11_saying_14 (by decide) (fun c_14 => ?_) (fun c_14 => ?_)
    · replace h := it_e c_14 h
      refine lv_iconst (v := (-1)) hx hb dX11_saying_39 ic_m1 ?_
      have hz := Option.some.inj h
      subst hz
      exact hret H locs 40 ls (fun ty h => by cases h; rfl) (hP.sub [2, 3, 0, 1] rfl) (hD.sub [2, 3, 0, 1] (by decide) rfl) hS dX11_saying_40
    · replace h := if_e c_14 h
      refine lv_iload_n hx hb dX11_saying_17 rfl (lv_at hl 2 rfl) ?_
      refine lv_if_ne (tgt := 30) hx hb dX11_saying_18 (by decide) (fun c_18 => ?_) (fun c_18 => ?_)
      · replace h := if_e c_18 h
        refine lv_aload_n hx hb dX11_saying_30 rfl (lv_at hl 0 rfl) ?_
        refine va_get (D := D) (ci := 10) (v := .ref a_signs) (C := RX11) (T := TX11) (N := 25) hx hb hts u_X11 hown hK hP 2 rfl rfl 14 (by decide) k_f0 (fun _ h9 => h9) rfl dX11_saying_31 ?_
        refine lv_iload_n hx hb dX11_saying_34 rfl (lv_at hl 1 rfl) ?_
        obtain ⟨hi_35, h⟩ := ck_e h
        refine va_iald hx hb hK hP 1 0 rfl rfl hi_35 dX11_saying_35 ?_
        refine lv_goto (tgt := 40) hx hb dX11_saying_36 (by decide) ?_
        have hz := Option.some.inj h
        subst hz
        exact hret H locs 40 ls (fun ty h => by cases h; rfl) (hP.sub [2, 3, 0, 1] rfl) (hD.sub [2, 3, 0, 1] (by decide) rfl) hS dX11_saying_40
      · replace h := it_e c_18 h
        refine lv_aload_n hx hb dX11_saying_21 rfl (lv_at hl 0 rfl) ?_
        refine va_get (D := D) (ci := 10) (v := .ref a_leaves) (C := RX11) (T := TX11) (N := 25) hx hb hts u_X11 hown hK hP 2 rfl rfl 13 (by decide) k_f1 (fun _ h9 => h9) rfl dX11_saying_22 ?_
        refine lv_iload_n hx hb dX11_saying_25 rfl (lv_at hl 1 rfl) ?_
        obtain ⟨hi_26, h⟩ := ck_e h
        refine va_iald hx hb hK hP 0 0 rfl rfl hi_26 dX11_saying_26 ?_
        refine lv_goto (tgt := 40) hx hb dX11_saying_27 (by decide) ?_
        have hz := Option.some.inj h
        subst hz
        exact hret H locs 40 ls (fun ty h => by cases h; rfl) (hP.sub [2, 3, 0, 1] rfl) (hD.sub [2, 3, 0, 1] (by decide) rfl) hS dX11_saying_40
abbrev rmX11_alike : Room := { frames := 2, cells := 0, slots := 0, locals := 43 }
theorem hdX11_alike : yX11_alike.cls = RX11 ∧ yX11_alike.cls ≠ "java/lang/invoke/MethodHandle" ∧ yX11_alike.cls ≠ "java/lang/invoke/VarHandle" ∧ (parseMethodDescriptor yX11_alike.desc).map (fun d => d.parameters.length) = some 2 := by decide +kernel
set_option maxRecDepth 100000 in
set_option maxHeartbeats 4000000 in
theorem c_X11_alike (l : Launch) (D : va_G) (cI cB cZ : ClassId) (a_o : Nat) (o_trace : Int64) (w_o_text : Value) (o_typed : Int32) (o_choices : Int32) (o_worlds : Int32) (w_o_values : Value) (o_at : Int32) (o_start : Int32) (o_sort : Int32) (o_value : Int32) (o_fault : Int32) (w_o_draft : Value) (w_o_signs : Value) (w_o_words : Value) (w_o_word : Value) (w_o_isKept : Value) (w_o_some : Value) (w_o_every : Value) (o_deep : Int32) (o_many : Int32) (w_o_length : Value) (w_o_found : Value) (o_foundMany : Int32) (a_sayings : Nat) (f_sayings : Nat → Int32) (a_leaves : Nat) (f_leaves : Nat → Int32) (p1 : Int32) (p2 : Int32) (z : Int32) (h : P_X11_alike p1 p2 f_sayings f_leaves = some z) : KI l yX11_alike wsX11_alike rmX11_alike D [(cI, .int), (cB, .byte), (cZ, .boolean)] [.ref a_o, .int p1, .int p2] [(a_o, .inr (10, [.long o_trace, w_o_text, .int o_typed, .int o_choices, .int o_worlds, w_o_values, .int o_at, .int o_start, .int o_sort, .int o_value, .int o_fault, w_o_draft, .ref a_sayings, .ref a_leaves, w_o_signs, w_o_words, w_o_word, w_o_isKept, w_o_some, w_o_every, .int o_deep, .int o_many, w_o_length, w_o_found, .int o_foundMany])), (a_sayings, .inl (cI, 3, .inl f_sayings)), (a_leaves, .inl (cI, 24, .inl f_leaves))] [(a_o, .inr (10, [.long o_trace, w_o_text, .int o_typed, .int o_choices, .int o_worlds, w_o_values, .int o_at, .int o_start, .int o_sort, .int o_value, .int o_fault, w_o_draft, .ref a_sayings, .ref a_leaves, w_o_signs, w_o_words, w_o_word, w_o_isKept, w_o_some, w_o_every, .int o_deep, .int o_many, w_o_length, w_o_found, .int o_foundMany])), (a_sayings, .inl (cI, 3, .inl f_sayings)), (a_leaves, .inl (cI, 24, .inl f_leaves))] z := by
  refine KI_of (own := RX11) (cc := cX11_alike) (maxL := 3) (ret := some .int) (by decide) rfl rfl (Nat.le_of_ble_eq_true rfl) (Or.inl rfl) ?_
  intro p e s m args below meth c A Q hx hb hml hown hts hA hZ hK hret H locs ls hP hD hS hl
  have hl : lv_has ls 3 [(0, .ref a_o), (1, .int p1), (2, .int p2)] := hl
  have hF : CallFix p m c cX11_alike 3 s args wsX11_alike RX11 := ⟨hx, hb, hml, hown, hts⟩
  have u_X11 : ∀ w ∈ u_ws RX11 TX11 25, w ∈ wsX11_alike := by decide +kernel
  have k_f0 := hts (.fieldLink RX11 23 "NoWordNoModel" "leaves" "[I") (by decide +kernel)
  unfold P_X11_alike at h
  refine lv_aload_n hx hb dX11_alike_0 rfl (lv_at hl 0 rfl) ?_
  refine lv_iload_n hx hb dX11_alike_1 rfl (lv_at hl 1 rfl) ?_
  obtain ⟨z_2, hc_2, h⟩ := bd_e h
  refine q_iV (As := [.int p1]) (rest := []) (wF := [(a_leaves, .inl (cI, 24, .inl f_leaves)), (a_o, .inr (10, [.long o_trace, w_o_text, .int o_typed, .int o_choices, .int o_worlds, w_o_values, .int o_at, .int o_start, .int o_sort, .int o_value, .int o_fault, w_o_draft, .ref a_sayings, .ref a_leaves, w_o_signs, w_o_words, w_o_word, w_o_isKept, w_o_some, w_o_every, .int o_deep, .int o_many, w_o_length, w_o_found, .int o_foundMany])), (a_sayings, .inl (cI, 3, .inl f_sayings))]) hF hA hZ hK hP hD hS (c_X11_isSaying l D cI cB cZ a_o o_trace w_o_text o_typed o_choices o_worlds w_o_values o_at o_start o_sort o_value o_fault w_o_draft (.ref a_leaves) w_o_signs w_o_words w_o_word w_o_isKept w_o_some w_o_every o_deep o_many w_o_length w_o_found o_foundMany a_sayings f_sayings p1 z_2 hc_2) rfl gX11_alike_X11_isSaying hdX11_isSaying ⟨rfl, rfl⟩ (Nat.le_of_ble_eq_true rfl) (Nat.le_of_ble_eq_true rfl) 10 0 rfl rfl [0, 1] [2] rfl rfl rfl rfl (by decide) rfl hl.1 rfl (Nat.le_of_ble_eq_true rfl) (Nat.zero_le _) (Nat.zero_le _) dX11_alike_2 (fun H locs hP hD hS => ?_)
  refine lv_if_eq (tgt := 39) hx hb dX11_alike_5 (by decide) (fun c_5 => ?_) (fun c_5 => ?_)
  · replace h := it_e c_5 h
    refine lv_iconst (v := (-1)) hx hb dX11_alike_39 ic_m1 ?_
    have hz := Option.some.inj h
    subst hz
    exact hret H locs 40 ls (fun ty h => by cases h; rfl) (hP.sub [1, 2, 0] rfl) (hD.sub [1, 2, 0] (by decide) rfl) hS dX11_alike_40
  · replace h := if_e c_5 h
    refine lv_aload_n hx hb dX11_alike_8 rfl (lv_at hl 0 rfl) ?_
    refine lv_iload_n hx hb dX11_alike_9 rfl (lv_at hl 2 rfl) ?_
    obtain ⟨z_10, hc_10, h⟩ := bd_e h
    refine q_iV (As := [.int p2]) (rest := []) (wF := [(a_leaves, .inl (cI, 24, .inl f_leaves)), (a_o, .inr (10, [.long o_trace, w_o_text, .int o_typed, .int o_choices, .int o_worlds, w_o_values, .int o_at, .int o_start, .int o_sort, .int o_value, .int o_fault, w_o_draft, .ref a_sayings, .ref a_leaves, w_o_signs, w_o_words, w_o_word, w_o_isKept, w_o_some, w_o_every, .int o_deep, .int o_many, w_o_length, w_o_found, .int o_foundMany])), (a_sayings, .inl (cI, 3, .inl f_sayings))]) hF hA hZ hK hP hD hS (c_X11_isSaying l D cI cB cZ a_o o_trace w_o_text o_typed o_choices o_worlds w_o_values o_at o_start o_sort o_value o_fault w_o_draft (.ref a_leaves) w_o_signs w_o_words w_o_word w_o_isKept w_o_some w_o_every o_deep o_many w_o_length w_o_found o_foundMany a_sayings f_sayings p2 z_10 hc_10) rfl gX11_alike_X11_isSaying hdX11_isSaying ⟨rfl, rfl⟩ (Nat.le_of_ble_eq_true rfl) (Nat.le_of_ble_eq_true rfl) 10 0 rfl rfl [1, 2] [0] rfl rfl rfl rfl (by decide) rfl hl.1 rfl (Nat.le_of_ble_eq_true rfl) (Nat.zero_le _) (Nat.zero_le _) dX11_alike_10 (fun H locs hP hD hS => ?_)
    refine lv_if_eq (tgt := 39) hx hb dX11_alike_13 (by decide) (fun c_13 => ?_) (fun c_13 => ?_)
    · replace h := it_e c_13 h
      refine lv_iconst (v := (-1)) hx hb dX11_alike_39 ic_m1 ?_
      have hz := Option.some.inj h
      subst hz
      exact hret H locs 40 ls (fun ty h => by cases h; rfl) (hP.sub [1, 2, 0] rfl) (hD.sub [1, 2, 0] (by decide) rfl) hS dX11_alike_40
    · replace h := if_e c_13 h
      refine lv_aload_n hx hb dX11_alike_16 rfl (lv_at hl 0 rfl) ?_
      refine va_get (D := D) (ci := 10) (v := .ref a_leaves) (C := RX11) (T := TX11) (N := 25) hx hb hts u_X11 hown hK hP 1 rfl rfl 13 (by decide) k_f0 (fun _ h9 => h9) rfl dX11_alike_17 ?_
      refine lv_iload_n hx hb dX11_alike_20 rfl (lv_at hl 1 rfl) ?_
      obtain ⟨hi_21, h⟩ := ck_e h
      refine va_iald hx hb hK hP 0 0 rfl rfl hi_21 dX11_alike_21 ?_
      refine lv_aload_n hx hb dX11_alike_22 rfl (lv_at hl 0 rfl) ?_
      refine va_get (D := D) (ci := 10) (v := .ref a_leaves) (C := RX11) (T := TX11) (N := 25) hx hb hts u_X11 hown hK hP 1 rfl rfl 13 (by decide) k_f0 (fun _ h9 => h9) rfl dX11_alike_23 ?_
      refine lv_iload_n hx hb dX11_alike_26 rfl (lv_at hl 2 rfl) ?_
      obtain ⟨hi_27, h⟩ := ck_e h
      refine va_iald hx hb hK hP 0 0 rfl rfl hi_27 dX11_alike_27 ?_
      refine lv_icmp_ne (tgt := 35) hx hb dX11_alike_28 (by decide) (fun c_28 => ?_) (fun c_28 => ?_)
      · replace h := if_e c_28 h
        refine lv_iconst (v := 0) hx hb dX11_alike_35 ic_0 ?_
        refine lv_goto (tgt := 40) hx hb dX11_alike_36 (by decide) ?_
        have hz := Option.some.inj h
        subst hz
        exact hret H locs 40 ls (fun ty h => by cases h; rfl) (hP.sub [1, 2, 0] rfl) (hD.sub [1, 2, 0] (by decide) rfl) hS dX11_alike_40
      · replace h := it_e c_28 h
        refine lv_iconst (v := 1) hx hb dX11_alike_31 ic_1 ?_
        refine lv_goto (tgt := 40) hx hb dX11_alike_32 (by decide) ?_
        have hz := Option.some.inj h
        subst hz
        exact hret H locs 40 ls (fun ty h => by cases h; rfl) (hP.sub [1, 2, 0] rfl) (hD.sub [1, 2, 0] (by decide) rfl) hS dX11_alike_40
abbrev rmX11_find : Room := { frames := 0, cells := 0, slots := 0, locals := 0 }
theorem hdX11_find : yX11_find.cls = RX11 ∧ yX11_find.cls ≠ "java/lang/invoke/MethodHandle" ∧ yX11_find.cls ≠ "java/lang/invoke/VarHandle" ∧ (parseMethodDescriptor yX11_find.desc).map (fun d => d.parameters.length) = some 2 := by decide +kernel
set_option maxRecDepth 100000 in
set_option maxHeartbeats 4000000 in
theorem c_X11_find (l : Launch) (D : va_G) (cI cB cZ : ClassId) (a_o : Nat) (o_trace : Int64) (w_o_text : Value) (o_typed : Int32) (o_choices : Int32) (o_worlds : Int32) (w_o_values : Value) (o_at : Int32) (o_start : Int32) (o_sort : Int32) (o_value : Int32) (o_fault : Int32) (w_o_draft : Value) (w_o_sayings : Value) (w_o_leaves : Value) (w_o_signs : Value) (w_o_words : Value) (w_o_word : Value) (w_o_isKept : Value) (w_o_some : Value) (w_o_every : Value) (o_deep : Int32) (o_many : Int32) (o_foundMany : Int32) (a_length : Nat) (f_length : Nat → Int32) (a_found : Nat) (f_found : Nat → Int32) (p1 : Int32) (p2 : Int32) (z : Int32 × (Nat → Int32) × (Nat → Int32)) (h : P_X11_find p1 p2 o_foundMany f_length f_found = some z) : KV l yX11_find wsX11_find rmX11_find D [(cI, .int), (cB, .byte), (cZ, .boolean)] [.ref a_o, .int p1, .int p2] [(a_o, .inr (10, [.long o_trace, w_o_text, .int o_typed, .int o_choices, .int o_worlds, w_o_values, .int o_at, .int o_start, .int o_sort, .int o_value, .int o_fault, w_o_draft, w_o_sayings, w_o_leaves, w_o_signs, w_o_words, w_o_word, w_o_isKept, w_o_some, w_o_every, .int o_deep, .int o_many, .ref a_length, .ref a_found, .int o_foundMany])), (a_length, .inl (cI, 512, .inl f_length)), (a_found, .inl (cI, 512, .inl f_found))] [(a_o, .inr (10, [.long o_trace, w_o_text, .int o_typed, .int o_choices, .int o_worlds, w_o_values, .int o_at, .int o_start, .int o_sort, .int o_value, .int o_fault, w_o_draft, w_o_sayings, w_o_leaves, w_o_signs, w_o_words, w_o_word, w_o_isKept, w_o_some, w_o_every, .int o_deep, .int o_many, .ref a_length, .ref a_found, .int z.1])), (a_length, .inl (cI, 512, .inl z.2.1)), (a_found, .inl (cI, 512, .inl z.2.2))] := by
  refine KV_of (own := RX11) (cc := cX11_find) (maxL := 3) (by decide) rfl rfl (Nat.le_of_ble_eq_true rfl) ?_
  intro p e s m args below meth c A Q hx hb hml hown hts hA hZ hK hret H locs ls hP hD hS hl
  have hl : lv_has ls 3 [(0, .ref a_o), (1, .int p1), (2, .int p2)] := hl
  have hF : CallFix p m c cX11_find 3 s args wsX11_find RX11 := ⟨hx, hb, hml, hown, hts⟩
  have u_X11 : ∀ w ∈ u_ws RX11 TX11 25, w ∈ wsX11_find := by decide +kernel
  have k_f0 := hts (.fieldLink RX11 45 "NoWordNoModel" "length" "[I") (by decide +kernel)
  have k_f1 := hts (.fieldLink RX11 48 "NoWordNoModel" "found" "[I") (by decide +kernel)
  have k_f2 := hts (.fieldLink RX11 131 "NoWordNoModel" "foundMany" "I") (by decide +kernel)
  unfold P_X11_find at h
  refine lv_aload_n hx hb dX11_find_0 rfl (lv_at hl 0 rfl) ?_
  refine va_get (D := D) (ci := 10) (v := .ref a_length) (C := RX11) (T := TX11) (N := 25) hx hb hts u_X11 hown hK hP 0 rfl rfl 22 (by decide) k_f0 (fun _ h9 => h9) rfl dX11_find_1 ?_
  refine lv_iload_n hx hb dX11_find_4 rfl (lv_at hl 1 rfl) ?_
  obtain ⟨hi_5, h⟩ := ck_e h
  refine va_iald hx hb hK hP 1 0 rfl rfl hi_5 dX11_find_5 ?_
  refine lv_if_ne (tgt := 36) hx hb dX11_find_6 (by decide) (fun c_6 => ?_) (fun c_6 => ?_)
  · replace h := if_e c_6 h
    have hz := Option.some.inj h
    subst hz
    exact hret H locs 36 ls hP hD hS dX11_find_36
  · replace h := it_e c_6 h
    refine lv_aload_n hx hb dX11_find_9 rfl (lv_at hl 0 rfl) ?_
    refine va_get (D := D) (ci := 10) (v := .ref a_length) (C := RX11) (T := TX11) (N := 25) hx hb hts u_X11 hown hK hP 0 rfl rfl 22 (by decide) k_f0 (fun _ h9 => h9) rfl dX11_find_10 ?_
    refine lv_iload_n hx hb dX11_find_13 rfl (lv_at hl 1 rfl) ?_
    refine lv_iload_n hx hb dX11_find_14 rfl (lv_at hl 2 rfl) ?_
    obtain ⟨hi_15, h⟩ := ck_e h
    refine va_iast hx hb hK hP hD hS 1 0 rfl rfl hi_15 dX11_find_15 (fun H locs hP hD hS => ?_)
    have hP : va_P D vwCl [(a_o, .inr (10, [.long o_trace, w_o_text, .int o_typed, .int o_choices, .int o_worlds, w_o_values, .int o_at, .int o_start, .int o_sort, .int o_value, .int o_fault, w_o_draft, w_o_sayings, w_o_leaves, w_o_signs, w_o_words, w_o_word, w_o_isKept, w_o_some, w_o_every, .int o_deep, .int o_many, .ref a_length, .ref a_found, .int o_foundMany])), (a_length, .inl (cI, 512, .inl (upd f_length p1.toNatClampNeg p2))), (a_found, .inl (cI, 512, .inl f_found))] H := hP
    have hD : va_D A [(a_o, .inr (10, [.long o_trace, w_o_text, .int o_typed, .int o_choices, .int o_worlds, w_o_values, .int o_at, .int o_start, .int o_sort, .int o_value, .int o_fault, w_o_draft, w_o_sayings, w_o_leaves, w_o_signs, w_o_words, w_o_word, w_o_isKept, w_o_some, w_o_every, .int o_deep, .int o_many, .ref a_length, .ref a_found, .int o_foundMany])), (a_length, .inl (cI, 512, .inl (upd f_length p1.toNatClampNeg p2))), (a_found, .inl (cI, 512, .inl f_found))] := hD
    refine lv_aload_n hx hb dX11_find_16 rfl (lv_at hl 0 rfl) ?_
    refine va_get (D := D) (ci := 10) (v := .ref a_found) (C := RX11) (T := TX11) (N := 25) hx hb hts u_X11 hown hK hP 0 rfl rfl 23 (by decide) k_f1 (fun _ h9 => h9) rfl dX11_find_17 ?_
    refine lv_aload_n hx hb dX11_find_20 rfl (lv_at hl 0 rfl) ?_
    refine va_get (D := D) (ci := 10) (v := .int o_foundMany) (C := RX11) (T := TX11) (N := 25) hx hb hts u_X11 hown hK hP 0 rfl rfl 24 (by decide) k_f2 (fun _ h9 => h9) rfl dX11_find_21 ?_
    refine lv_iload_n hx hb dX11_find_24 rfl (lv_at hl 1 rfl) ?_
    obtain ⟨hi_25, h⟩ := ck_e h
    refine va_iast hx hb hK hP hD hS 2 0 rfl rfl hi_25 dX11_find_25 (fun H locs hP hD hS => ?_)
    have hP : va_P D vwCl [(a_o, .inr (10, [.long o_trace, w_o_text, .int o_typed, .int o_choices, .int o_worlds, w_o_values, .int o_at, .int o_start, .int o_sort, .int o_value, .int o_fault, w_o_draft, w_o_sayings, w_o_leaves, w_o_signs, w_o_words, w_o_word, w_o_isKept, w_o_some, w_o_every, .int o_deep, .int o_many, .ref a_length, .ref a_found, .int o_foundMany])), (a_length, .inl (cI, 512, .inl (upd f_length p1.toNatClampNeg p2))), (a_found, .inl (cI, 512, .inl (upd f_found o_foundMany.toNatClampNeg p1)))] H := hP
    have hD : va_D A [(a_o, .inr (10, [.long o_trace, w_o_text, .int o_typed, .int o_choices, .int o_worlds, w_o_values, .int o_at, .int o_start, .int o_sort, .int o_value, .int o_fault, w_o_draft, w_o_sayings, w_o_leaves, w_o_signs, w_o_words, w_o_word, w_o_isKept, w_o_some, w_o_every, .int o_deep, .int o_many, .ref a_length, .ref a_found, .int o_foundMany])), (a_length, .inl (cI, 512, .inl (upd f_length p1.toNatClampNeg p2))), (a_found, .inl (cI, 512, .inl (upd f_found o_foundMany.toNatClampNeg p1)))] := hD
    refine lv_aload_n hx hb dX11_find_26 rfl (lv_at hl 0 rfl) ?_
    refine lv_dup hx hb dX11_find_27 rfl ?_
    refine va_get (D := D) (ci := 10) (v := .int o_foundMany) (C := RX11) (T := TX11) (N := 25) hx hb hts u_X11 hown hK hP 0 rfl rfl 24 (by decide) k_f2 (fun _ h9 => h9) rfl dX11_find_28 ?_
    refine lv_iconst (v := 1) hx hb dX11_find_31 ic_1 ?_
    refine lv_iadd hx hb dX11_find_32 ?_
    refine va_put (D := D) (ci := 10) (v := .int (o_foundMany + 1)) (ty := .int) (C := RX11) (T := TX11) (N := 25) hx hb hts u_X11 tyX11 tyX11_ok nmX11 hown hK hP hD hS 0 rfl rfl 24 (by decide) k_f2 (fun _ h9 => h9) rfl (tyX11_ok 24 (by decide)) rfl rfl (Nat.le_of_ble_eq_true rfl) dX11_find_33 (fun H locs hP hD hS => ?_)
    have hP : va_P D vwCl [(a_o, .inr (10, [.long o_trace, w_o_text, .int o_typed, .int o_choices, .int o_worlds, w_o_values, .int o_at, .int o_start, .int o_sort, .int o_value, .int o_fault, w_o_draft, w_o_sayings, w_o_leaves, w_o_signs, w_o_words, w_o_word, w_o_isKept, w_o_some, w_o_every, .int o_deep, .int o_many, .ref a_length, .ref a_found, .int (o_foundMany + 1)])), (a_length, .inl (cI, 512, .inl (upd f_length p1.toNatClampNeg p2))), (a_found, .inl (cI, 512, .inl (upd f_found o_foundMany.toNatClampNeg p1)))] H := hP
    have hD : va_D A [(a_o, .inr (10, [.long o_trace, w_o_text, .int o_typed, .int o_choices, .int o_worlds, w_o_values, .int o_at, .int o_start, .int o_sort, .int o_value, .int o_fault, w_o_draft, w_o_sayings, w_o_leaves, w_o_signs, w_o_words, w_o_word, w_o_isKept, w_o_some, w_o_every, .int o_deep, .int o_many, .ref a_length, .ref a_found, .int (o_foundMany + 1)])), (a_length, .inl (cI, 512, .inl (upd f_length p1.toNatClampNeg p2))), (a_found, .inl (cI, 512, .inl (upd f_found o_foundMany.toNatClampNeg p1)))] := hD
    have hz := Option.some.inj h
    subst hz
    exact hret H locs 36 ls hP hD hS dX11_find_36
abbrev rmX11_findAll : Room := { frames := 2, cells := 0, slots := 0, locals := 48 }
theorem hdX11_findAll : yX11_findAll.cls = RX11 ∧ yX11_findAll.cls ≠ "java/lang/invoke/MethodHandle" ∧ yX11_findAll.cls ≠ "java/lang/invoke/VarHandle" ∧ (parseMethodDescriptor yX11_findAll.desc).map (fun d => d.parameters.length) = some 1 := by decide +kernel
set_option maxRecDepth 100000 in
set_option maxHeartbeats 4000000 in
theorem c_X11_findAll (l : Launch) (D : va_G) (cI cB cZ : ClassId) (a_o : Nat) (o_trace : Int64) (w_o_text : Value) (o_typed : Int32) (o_choices : Int32) (o_worlds : Int32) (o_at : Int32) (o_start : Int32) (o_sort : Int32) (o_value : Int32) (o_fault : Int32) (w_o_draft : Value) (w_o_sayings : Value) (w_o_leaves : Value) (w_o_signs : Value) (w_o_isKept : Value) (w_o_some : Value) (w_o_every : Value) (o_deep : Int32) (o_many : Int32) (o_foundMany : Int32) (a_values : Nat) (f_values : Nat → Int32) (a_words : Nat) (f_words : Nat → Int32) (a_word : Nat) (f_word : Nat → Int32) (a_length : Nat) (f_length : Nat → Int32) (a_found : Nat) (f_found : Nat → Int32) (p1 : Int32) (z : Int32 × (Nat → Int32) × (Nat → Int32)) (h : P_X11_findAll p1 o_choices o_worlds o_foundMany f_values f_words f_word f_length f_found = some z) : KV l yX11_findAll wsX11_findAll rmX11_findAll D [(cI, .int), (cB, .byte), (cZ, .boolean)] [.ref a_o, .int p1] [(a_o, .inr (10, [.long o_trace, w_o_text, .int o_typed, .int o_choices, .int o_worlds, .ref a_values, .int o_at, .int o_start, .int o_sort, .int o_value, .int o_fault, w_o_draft, w_o_sayings, w_o_leaves, w_o_signs, .ref a_words, .ref a_word, w_o_isKept, w_o_some, w_o_every, .int o_deep, .int o_many, .ref a_length, .ref a_found, .int o_foundMany])), (a_values, .inl (cI, 3, .inl f_values)), (a_words, .inl (cI, 3, .inl f_words)), (a_word, .inl (cI, 9, .inl f_word)), (a_length, .inl (cI, 512, .inl f_length)), (a_found, .inl (cI, 512, .inl f_found))] [(a_o, .inr (10, [.long o_trace, w_o_text, .int o_typed, .int o_choices, .int o_worlds, .ref a_values, .int o_at, .int o_start, .int o_sort, .int o_value, .int o_fault, w_o_draft, w_o_sayings, w_o_leaves, w_o_signs, .ref a_words, .ref a_word, w_o_isKept, w_o_some, w_o_every, .int o_deep, .int o_many, .ref a_length, .ref a_found, .int z.1])), (a_values, .inl (cI, 3, .inl f_values)), (a_words, .inl (cI, 3, .inl f_words)), (a_word, .inl (cI, 9, .inl f_word)), (a_length, .inl (cI, 512, .inl z.2.1)), (a_found, .inl (cI, 512, .inl z.2.2))] := by
  refine KV_of (own := RX11) (cc := cX11_findAll) (maxL := 6) (by decide) rfl rfl (Nat.le_of_ble_eq_true rfl) ?_
  intro p e s m args below meth c A Q hx hb hml hown hts hA hZ hK hret H locs ls hP hD hS hl
  have hl : lv_has ls 6 [(0, .ref a_o), (1, .int p1)] := hl
  have hF : CallFix p m c cX11_findAll 6 s args wsX11_findAll RX11 := ⟨hx, hb, hml, hown, hts⟩
  have u_X11 : ∀ w ∈ u_ws RX11 TX11 25, w ∈ wsX11_findAll := by decide +kernel
  have k_f0 := hts (.fieldLink RX11 131 "NoWordNoModel" "foundMany" "I") (by decide +kernel)
  have k_f1 := hts (.fieldLink RX11 45 "NoWordNoModel" "length" "[I") (by decide +kernel)
  have k_f2 := hts (.fieldLink RX11 48 "NoWordNoModel" "found" "[I") (by decide +kernel)
  have k_f3 := hts (.fieldLink RX11 29 "NoWordNoModel" "words" "[I") (by decide +kernel)
  have k_f4 := hts (.fieldLink RX11 32 "NoWordNoModel" "word" "[I") (by decide +kernel)
  have k_f5 := hts (.fieldLink RX11 95 "NoWordNoModel" "choices" "I") (by decide +kernel)
  have k_f6 := hts (.fieldLink RX11 13 "NoWordNoModel" "values" "[I") (by decide +kernel)
  unfold P_X11_findAll at h
  refine lv_iconst (v := 0) hx hb dX11_findAll_0 ic_0 ?_
  refine lv_istore_n (lv' := [(2, .int 0), (0, .ref a_o), (1, .int p1)]) hx hb dX11_findAll_1 rfl hl (by decide) rfl (fun ls hl => ?_)
  obtain ⟨k22, hk22, h⟩ := jn_e h
  have Jk22 : ∀ (x22_f_length : (Nat → Int32)) (H : Heap) (locs : List Loc) (ls : Array Slot), k22 x22_f_length = some z → va_P D vwCl [(a_o, .inr (10, [.long o_trace, w_o_text, .int o_typed, .int o_choices, .int o_worlds, .ref a_values, .int o_at, .int o_start, .int o_sort, .int o_value, .int o_fault, w_o_draft, w_o_sayings, w_o_leaves, w_o_signs, .ref a_words, .ref a_word, w_o_isKept, w_o_some, w_o_every, .int o_deep, .int o_many, .ref a_length, .ref a_found, .int o_foundMany])), (a_values, .inl (cI, 3, .inl f_values)), (a_words, .inl (cI, 3, .inl f_words)), (a_word, .inl (cI, 9, .inl f_word)), (a_length, .inl (cI, 512, .inl x22_f_length)), (a_found, .inl (cI, 512, .inl f_found))] H → va_D A [(a_o, .inr (10, [.long o_trace, w_o_text, .int o_typed, .int o_choices, .int o_worlds, .ref a_values, .int o_at, .int o_start, .int o_sort, .int o_value, .int o_fault, w_o_draft, w_o_sayings, w_o_leaves, w_o_signs, .ref a_words, .ref a_word, w_o_isKept, w_o_some, w_o_every, .int o_deep, .int o_many, .ref a_length, .ref a_found, .int o_foundMany])), (a_values, .inl (cI, 3, .inl f_values)), (a_words, .inl (cI, 3, .inl f_words)), (a_word, .inl (cI, 9, .inl f_word)), (a_length, .inl (cI, 512, .inl x22_f_length)), (a_found, .inl (cI, 512, .inl f_found))] → va_S A s.heap H locs → lv_has ls 6 [(0, .ref a_o), (1, .int p1)] → W p l e rmX11_findAll s m args below meth c H locs 0 0 Q (F0 m 22 ls []) := by
    intro x22_f_length H locs ls h hP hD hS hl
    rw [hk22] at h
    refine lv_aload_n hx hb dX11_findAll_22 rfl (lv_at hl 0 rfl) ?_
    refine lv_iconst (v := 0) hx hb dX11_findAll_23 ic_0 ?_
    refine va_put (D := D) (ci := 10) (v := .int 0) (ty := .int) (C := RX11) (T := TX11) (N := 25) hx hb hts u_X11 tyX11 tyX11_ok nmX11 hown hK hP hD hS 0 rfl rfl 24 (by decide) k_f0 (fun _ h9 => h9) rfl (tyX11_ok 24 (by decide)) rfl rfl (Nat.le_of_ble_eq_true rfl) dX11_findAll_24 (fun H locs hP hD hS => ?_)
    have hP : va_P D vwCl [(a_o, .inr (10, [.long o_trace, w_o_text, .int o_typed, .int o_choices, .int o_worlds, .ref a_values, .int o_at, .int o_start, .int o_sort, .int o_value, .int o_fault, w_o_draft, w_o_sayings, w_o_leaves, w_o_signs, .ref a_words, .ref a_word, w_o_isKept, w_o_some, w_o_every, .int o_deep, .int o_many, .ref a_length, .ref a_found, .int 0])), (a_values, .inl (cI, 3, .inl f_values)), (a_words, .inl (cI, 3, .inl f_words)), (a_word, .inl (cI, 9, .inl f_word)), (a_length, .inl (cI, 512, .inl x22_f_length)), (a_found, .inl (cI, 512, .inl f_found))] H := hP
    have hD : va_D A [(a_o, .inr (10, [.long o_trace, w_o_text, .int o_typed, .int o_choices, .int o_worlds, .ref a_values, .int o_at, .int o_start, .int o_sort, .int o_value, .int o_fault, w_o_draft, w_o_sayings, w_o_leaves, w_o_signs, .ref a_words, .ref a_word, w_o_isKept, w_o_some, w_o_every, .int o_deep, .int o_many, .ref a_length, .ref a_found, .int 0])), (a_values, .inl (cI, 3, .inl f_values)), (a_words, .inl (cI, 3, .inl f_words)), (a_word, .inl (cI, 9, .inl f_word)), (a_length, .inl (cI, 512, .inl x22_f_length)), (a_found, .inl (cI, 512, .inl f_found))] := hD
    refine lv_iconst (v := 0) hx hb dX11_findAll_27 ic_0 ?_
    refine lv_istore_n (lv' := [(2, .int 0), (0, .ref a_o), (1, .int p1)]) hx hb dX11_findAll_28 rfl hl (by decide) rfl (fun ls hl => ?_)
    obtain ⟨k72, hk72, h⟩ := jn_e h
    have Jk72 : ∀ (x72_o_foundMany : Int32) (x72_f_length : (Nat → Int32)) (x72_f_found : (Nat → Int32)) (H : Heap) (locs : List Loc) (ls : Array Slot), k72 x72_o_foundMany x72_f_length x72_f_found = some z → va_P D vwCl [(a_o, .inr (10, [.long o_trace, w_o_text, .int o_typed, .int o_choices, .int o_worlds, .ref a_values, .int o_at, .int o_start, .int o_sort, .int o_value, .int o_fault, w_o_draft, w_o_sayings, w_o_leaves, w_o_signs, .ref a_words, .ref a_word, w_o_isKept, w_o_some, w_o_every, .int o_deep, .int o_many, .ref a_length, .ref a_found, .int x72_o_foundMany])), (a_values, .inl (cI, 3, .inl f_values)), (a_words, .inl (cI, 3, .inl f_words)), (a_word, .inl (cI, 9, .inl f_word)), (a_length, .inl (cI, 512, .inl x72_f_length)), (a_found, .inl (cI, 512, .inl x72_f_found))] H → va_D A [(a_o, .inr (10, [.long o_trace, w_o_text, .int o_typed, .int o_choices, .int o_worlds, .ref a_values, .int o_at, .int o_start, .int o_sort, .int o_value, .int o_fault, w_o_draft, w_o_sayings, w_o_leaves, w_o_signs, .ref a_words, .ref a_word, w_o_isKept, w_o_some, w_o_every, .int o_deep, .int o_many, .ref a_length, .ref a_found, .int x72_o_foundMany])), (a_values, .inl (cI, 3, .inl f_values)), (a_words, .inl (cI, 3, .inl f_words)), (a_word, .inl (cI, 9, .inl f_word)), (a_length, .inl (cI, 512, .inl x72_f_length)), (a_found, .inl (cI, 512, .inl x72_f_found))] → va_S A s.heap H locs → lv_has ls 6 [(0, .ref a_o), (1, .int p1)] → W p l e rmX11_findAll s m args below meth c H locs 0 0 Q (F0 m 72 ls []) := by
      intro x72_o_foundMany x72_f_length x72_f_found H locs ls h hP hD hS hl
      rw [hk72] at h
      refine lv_iconst (v := 0) hx hb dX11_findAll_72 ic_0 ?_
      refine lv_istore_n (lv' := [(2, .int 0), (0, .ref a_o), (1, .int p1)]) hx hb dX11_findAll_73 rfl hl (by decide) rfl (fun ls hl => ?_)
      obtain ⟨k101, hk101, h⟩ := jn_e h
      have Jk101 : ∀ (x101_o_foundMany : Int32) (x101_f_length : (Nat → Int32)) (x101_f_found : (Nat → Int32)) (H : Heap) (locs : List Loc) (ls : Array Slot), k101 x101_o_foundMany x101_f_length x101_f_found = some z → va_P D vwCl [(a_o, .inr (10, [.long o_trace, w_o_text, .int o_typed, .int o_choices, .int o_worlds, .ref a_values, .int o_at, .int o_start, .int o_sort, .int o_value, .int o_fault, w_o_draft, w_o_sayings, w_o_leaves, w_o_signs, .ref a_words, .ref a_word, w_o_isKept, w_o_some, w_o_every, .int o_deep, .int o_many, .ref a_length, .ref a_found, .int x101_o_foundMany])), (a_values, .inl (cI, 3, .inl f_values)), (a_words, .inl (cI, 3, .inl f_words)), (a_word, .inl (cI, 9, .inl f_word)), (a_length, .inl (cI, 512, .inl x101_f_length)), (a_found, .inl (cI, 512, .inl x101_f_found))] H → va_D A [(a_o, .inr (10, [.long o_trace, w_o_text, .int o_typed, .int o_choices, .int o_worlds, .ref a_values, .int o_at, .int o_start, .int o_sort, .int o_value, .int o_fault, w_o_draft, w_o_sayings, w_o_leaves, w_o_signs, .ref a_words, .ref a_word, w_o_isKept, w_o_some, w_o_every, .int o_deep, .int o_many, .ref a_length, .ref a_found, .int x101_o_foundMany])), (a_values, .inl (cI, 3, .inl f_values)), (a_words, .inl (cI, 3, .inl f_words)), (a_word, .inl (cI, 9, .inl f_word)), (a_length, .inl (cI, 512, .inl x101_f_length)), (a_found, .inl (cI, 512, .inl x101_f_found))] → va_S A s.heap H locs → lv_has ls 6 [(0, .ref a_o), (1, .int p1)] → W p l e rmX11_findAll s m args below meth c H locs 0 0 Q (F0 m 101 ls []) := by
        intro x101_o_foundMany x101_f_length x101_f_found H locs ls h hP hD hS hl
        rw [hk101] at h
        refine lv_iload_n hx hb dX11_findAll_101 rfl (lv_at hl 1 rfl) ?_
        obtain ⟨j111, hj111, h⟩ := jn_e h
        have Jj111 : ∀ (x111_o_foundMany : Int32) (x111_f_length : (Nat → Int32)) (x111_f_found : (Nat → Int32)) (H : Heap) (locs : List Loc) (ls : Array Slot), j111 x111_o_foundMany x111_f_length x111_f_found = some z → va_P D vwCl [(a_o, .inr (10, [.long o_trace, w_o_text, .int o_typed, .int o_choices, .int o_worlds, .ref a_values, .int o_at, .int o_start, .int o_sort, .int o_value, .int o_fault, w_o_draft, w_o_sayings, w_o_leaves, w_o_signs, .ref a_words, .ref a_word, w_o_isKept, w_o_some, w_o_every, .int o_deep, .int o_many, .ref a_length, .ref a_found, .int x111_o_foundMany])), (a_values, .inl (cI, 3, .inl f_values)), (a_words, .inl (cI, 3, .inl f_words)), (a_word, .inl (cI, 9, .inl f_word)), (a_length, .inl (cI, 512, .inl x111_f_length)), (a_found, .inl (cI, 512, .inl x111_f_found))] H → va_D A [(a_o, .inr (10, [.long o_trace, w_o_text, .int o_typed, .int o_choices, .int o_worlds, .ref a_values, .int o_at, .int o_start, .int o_sort, .int o_value, .int o_fault, w_o_draft, w_o_sayings, w_o_leaves, w_o_signs, .ref a_words, .ref a_word, w_o_isKept, w_o_some, w_o_every, .int o_deep, .int o_many, .ref a_length, .ref a_found, .int x111_o_foundMany])), (a_values, .inl (cI, 3, .inl f_values)), (a_words, .inl (cI, 3, .inl f_words)), (a_word, .inl (cI, 9, .inl f_word)), (a_length, .inl (cI, 512, .inl x111_f_length)), (a_found, .inl (cI, 512, .inl x111_f_found))] → va_S A s.heap H locs → lv_has ls 6 [(0, .ref a_o)] → W p l e rmX11_findAll s m args below meth c H locs 0 0 Q (F0 m 111 ls []) := by
          intro x111_o_foundMany x111_f_length x111_f_found H locs ls h hP hD hS hl
          rw [hj111] at h
          refine lv_iconst (v := 2) hx hb dX11_findAll_111 ic_2 ?_
          refine lv_istore_n (lv' := [(2, .int 2), (0, .ref a_o)]) hx hb dX11_findAll_112 rfl hl (by decide) rfl (fun ls hl => ?_)
          have L113 : ∀ (n : Nat), ∀ (x113_l2 : Int32) (x113_o_foundMany : Int32) (x113_f_length : (Nat → Int32)) (x113_f_found : (Nat → Int32)) (H : Heap) (locs : List Loc) (ls : Array Slot), P_X11_findAll_113  n x113_l2 x113_o_foundMany x113_f_length x113_f_found = some z → va_P D vwCl [(a_o, .inr (10, [.long o_trace, w_o_text, .int o_typed, .int o_choices, .int o_worlds, .ref a_values, .int o_at, .int o_start, .int o_sort, .int o_value, .int o_fault, w_o_draft, w_o_sayings, w_o_leaves, w_o_signs, .ref a_words, .ref a_word, w_o_isKept, w_o_some, w_o_every, .int o_deep, .int o_many, .ref a_length, .ref a_found, .int x113_o_foundMany])), (a_values, .inl (cI, 3, .inl f_values)), (a_words, .inl (cI, 3, .inl f_words)), (a_word, .inl (cI, 9, .inl f_word)), (a_length, .inl (cI, 512, .inl x113_f_length)), (a_found, .inl (cI, 512, .inl x113_f_found))] H → va_D A [(a_o, .inr (10, [.long o_trace, w_o_text, .int o_typed, .int o_choices, .int o_worlds, .ref a_values, .int o_at, .int o_start, .int o_sort, .int o_value, .int o_fault, w_o_draft, w_o_sayings, w_o_leaves, w_o_signs, .ref a_words, .ref a_word, w_o_isKept, w_o_some, w_o_every, .int o_deep, .int o_many, .ref a_length, .ref a_found, .int x113_o_foundMany])), (a_values, .inl (cI, 3, .inl f_values)), (a_words, .inl (cI, 3, .inl f_words)), (a_word, .inl (cI, 9, .inl f_word)), (a_length, .inl (cI, 512, .inl x113_f_length)), (a_found, .inl (cI, 512, .inl x113_f_found))] → va_S A s.heap H locs → lv_has ls 6 [(0, .ref a_o), (2, .int x113_l2)] → W p l e rmX11_findAll s m args below meth c H locs 0 0 Q (F0 m 113 ls []) := by
            intro n
            induction n with
            | zero =>
              intro x113_l2 x113_o_foundMany x113_f_length x113_f_found H locs ls h
              exact no_e h
            | succ n ih113 =>
              intro x113_l2 x113_o_foundMany x113_f_length x113_f_found H locs ls h hP hD hS hl
              rw [P_X11_findAll_113] at h
              refine lv_aload_n hx hb dX11_findAll_113 rfl (lv_at hl 0 rfl) ?_
              refine va_get (D := D) (ci := 10) (v := .int x113_o_foundMany) (C := RX11) (T := TX11) (N := 25) hx hb hts u_X11 hown hK hP 0 rfl rfl 24 (by decide) k_f0 (fun _ h9 => h9) rfl dX11_findAll_114 ?_
              refine lv_if_le (tgt := 253) hx hb dX11_findAll_117 (by decide) (fun c_117 => ?_) (fun c_117 => ?_)
              · replace h := it_e c_117 h
                have hz := Option.some.inj h
                subst hz
                exact hret H locs 253 ls hP hD hS dX11_findAll_253
              · replace h := if_e c_117 h
                refine lv_iload_n hx hb dX11_findAll_120 rfl (lv_at hl 1 rfl) ?_
                refine lv_iconst (v := 2) hx hb dX11_findAll_121 ic_2 ?_
                refine lv_aload_n hx hb dX11_findAll_122 rfl (lv_at hl 0 rfl) ?_
                refine va_get (D := D) (ci := 10) (v := .ref a_length) (C := RX11) (T := TX11) (N := 25) hx hb hts u_X11 hown hK hP 0 rfl rfl 22 (by decide) k_f1 (fun _ h9 => h9) rfl dX11_findAll_123 ?_
                refine lv_aload_n hx hb dX11_findAll_126 rfl (lv_at hl 0 rfl) ?_
                refine va_get (D := D) (ci := 10) (v := .ref a_found) (C := RX11) (T := TX11) (N := 25) hx hb hts u_X11 hown hK hP 0 rfl rfl 23 (by decide) k_f2 (fun _ h9 => h9) rfl dX11_findAll_127 ?_
                refine lv_aload_n hx hb dX11_findAll_130 rfl (lv_at hl 0 rfl) ?_
                refine va_get (D := D) (ci := 10) (v := .int x113_o_foundMany) (C := RX11) (T := TX11) (N := 25) hx hb hts u_X11 hown hK hP 0 rfl rfl 24 (by decide) k_f0 (fun _ h9 => h9) rfl dX11_findAll_131 ?_
                refine lv_iconst (v := 1) hx hb dX11_findAll_134 ic_1 ?_
                refine lv_isub hx hb dX11_findAll_135 ?_
                obtain ⟨hi_136, h⟩ := ck_e h
                refine va_iald hx hb hK hP 5 0 rfl rfl hi_136 dX11_findAll_136 ?_
                obtain ⟨hi_137, h⟩ := ck_e h
                refine va_iald hx hb hK hP 4 0 rfl rfl hi_137 dX11_findAll_137 ?_
                refine lv_imul hx hb dX11_findAll_138 ?_
                refine lv_icmp_gt (tgt := 253) hx hb dX11_findAll_139 (by decide) (fun c_139 => ?_) (fun c_139 => ?_)
                · replace h := it_e c_139 h
                  have hz := Option.some.inj h
                  subst hz
                  exact hret H locs 253 ls hP hD hS dX11_findAll_253
                · replace h := if_e c_139 h
                  refine lv_aload_n hx hb dX11_findAll_142 rfl (lv_at hl 0 rfl) ?_
                  refine va_get (D := D) (ci := 10) (v := .int x113_o_foundMany) (C := RX11) (T := TX11) (N := 25) hx hb hts u_X11 hown hK hP 0 rfl rfl 24 (by decide) k_f0 (fun _ h9 => h9) rfl dX11_findAll_143 ?_
                  refine lv_istore_n (lv' := [(3, .int x113_o_foundMany), (0, .ref a_o), (2, .int x113_l2)]) hx hb dX11_findAll_146 rfl hl (by decide) rfl (fun ls hl => ?_)
                  refine lv_iconst (v := 0) hx hb dX11_findAll_147 ic_0 ?_
                  refine lv_istore (lv' := [(4, .int 0), (3, .int x113_o_foundMany), (0, .ref a_o), (2, .int x113_l2)]) hx hb dX11_findAll_148 hl (by decide) rfl (fun ls hl => ?_)
                  obtain ⟨k247, hk247, h⟩ := jn_e h
                  have Jk247 : ∀ (x247_o_foundMany : Int32) (x247_f_length : (Nat → Int32)) (x247_f_found : (Nat → Int32)) (H : Heap) (locs : List Loc) (ls : Array Slot), k247 x247_o_foundMany x247_f_length x247_f_found = some z → va_P D vwCl [(a_o, .inr (10, [.long o_trace, w_o_text, .int o_typed, .int o_choices, .int o_worlds, .ref a_values, .int o_at, .int o_start, .int o_sort, .int o_value, .int o_fault, w_o_draft, w_o_sayings, w_o_leaves, w_o_signs, .ref a_words, .ref a_word, w_o_isKept, w_o_some, w_o_every, .int o_deep, .int o_many, .ref a_length, .ref a_found, .int x247_o_foundMany])), (a_values, .inl (cI, 3, .inl f_values)), (a_words, .inl (cI, 3, .inl f_words)), (a_word, .inl (cI, 9, .inl f_word)), (a_length, .inl (cI, 512, .inl x247_f_length)), (a_found, .inl (cI, 512, .inl x247_f_found))] H → va_D A [(a_o, .inr (10, [.long o_trace, w_o_text, .int o_typed, .int o_choices, .int o_worlds, .ref a_values, .int o_at, .int o_start, .int o_sort, .int o_value, .int o_fault, w_o_draft, w_o_sayings, w_o_leaves, w_o_signs, .ref a_words, .ref a_word, w_o_isKept, w_o_some, w_o_every, .int o_deep, .int o_many, .ref a_length, .ref a_found, .int x247_o_foundMany])), (a_values, .inl (cI, 3, .inl f_values)), (a_words, .inl (cI, 3, .inl f_words)), (a_word, .inl (cI, 9, .inl f_word)), (a_length, .inl (cI, 512, .inl x247_f_length)), (a_found, .inl (cI, 512, .inl x247_f_found))] → va_S A s.heap H locs → lv_has ls 6 [(0, .ref a_o), (2, .int x113_l2)] → W p l e rmX11_findAll s m args below meth c H locs 0 0 Q (F0 m 247 ls []) := by
                    intro x247_o_foundMany x247_f_length x247_f_found H locs ls h hP hD hS hl
                    rw [hk247] at h
                    refine lv_iinc (v := x113_l2 + 1) (lv' := [(2, .int (x113_l2 + 1)), (0, .ref a_o)]) hx hb dX11_findAll_247 hl (k := 1) rfl (congrArg (x113_l2 + ·) ic_1) (by decide) rfl (fun ls hl => ?_)
                    refine lv_goto (tgt := 113) hx hb dX11_findAll_250 (by decide) ?_
                    exact ih113 (x113_l2 + 1) x247_o_foundMany x247_f_length x247_f_found H locs ls h hP hD hS (lv_sub hl [1, 0] rfl)
                  have L150 : ∀ (n : Nat), ∀ (x150_l4 : Int32) (x150_o_foundMany : Int32) (x150_f_length : (Nat → Int32)) (x150_f_found : (Nat → Int32)) (H : Heap) (locs : List Loc) (ls : Array Slot), P_X11_findAll_150 x113_l2 x113_o_foundMany k247 n x150_l4 x150_o_foundMany x150_f_length x150_f_found = some z → va_P D vwCl [(a_o, .inr (10, [.long o_trace, w_o_text, .int o_typed, .int o_choices, .int o_worlds, .ref a_values, .int o_at, .int o_start, .int o_sort, .int o_value, .int o_fault, w_o_draft, w_o_sayings, w_o_leaves, w_o_signs, .ref a_words, .ref a_word, w_o_isKept, w_o_some, w_o_every, .int o_deep, .int o_many, .ref a_length, .ref a_found, .int x150_o_foundMany])), (a_values, .inl (cI, 3, .inl f_values)), (a_words, .inl (cI, 3, .inl f_words)), (a_word, .inl (cI, 9, .inl f_word)), (a_length, .inl (cI, 512, .inl x150_f_length)), (a_found, .inl (cI, 512, .inl x150_f_found))] H → va_D A [(a_o, .inr (10, [.long o_trace, w_o_text, .int o_typed, .int o_choices, .int o_worlds, .ref a_values, .int o_at, .int o_start, .int o_sort, .int o_value, .int o_fault, w_o_draft, w_o_sayings, w_o_leaves, w_o_signs, .ref a_words, .ref a_word, w_o_isKept, w_o_some, w_o_every, .int o_deep, .int o_many, .ref a_length, .ref a_found, .int x150_o_foundMany])), (a_values, .inl (cI, 3, .inl f_values)), (a_words, .inl (cI, 3, .inl f_words)), (a_word, .inl (cI, 9, .inl f_word)), (a_length, .inl (cI, 512, .inl x150_f_length)), (a_found, .inl (cI, 512, .inl x150_f_found))] → va_S A s.heap H locs → lv_has ls 6 [(0, .ref a_o), (2, .int x113_l2), (3, .int x113_o_foundMany), (4, .int x150_l4)] → W p l e rmX11_findAll s m args below meth c H locs 0 0 Q (F0 m 150 ls []) := by
                    intro n
                    induction n with
                    | zero =>
                      intro x150_l4 x150_o_foundMany x150_f_length x150_f_found H locs ls h
                      exact no_e h
                    | succ n ih150 =>
                      intro x150_l4 x150_o_foundMany x150_f_length x150_f_found H locs ls h hP hD hS hl
                      rw [P_X11_findAll_150] at h
                      refine lv_iload hx hb dX11_findAll_150 (lv_at hl 3 rfl) ?_
                      refine lv_iload_n hx hb dX11_findAll_152 rfl (lv_at hl 2 rfl) ?_
                      refine lv_icmp_ge (tgt := 247) hx hb dX11_findAll_153 (by decide) (fun c_153 => ?_) (fun c_153 => ?_)
                      · replace h := it_e c_153 h
                        exact Jk247 x150_o_foundMany x150_f_length x150_f_found H locs ls h hP hD hS (lv_sub hl [0, 1] rfl)
                      · replace h := if_e c_153 h
                        refine lv_iconst (v := 0) hx hb dX11_findAll_156 ic_0 ?_
                        refine lv_istore (lv' := [(5, .int 0), (0, .ref a_o), (2, .int x113_l2), (3, .int x113_o_foundMany), (4, .int x150_l4)]) hx hb dX11_findAll_157 hl (by decide) rfl (fun ls hl => ?_)
                        obtain ⟨k241, hk241, h⟩ := jn_e h
                        have Jk241 : ∀ (x241_o_foundMany : Int32) (x241_f_length : (Nat → Int32)) (x241_f_found : (Nat → Int32)) (H : Heap) (locs : List Loc) (ls : Array Slot), k241 x241_o_foundMany x241_f_length x241_f_found = some z → va_P D vwCl [(a_o, .inr (10, [.long o_trace, w_o_text, .int o_typed, .int o_choices, .int o_worlds, .ref a_values, .int o_at, .int o_start, .int o_sort, .int o_value, .int o_fault, w_o_draft, w_o_sayings, w_o_leaves, w_o_signs, .ref a_words, .ref a_word, w_o_isKept, w_o_some, w_o_every, .int o_deep, .int o_many, .ref a_length, .ref a_found, .int x241_o_foundMany])), (a_values, .inl (cI, 3, .inl f_values)), (a_words, .inl (cI, 3, .inl f_words)), (a_word, .inl (cI, 9, .inl f_word)), (a_length, .inl (cI, 512, .inl x241_f_length)), (a_found, .inl (cI, 512, .inl x241_f_found))] H → va_D A [(a_o, .inr (10, [.long o_trace, w_o_text, .int o_typed, .int o_choices, .int o_worlds, .ref a_values, .int o_at, .int o_start, .int o_sort, .int o_value, .int o_fault, w_o_draft, w_o_sayings, w_o_leaves, w_o_signs, .ref a_words, .ref a_word, w_o_isKept, w_o_some, w_o_every, .int o_deep, .int o_many, .ref a_length, .ref a_found, .int x241_o_foundMany])), (a_values, .inl (cI, 3, .inl f_values)), (a_words, .inl (cI, 3, .inl f_words)), (a_word, .inl (cI, 9, .inl f_word)), (a_length, .inl (cI, 512, .inl x241_f_length)), (a_found, .inl (cI, 512, .inl x241_f_found))] → va_S A s.heap H locs → lv_has ls 6 [(0, .ref a_o), (2, .int x113_l2), (3, .int x113_o_foundMany), (4, .int x150_l4)] → W p l e rmX11_findAll s m args below meth c H locs 0 0 Q (F0 m 241 ls []) := by
                          intro x241_o_foundMany x241_f_length x241_f_found H locs ls h hP hD hS hl
                          rw [hk241] at h
                          refine lv_iinc (v := x150_l4 + 1) (lv' := [(4, .int (x150_l4 + 1)), (0, .ref a_o), (2, .int x113_l2), (3, .int x113_o_foundMany)]) hx hb dX11_findAll_241 hl (k := 3) rfl (congrArg (x150_l4 + ·) ic_1) (by decide) rfl (fun ls hl => ?_)
                          refine lv_goto (tgt := 150) hx hb dX11_findAll_244 (by decide) ?_
                          exact ih150 (x150_l4 + 1) x241_o_foundMany x241_f_length x241_f_found H locs ls h hP hD hS (lv_sub hl [1, 2, 3, 0] rfl)
                        have L159 : ∀ (n : Nat), ∀ (x159_l5 : Int32) (x159_o_foundMany : Int32) (x159_f_length : (Nat → Int32)) (x159_f_found : (Nat → Int32)) (H : Heap) (locs : List Loc) (ls : Array Slot), P_X11_findAll_159 x113_l2 x150_l4 k241 n x159_l5 x159_o_foundMany x159_f_length x159_f_found = some z → va_P D vwCl [(a_o, .inr (10, [.long o_trace, w_o_text, .int o_typed, .int o_choices, .int o_worlds, .ref a_values, .int o_at, .int o_start, .int o_sort, .int o_value, .int o_fault, w_o_draft, w_o_sayings, w_o_leaves, w_o_signs, .ref a_words, .ref a_word, w_o_isKept, w_o_some, w_o_every, .int o_deep, .int o_many, .ref a_length, .ref a_found, .int x159_o_foundMany])), (a_values, .inl (cI, 3, .inl f_values)), (a_words, .inl (cI, 3, .inl f_words)), (a_word, .inl (cI, 9, .inl f_word)), (a_length, .inl (cI, 512, .inl x159_f_length)), (a_found, .inl (cI, 512, .inl x159_f_found))] H → va_D A [(a_o, .inr (10, [.long o_trace, w_o_text, .int o_typed, .int o_choices, .int o_worlds, .ref a_values, .int o_at, .int o_start, .int o_sort, .int o_value, .int o_fault, w_o_draft, w_o_sayings, w_o_leaves, w_o_signs, .ref a_words, .ref a_word, w_o_isKept, w_o_some, w_o_every, .int o_deep, .int o_many, .ref a_length, .ref a_found, .int x159_o_foundMany])), (a_values, .inl (cI, 3, .inl f_values)), (a_words, .inl (cI, 3, .inl f_words)), (a_word, .inl (cI, 9, .inl f_word)), (a_length, .inl (cI, 512, .inl x159_f_length)), (a_found, .inl (cI, 512, .inl x159_f_found))] → va_S A s.heap H locs → lv_has ls 6 [(0, .ref a_o), (2, .int x113_l2), (3, .int x113_o_foundMany), (4, .int x150_l4), (5, .int x159_l5)] → W p l e rmX11_findAll s m args below meth c H locs 0 0 Q (F0 m 159 ls []) := by
                          intro n
                          induction n with
                          | zero =>
                            intro x159_l5 x159_o_foundMany x159_f_length x159_f_found H locs ls h
                            exact no_e h
                          | succ n ih159 =>
                            intro x159_l5 x159_o_foundMany x159_f_length x159_f_found H locs ls h hP hD hS hl
                            rw [P_X11_findAll_159] at h
                            refine lv_iload hx hb dX11_findAll_159 (lv_at hl 4 rfl) ?_
                            refine lv_iload hx hb dX11_findAll_161 (lv_at hl 3 rfl) ?_
                            refine lv_icmp_gt (tgt := 241) hx hb dX11_findAll_163 (by decide) (fun c_163 => ?_) (fun c_163 => ?_)
                            · replace h := it_e c_163 h
                              exact Jk241 x159_o_foundMany x159_f_length x159_f_found H locs ls h hP hD hS (lv_sub hl [0, 1, 2, 3] rfl)
                            · replace h := if_e c_163 h
                              refine lv_aload_n hx hb dX11_findAll_166 rfl (lv_at hl 0 rfl) ?_
                              refine va_get (D := D) (ci := 10) (v := .ref a_length) (C := RX11) (T := TX11) (N := 25) hx hb hts u_X11 hown hK hP 0 rfl rfl 22 (by decide) k_f1 (fun _ h9 => h9) rfl dX11_findAll_167 ?_
                              refine lv_aload_n hx hb dX11_findAll_170 rfl (lv_at hl 0 rfl) ?_
                              refine va_get (D := D) (ci := 10) (v := .ref a_found) (C := RX11) (T := TX11) (N := 25) hx hb hts u_X11 hown hK hP 0 rfl rfl 23 (by decide) k_f2 (fun _ h9 => h9) rfl dX11_findAll_171 ?_
                              refine lv_iload hx hb dX11_findAll_174 (lv_at hl 3 rfl) ?_
                              obtain ⟨hi_176, h⟩ := ck_e h
                              refine va_iald hx hb hK hP 5 0 rfl rfl hi_176 dX11_findAll_176 ?_
                              obtain ⟨hi_177, h⟩ := ck_e h
                              refine va_iald hx hb hK hP 4 0 rfl rfl hi_177 dX11_findAll_177 ?_
                              refine lv_aload_n hx hb dX11_findAll_178 rfl (lv_at hl 0 rfl) ?_
                              refine va_get (D := D) (ci := 10) (v := .ref a_length) (C := RX11) (T := TX11) (N := 25) hx hb hts u_X11 hown hK hP 0 rfl rfl 22 (by decide) k_f1 (fun _ h9 => h9) rfl dX11_findAll_179 ?_
                              refine lv_aload_n hx hb dX11_findAll_182 rfl (lv_at hl 0 rfl) ?_
                              refine va_get (D := D) (ci := 10) (v := .ref a_found) (C := RX11) (T := TX11) (N := 25) hx hb hts u_X11 hown hK hP 0 rfl rfl 23 (by decide) k_f2 (fun _ h9 => h9) rfl dX11_findAll_183 ?_
                              refine lv_iload hx hb dX11_findAll_186 (lv_at hl 4 rfl) ?_
                              obtain ⟨hi_188, h⟩ := ck_e h
                              refine va_iald hx hb hK hP 5 0 rfl rfl hi_188 dX11_findAll_188 ?_
                              obtain ⟨hi_189, h⟩ := ck_e h
                              refine va_iald hx hb hK hP 4 0 rfl rfl hi_189 dX11_findAll_189 ?_
                              refine lv_iadd hx hb dX11_findAll_190 ?_
                              refine lv_iload_n hx hb dX11_findAll_191 rfl (lv_at hl 1 rfl) ?_
                              obtain ⟨j235, hj235, h⟩ := jn_e h
                              have Jj235 : ∀ (x235_o_foundMany : Int32) (x235_f_length : (Nat → Int32)) (x235_f_found : (Nat → Int32)) (H : Heap) (locs : List Loc) (ls : Array Slot), j235 x235_o_foundMany x235_f_length x235_f_found = some z → va_P D vwCl [(a_o, .inr (10, [.long o_trace, w_o_text, .int o_typed, .int o_choices, .int o_worlds, .ref a_values, .int o_at, .int o_start, .int o_sort, .int o_value, .int o_fault, w_o_draft, w_o_sayings, w_o_leaves, w_o_signs, .ref a_words, .ref a_word, w_o_isKept, w_o_some, w_o_every, .int o_deep, .int o_many, .ref a_length, .ref a_found, .int x235_o_foundMany])), (a_values, .inl (cI, 3, .inl f_values)), (a_words, .inl (cI, 3, .inl f_words)), (a_word, .inl (cI, 9, .inl f_word)), (a_length, .inl (cI, 512, .inl x235_f_length)), (a_found, .inl (cI, 512, .inl x235_f_found))] H → va_D A [(a_o, .inr (10, [.long o_trace, w_o_text, .int o_typed, .int o_choices, .int o_worlds, .ref a_values, .int o_at, .int o_start, .int o_sort, .int o_value, .int o_fault, w_o_draft, w_o_sayings, w_o_leaves, w_o_signs, .ref a_words, .ref a_word, w_o_isKept, w_o_some, w_o_every, .int o_deep, .int o_many, .ref a_length, .ref a_found, .int x235_o_foundMany])), (a_values, .inl (cI, 3, .inl f_values)), (a_words, .inl (cI, 3, .inl f_words)), (a_word, .inl (cI, 9, .inl f_word)), (a_length, .inl (cI, 512, .inl x235_f_length)), (a_found, .inl (cI, 512, .inl x235_f_found))] → va_S A s.heap H locs → lv_has ls 6 [(0, .ref a_o), (2, .int x113_l2), (3, .int x113_o_foundMany), (4, .int x150_l4), (5, .int x159_l5)] → W p l e rmX11_findAll s m args below meth c H locs 0 0 Q (F0 m 235 ls []) := by
                                intro x235_o_foundMany x235_f_length x235_f_found H locs ls h hP hD hS hl
                                rw [hj235] at h
                                refine lv_iinc (v := x159_l5 + 1) (lv' := [(5, .int (x159_l5 + 1)), (0, .ref a_o), (2, .int x113_l2), (3, .int x113_o_foundMany), (4, .int x150_l4)]) hx hb dX11_findAll_235 hl (k := 4) rfl (congrArg (x159_l5 + ·) ic_1) (by decide) rfl (fun ls hl => ?_)
                                refine lv_goto (tgt := 159) hx hb dX11_findAll_238 (by decide) ?_
                                exact ih159 (x159_l5 + 1) x235_o_foundMany x235_f_length x235_f_found H locs ls h hP hD hS (lv_sub hl [1, 2, 3, 4, 0] rfl)
                              refine lv_icmp_ne (tgt := 235) hx hb dX11_findAll_192 (by decide) (fun c_192 => ?_) (fun c_192 => ?_)
                              · replace h := if_e c_192 h
                                exact Jj235 x159_o_foundMany x159_f_length x159_f_found H locs ls h hP hD hS hl
                              · replace h := it_e c_192 h
                                refine lv_aload_n hx hb dX11_findAll_195 rfl (lv_at hl 0 rfl) ?_
                                refine lv_aload_n hx hb dX11_findAll_196 rfl (lv_at hl 0 rfl) ?_
                                refine va_get (D := D) (ci := 10) (v := .ref a_found) (C := RX11) (T := TX11) (N := 25) hx hb hts u_X11 hown hK hP 0 rfl rfl 23 (by decide) k_f2 (fun _ h9 => h9) rfl dX11_findAll_197 ?_
                                refine lv_iload hx hb dX11_findAll_200 (lv_at hl 3 rfl) ?_
                                obtain ⟨hi_202, h⟩ := ck_e h
                                refine va_iald hx hb hK hP 5 0 rfl rfl hi_202 dX11_findAll_202 ?_
                                refine lv_aload_n hx hb dX11_findAll_203 rfl (lv_at hl 0 rfl) ?_
                                refine va_get (D := D) (ci := 10) (v := .ref a_found) (C := RX11) (T := TX11) (N := 25) hx hb hts u_X11 hown hK hP 0 rfl rfl 23 (by decide) k_f2 (fun _ h9 => h9) rfl dX11_findAll_204 ?_
                                refine lv_iload hx hb dX11_findAll_207 (lv_at hl 4 rfl) ?_
                                obtain ⟨hi_209, h⟩ := ck_e h
                                refine va_iald hx hb hK hP 5 0 rfl rfl hi_209 dX11_findAll_209 ?_
                                refine lv_iand hx hb dX11_findAll_210 ?_
                                refine lv_iload_n hx hb dX11_findAll_211 rfl (lv_at hl 1 rfl) ?_
                                obtain ⟨z_212, hc_212, h⟩ := bd_e h
                                refine q_vV (As := [.int ((x159_f_found x150_l4.toNatClampNeg) &&& (x159_f_found x159_l5.toNatClampNeg)), .int x113_l2]) (rest := []) (wF := [(a_values, .inl (cI, 3, .inl f_values)), (a_words, .inl (cI, 3, .inl f_words)), (a_word, .inl (cI, 9, .inl f_word)), (a_o, .inr (10, [.long o_trace, w_o_text, .int o_typed, .int o_choices, .int o_worlds, .ref a_values, .int o_at, .int o_start, .int o_sort, .int o_value, .int o_fault, w_o_draft, w_o_sayings, w_o_leaves, w_o_signs, .ref a_words, .ref a_word, w_o_isKept, w_o_some, w_o_every, .int o_deep, .int o_many, .ref a_length, .ref a_found, .int z_212.1])), (a_length, .inl (cI, 512, .inl z_212.2.1)), (a_found, .inl (cI, 512, .inl z_212.2.2))]) hF hA hZ hK hP hD hS (c_X11_find l D cI cB cZ a_o o_trace w_o_text o_typed o_choices o_worlds (.ref a_values) o_at o_start o_sort o_value o_fault w_o_draft w_o_sayings w_o_leaves w_o_signs (.ref a_words) (.ref a_word) w_o_isKept w_o_some w_o_every o_deep o_many x159_o_foundMany a_length x159_f_length a_found x159_f_found ((x159_f_found x150_l4.toNatClampNeg) &&& (x159_f_found x159_l5.toNatClampNeg)) x113_l2 z_212 hc_212) rfl gX11_findAll_X11_find hdX11_find ⟨rfl, rfl⟩ (Nat.le_of_ble_eq_true rfl) (Nat.le_of_ble_eq_true rfl) 10 0 rfl rfl [0, 4, 5] [1, 2, 3] rfl rfl rfl rfl (by decide) rfl hl.1 rfl (Nat.le_of_ble_eq_true rfl) (Nat.zero_le _) (Nat.zero_le _) dX11_findAll_212 (fun H locs hP hD hS => ?_)
                                refine lv_aload_n hx hb dX11_findAll_215 rfl (lv_at hl 0 rfl) ?_
                                refine lv_aload_n hx hb dX11_findAll_216 rfl (lv_at hl 0 rfl) ?_
                                refine va_get (D := D) (ci := 10) (v := .ref a_found) (C := RX11) (T := TX11) (N := 25) hx hb hts u_X11 hown hK hP 3 rfl rfl 23 (by decide) k_f2 (fun _ h9 => h9) rfl dX11_findAll_217 ?_
                                refine lv_iload hx hb dX11_findAll_220 (lv_at hl 3 rfl) ?_
                                obtain ⟨hi_222, h⟩ := ck_e h
                                refine va_iald hx hb hK hP 5 0 rfl rfl hi_222 dX11_findAll_222 ?_
                                refine lv_aload_n hx hb dX11_findAll_223 rfl (lv_at hl 0 rfl) ?_
                                refine va_get (D := D) (ci := 10) (v := .ref a_found) (C := RX11) (T := TX11) (N := 25) hx hb hts u_X11 hown hK hP 3 rfl rfl 23 (by decide) k_f2 (fun _ h9 => h9) rfl dX11_findAll_224 ?_
                                refine lv_iload hx hb dX11_findAll_227 (lv_at hl 4 rfl) ?_
                                obtain ⟨hi_229, h⟩ := ck_e h
                                refine va_iald hx hb hK hP 5 0 rfl rfl hi_229 dX11_findAll_229 ?_
                                refine lv_ior hx hb dX11_findAll_230 ?_
                                refine lv_iload_n hx hb dX11_findAll_231 rfl (lv_at hl 1 rfl) ?_
                                obtain ⟨z_232, hc_232, h⟩ := bd_e h
                                refine q_vV (As := [.int ((z_212.2.2 x150_l4.toNatClampNeg) ||| (z_212.2.2 x159_l5.toNatClampNeg)), .int x113_l2]) (rest := []) (wF := [(a_values, .inl (cI, 3, .inl f_values)), (a_words, .inl (cI, 3, .inl f_words)), (a_word, .inl (cI, 9, .inl f_word)), (a_o, .inr (10, [.long o_trace, w_o_text, .int o_typed, .int o_choices, .int o_worlds, .ref a_values, .int o_at, .int o_start, .int o_sort, .int o_value, .int o_fault, w_o_draft, w_o_sayings, w_o_leaves, w_o_signs, .ref a_words, .ref a_word, w_o_isKept, w_o_some, w_o_every, .int o_deep, .int o_many, .ref a_length, .ref a_found, .int z_232.1])), (a_length, .inl (cI, 512, .inl z_232.2.1)), (a_found, .inl (cI, 512, .inl z_232.2.2))]) hF hA hZ hK hP hD hS (c_X11_find l D cI cB cZ a_o o_trace w_o_text o_typed o_choices o_worlds (.ref a_values) o_at o_start o_sort o_value o_fault w_o_draft w_o_sayings w_o_leaves w_o_signs (.ref a_words) (.ref a_word) w_o_isKept w_o_some w_o_every o_deep o_many z_212.1 a_length z_212.2.1 a_found z_212.2.2 ((z_212.2.2 x150_l4.toNatClampNeg) ||| (z_212.2.2 x159_l5.toNatClampNeg)) x113_l2 z_232 hc_232) rfl gX11_findAll_X11_find hdX11_find ⟨rfl, rfl⟩ (Nat.le_of_ble_eq_true rfl) (Nat.le_of_ble_eq_true rfl) 10 0 rfl rfl [3, 4, 5] [0, 1, 2] rfl rfl rfl rfl (by decide) rfl hl.1 rfl (Nat.le_of_ble_eq_true rfl) (Nat.zero_le _) (Nat.zero_le _) dX11_findAll_232 (fun H locs hP hD hS => ?_)
                                exact Jj235 z_232.1 z_232.2.1 z_232.2.2 H locs ls h (hP.sub [3, 0, 1, 2, 4, 5] rfl) (hD.sub [3, 0, 1, 2, 4, 5] (by decide) rfl) hS hl
                        exact L159 QF 0 x150_o_foundMany x150_f_length x150_f_found H locs ls h hP hD hS (lv_sub hl [1, 2, 3, 4, 0] rfl)
                  exact L150 QF 0 x113_o_foundMany x113_f_length x113_f_found H locs ls h hP hD hS (lv_sub hl [2, 3, 1, 0] rfl)
          exact L113 QF 2 x111_o_foundMany x111_f_length x111_f_found H locs ls h hP hD hS (lv_sub hl [1, 0] rfl)
        refine lv_if_lt (tgt := 111) hx hb dX11_findAll_102 (by decide) (fun c_102 => ?_) (fun c_102 => ?_)
        · replace h := it_e c_102 h
          exact Jj111 x101_o_foundMany x101_f_length x101_f_found H locs ls h hP hD hS (lv_sub hl [0] rfl)
        · replace h := if_e c_102 h
          refine lv_aload_n hx hb dX11_findAll_105 rfl (lv_at hl 0 rfl) ?_
          refine lv_iload_n hx hb dX11_findAll_106 rfl (lv_at hl 1 rfl) ?_
          refine lv_iconst (v := 1) hx hb dX11_findAll_107 ic_1 ?_
          obtain ⟨z_108, hc_108, h⟩ := bd_e h
          refine q_vV (As := [.int p1, .int 1]) (rest := []) (wF := [(a_values, .inl (cI, 3, .inl f_values)), (a_words, .inl (cI, 3, .inl f_words)), (a_word, .inl (cI, 9, .inl f_word)), (a_o, .inr (10, [.long o_trace, w_o_text, .int o_typed, .int o_choices, .int o_worlds, .ref a_values, .int o_at, .int o_start, .int o_sort, .int o_value, .int o_fault, w_o_draft, w_o_sayings, w_o_leaves, w_o_signs, .ref a_words, .ref a_word, w_o_isKept, w_o_some, w_o_every, .int o_deep, .int o_many, .ref a_length, .ref a_found, .int z_108.1])), (a_length, .inl (cI, 512, .inl z_108.2.1)), (a_found, .inl (cI, 512, .inl z_108.2.2))]) hF hA hZ hK hP hD hS (c_X11_find l D cI cB cZ a_o o_trace w_o_text o_typed o_choices o_worlds (.ref a_values) o_at o_start o_sort o_value o_fault w_o_draft w_o_sayings w_o_leaves w_o_signs (.ref a_words) (.ref a_word) w_o_isKept w_o_some w_o_every o_deep o_many x101_o_foundMany a_length x101_f_length a_found x101_f_found p1 1 z_108 hc_108) rfl gX11_findAll_X11_find hdX11_find ⟨rfl, rfl⟩ (Nat.le_of_ble_eq_true rfl) (Nat.le_of_ble_eq_true rfl) 10 0 rfl rfl [0, 4, 5] [1, 2, 3] rfl rfl rfl rfl (by decide) rfl hl.1 rfl (Nat.le_of_ble_eq_true rfl) (Nat.zero_le _) (Nat.zero_le _) dX11_findAll_108 (fun H locs hP hD hS => ?_)
          exact Jj111 z_108.1 z_108.2.1 z_108.2.2 H locs ls h (hP.sub [3, 0, 1, 2, 4, 5] rfl) (hD.sub [3, 0, 1, 2, 4, 5] (by decide) rfl) hS (lv_sub hl [0] rfl)
      have L74 : ∀ (n : Nat), ∀ (x74_l2 : Int32) (x74_o_foundMany : Int32) (x74_f_length : (Nat → Int32)) (x74_f_found : (Nat → Int32)) (H : Heap) (locs : List Loc) (ls : Array Slot), P_X11_findAll_74 f_words f_word k101 n x74_l2 x74_o_foundMany x74_f_length x74_f_found = some z → va_P D vwCl [(a_o, .inr (10, [.long o_trace, w_o_text, .int o_typed, .int o_choices, .int o_worlds, .ref a_values, .int o_at, .int o_start, .int o_sort, .int o_value, .int o_fault, w_o_draft, w_o_sayings, w_o_leaves, w_o_signs, .ref a_words, .ref a_word, w_o_isKept, w_o_some, w_o_every, .int o_deep, .int o_many, .ref a_length, .ref a_found, .int x74_o_foundMany])), (a_values, .inl (cI, 3, .inl f_values)), (a_words, .inl (cI, 3, .inl f_words)), (a_word, .inl (cI, 9, .inl f_word)), (a_length, .inl (cI, 512, .inl x74_f_length)), (a_found, .inl (cI, 512, .inl x74_f_found))] H → va_D A [(a_o, .inr (10, [.long o_trace, w_o_text, .int o_typed, .int o_choices, .int o_worlds, .ref a_values, .int o_at, .int o_start, .int o_sort, .int o_value, .int o_fault, w_o_draft, w_o_sayings, w_o_leaves, w_o_signs, .ref a_words, .ref a_word, w_o_isKept, w_o_some, w_o_every, .int o_deep, .int o_many, .ref a_length, .ref a_found, .int x74_o_foundMany])), (a_values, .inl (cI, 3, .inl f_values)), (a_words, .inl (cI, 3, .inl f_words)), (a_word, .inl (cI, 9, .inl f_word)), (a_length, .inl (cI, 512, .inl x74_f_length)), (a_found, .inl (cI, 512, .inl x74_f_found))] → va_S A s.heap H locs → lv_has ls 6 [(0, .ref a_o), (1, .int p1), (2, .int x74_l2)] → W p l e rmX11_findAll s m args below meth c H locs 0 0 Q (F0 m 74 ls []) := by
        intro n
        induction n with
        | zero =>
          intro x74_l2 x74_o_foundMany x74_f_length x74_f_found H locs ls h
          exact no_e h
        | succ n ih74 =>
          intro x74_l2 x74_o_foundMany x74_f_length x74_f_found H locs ls h hP hD hS hl
          rw [P_X11_findAll_74] at h
          refine lv_iload_n hx hb dX11_findAll_74 rfl (lv_at hl 2 rfl) ?_
          refine lv_aload_n hx hb dX11_findAll_75 rfl (lv_at hl 0 rfl) ?_
          refine va_get (D := D) (ci := 10) (v := .ref a_words) (C := RX11) (T := TX11) (N := 25) hx hb hts u_X11 hown hK hP 0 rfl rfl 15 (by decide) k_f3 (fun _ h9 => h9) rfl dX11_findAll_76 ?_
          refine lv_iconst (v := 0) hx hb dX11_findAll_79 ic_0 ?_
          obtain ⟨hi_80, h⟩ := ck_e h
          refine va_iald hx hb hK hP 2 0 rfl rfl hi_80 dX11_findAll_80 ?_
          refine lv_icmp_ge (tgt := 101) hx hb dX11_findAll_81 (by decide) (fun c_81 => ?_) (fun c_81 => ?_)
          · replace h := it_e c_81 h
            exact Jk101 x74_o_foundMany x74_f_length x74_f_found H locs ls h hP hD hS (lv_sub hl [0, 1] rfl)
          · replace h := if_e c_81 h
            refine lv_aload_n hx hb dX11_findAll_84 rfl (lv_at hl 0 rfl) ?_
            refine lv_aload_n hx hb dX11_findAll_85 rfl (lv_at hl 0 rfl) ?_
            refine va_get (D := D) (ci := 10) (v := .ref a_word) (C := RX11) (T := TX11) (N := 25) hx hb hts u_X11 hown hK hP 0 rfl rfl 16 (by decide) k_f4 (fun _ h9 => h9) rfl dX11_findAll_86 ?_
            refine lv_iload_n hx hb dX11_findAll_89 rfl (lv_at hl 2 rfl) ?_
            obtain ⟨hi_90, h⟩ := ck_e h
            refine va_iald hx hb hK hP 3 0 rfl rfl hi_90 dX11_findAll_90 ?_
            refine lv_iconst (v := 1) hx hb dX11_findAll_91 ic_1 ?_
            obtain ⟨z_92, hc_92, h⟩ := bd_e h
            refine q_vV (As := [.int (f_word x74_l2.toNatClampNeg), .int 1]) (rest := []) (wF := [(a_values, .inl (cI, 3, .inl f_values)), (a_words, .inl (cI, 3, .inl f_words)), (a_word, .inl (cI, 9, .inl f_word)), (a_o, .inr (10, [.long o_trace, w_o_text, .int o_typed, .int o_choices, .int o_worlds, .ref a_values, .int o_at, .int o_start, .int o_sort, .int o_value, .int o_fault, w_o_draft, w_o_sayings, w_o_leaves, w_o_signs, .ref a_words, .ref a_word, w_o_isKept, w_o_some, w_o_every, .int o_deep, .int o_many, .ref a_length, .ref a_found, .int z_92.1])), (a_length, .inl (cI, 512, .inl z_92.2.1)), (a_found, .inl (cI, 512, .inl z_92.2.2))]) hF hA hZ hK hP hD hS (c_X11_find l D cI cB cZ a_o o_trace w_o_text o_typed o_choices o_worlds (.ref a_values) o_at o_start o_sort o_value o_fault w_o_draft w_o_sayings w_o_leaves w_o_signs (.ref a_words) (.ref a_word) w_o_isKept w_o_some w_o_every o_deep o_many x74_o_foundMany a_length x74_f_length a_found x74_f_found (f_word x74_l2.toNatClampNeg) 1 z_92 hc_92) rfl gX11_findAll_X11_find hdX11_find ⟨rfl, rfl⟩ (Nat.le_of_ble_eq_true rfl) (Nat.le_of_ble_eq_true rfl) 10 0 rfl rfl [0, 4, 5] [1, 2, 3] rfl rfl rfl rfl (by decide) rfl hl.1 rfl (Nat.le_of_ble_eq_true rfl) (Nat.zero_le _) (Nat.zero_le _) dX11_findAll_92 (fun H locs hP hD hS => ?_)
            refine lv_iinc (v := x74_l2 + 1) (lv' := [(2, .int (x74_l2 + 1)), (0, .ref a_o), (1, .int p1)]) hx hb dX11_findAll_95 hl (k := 2) rfl (congrArg (x74_l2 + ·) ic_1) (by decide) rfl (fun ls hl => ?_)
            refine lv_goto (tgt := 74) hx hb dX11_findAll_98 (by decide) ?_
            exact ih74 (x74_l2 + 1) z_92.1 z_92.2.1 z_92.2.2 H locs ls h (hP.sub [3, 0, 1, 2, 4, 5] rfl) (hD.sub [3, 0, 1, 2, 4, 5] (by decide) rfl) hS (lv_sub hl [1, 2, 0] rfl)
      exact L74 QF 0 x72_o_foundMany x72_f_length x72_f_found H locs ls h hP hD hS (lv_sub hl [1, 2, 0] rfl)
    have L29 : ∀ (n : Nat), ∀ (x29_l2 : Int32) (x29_o_foundMany : Int32) (x29_f_length : (Nat → Int32)) (x29_f_found : (Nat → Int32)) (H : Heap) (locs : List Loc) (ls : Array Slot), P_X11_findAll_29 o_choices o_worlds f_values k72 n x29_l2 x29_o_foundMany x29_f_length x29_f_found = some z → va_P D vwCl [(a_o, .inr (10, [.long o_trace, w_o_text, .int o_typed, .int o_choices, .int o_worlds, .ref a_values, .int o_at, .int o_start, .int o_sort, .int o_value, .int o_fault, w_o_draft, w_o_sayings, w_o_leaves, w_o_signs, .ref a_words, .ref a_word, w_o_isKept, w_o_some, w_o_every, .int o_deep, .int o_many, .ref a_length, .ref a_found, .int x29_o_foundMany])), (a_values, .inl (cI, 3, .inl f_values)), (a_words, .inl (cI, 3, .inl f_words)), (a_word, .inl (cI, 9, .inl f_word)), (a_length, .inl (cI, 512, .inl x29_f_length)), (a_found, .inl (cI, 512, .inl x29_f_found))] H → va_D A [(a_o, .inr (10, [.long o_trace, w_o_text, .int o_typed, .int o_choices, .int o_worlds, .ref a_values, .int o_at, .int o_start, .int o_sort, .int o_value, .int o_fault, w_o_draft, w_o_sayings, w_o_leaves, w_o_signs, .ref a_words, .ref a_word, w_o_isKept, w_o_some, w_o_every, .int o_deep, .int o_many, .ref a_length, .ref a_found, .int x29_o_foundMany])), (a_values, .inl (cI, 3, .inl f_values)), (a_words, .inl (cI, 3, .inl f_words)), (a_word, .inl (cI, 9, .inl f_word)), (a_length, .inl (cI, 512, .inl x29_f_length)), (a_found, .inl (cI, 512, .inl x29_f_found))] → va_S A s.heap H locs → lv_has ls 6 [(0, .ref a_o), (1, .int p1), (2, .int x29_l2)] → W p l e rmX11_findAll s m args below meth c H locs 0 0 Q (F0 m 29 ls []) := by
      intro n
      induction n with
      | zero =>
        intro x29_l2 x29_o_foundMany x29_f_length x29_f_found H locs ls h
        exact no_e h
      | succ n ih29 =>
        intro x29_l2 x29_o_foundMany x29_f_length x29_f_found H locs ls h hP hD hS hl
        rw [P_X11_findAll_29] at h
        refine lv_iload_n hx hb dX11_findAll_29 rfl (lv_at hl 2 rfl) ?_
        refine lv_aload_n hx hb dX11_findAll_30 rfl (lv_at hl 0 rfl) ?_
        refine va_get (D := D) (ci := 10) (v := .int o_choices) (C := RX11) (T := TX11) (N := 25) hx hb hts u_X11 hown hK hP 0 rfl rfl 3 (by decide) k_f5 (fun _ h9 => h9) rfl dX11_findAll_31 ?_
        refine lv_icmp_ge (tgt := 72) hx hb dX11_findAll_34 (by decide) (fun c_34 => ?_) (fun c_34 => ?_)
        · replace h := it_e c_34 h
          exact Jk72 x29_o_foundMany x29_f_length x29_f_found H locs ls h hP hD hS (lv_sub hl [0, 1] rfl)
        · replace h := if_e c_34 h
          refine lv_iconst (v := 0) hx hb dX11_findAll_37 ic_0 ?_
          refine lv_istore_n (lv' := [(3, .int 0), (0, .ref a_o), (1, .int p1), (2, .int x29_l2)]) hx hb dX11_findAll_38 rfl hl (by decide) rfl (fun ls hl => ?_)
          obtain ⟨k66, hk66, h⟩ := jn_e h
          have Jk66 : ∀ (x66_o_foundMany : Int32) (x66_f_length : (Nat → Int32)) (x66_f_found : (Nat → Int32)) (H : Heap) (locs : List Loc) (ls : Array Slot), k66 x66_o_foundMany x66_f_length x66_f_found = some z → va_P D vwCl [(a_o, .inr (10, [.long o_trace, w_o_text, .int o_typed, .int o_choices, .int o_worlds, .ref a_values, .int o_at, .int o_start, .int o_sort, .int o_value, .int o_fault, w_o_draft, w_o_sayings, w_o_leaves, w_o_signs, .ref a_words, .ref a_word, w_o_isKept, w_o_some, w_o_every, .int o_deep, .int o_many, .ref a_length, .ref a_found, .int x66_o_foundMany])), (a_values, .inl (cI, 3, .inl f_values)), (a_words, .inl (cI, 3, .inl f_words)), (a_word, .inl (cI, 9, .inl f_word)), (a_length, .inl (cI, 512, .inl x66_f_length)), (a_found, .inl (cI, 512, .inl x66_f_found))] H → va_D A [(a_o, .inr (10, [.long o_trace, w_o_text, .int o_typed, .int o_choices, .int o_worlds, .ref a_values, .int o_at, .int o_start, .int o_sort, .int o_value, .int o_fault, w_o_draft, w_o_sayings, w_o_leaves, w_o_signs, .ref a_words, .ref a_word, w_o_isKept, w_o_some, w_o_every, .int o_deep, .int o_many, .ref a_length, .ref a_found, .int x66_o_foundMany])), (a_values, .inl (cI, 3, .inl f_values)), (a_words, .inl (cI, 3, .inl f_words)), (a_word, .inl (cI, 9, .inl f_word)), (a_length, .inl (cI, 512, .inl x66_f_length)), (a_found, .inl (cI, 512, .inl x66_f_found))] → va_S A s.heap H locs → lv_has ls 6 [(0, .ref a_o), (1, .int p1), (2, .int x29_l2)] → W p l e rmX11_findAll s m args below meth c H locs 0 0 Q (F0 m 66 ls []) := by
            intro x66_o_foundMany x66_f_length x66_f_found H locs ls h hP hD hS hl
            rw [hk66] at h
            refine lv_iinc (v := x29_l2 + 1) (lv' := [(2, .int (x29_l2 + 1)), (0, .ref a_o), (1, .int p1)]) hx hb dX11_findAll_66 hl (k := 2) rfl (congrArg (x29_l2 + ·) ic_1) (by decide) rfl (fun ls hl => ?_)
            refine lv_goto (tgt := 29) hx hb dX11_findAll_69 (by decide) ?_
            exact ih29 (x29_l2 + 1) x66_o_foundMany x66_f_length x66_f_found H locs ls h hP hD hS (lv_sub hl [1, 2, 0] rfl)
          have L39 : ∀ (n : Nat), ∀ (x39_l3 : Int32) (x39_o_foundMany : Int32) (x39_f_length : (Nat → Int32)) (x39_f_found : (Nat → Int32)) (H : Heap) (locs : List Loc) (ls : Array Slot), P_X11_findAll_39 o_worlds f_values x29_l2 k66 n x39_l3 x39_o_foundMany x39_f_length x39_f_found = some z → va_P D vwCl [(a_o, .inr (10, [.long o_trace, w_o_text, .int o_typed, .int o_choices, .int o_worlds, .ref a_values, .int o_at, .int o_start, .int o_sort, .int o_value, .int o_fault, w_o_draft, w_o_sayings, w_o_leaves, w_o_signs, .ref a_words, .ref a_word, w_o_isKept, w_o_some, w_o_every, .int o_deep, .int o_many, .ref a_length, .ref a_found, .int x39_o_foundMany])), (a_values, .inl (cI, 3, .inl f_values)), (a_words, .inl (cI, 3, .inl f_words)), (a_word, .inl (cI, 9, .inl f_word)), (a_length, .inl (cI, 512, .inl x39_f_length)), (a_found, .inl (cI, 512, .inl x39_f_found))] H → va_D A [(a_o, .inr (10, [.long o_trace, w_o_text, .int o_typed, .int o_choices, .int o_worlds, .ref a_values, .int o_at, .int o_start, .int o_sort, .int o_value, .int o_fault, w_o_draft, w_o_sayings, w_o_leaves, w_o_signs, .ref a_words, .ref a_word, w_o_isKept, w_o_some, w_o_every, .int o_deep, .int o_many, .ref a_length, .ref a_found, .int x39_o_foundMany])), (a_values, .inl (cI, 3, .inl f_values)), (a_words, .inl (cI, 3, .inl f_words)), (a_word, .inl (cI, 9, .inl f_word)), (a_length, .inl (cI, 512, .inl x39_f_length)), (a_found, .inl (cI, 512, .inl x39_f_found))] → va_S A s.heap H locs → lv_has ls 6 [(0, .ref a_o), (1, .int p1), (2, .int x29_l2), (3, .int x39_l3)] → W p l e rmX11_findAll s m args below meth c H locs 0 0 Q (F0 m 39 ls []) := by
            intro n
            induction n with
            | zero =>
              intro x39_l3 x39_o_foundMany x39_f_length x39_f_found H locs ls h
              exact no_e h
            | succ n ih39 =>
              intro x39_l3 x39_o_foundMany x39_f_length x39_f_found H locs ls h hP hD hS hl
              rw [P_X11_findAll_39] at h
              refine lv_iload_n hx hb dX11_findAll_39 rfl (lv_at hl 3 rfl) ?_
              refine lv_aload_n hx hb dX11_findAll_40 rfl (lv_at hl 0 rfl) ?_
              refine va_get (D := D) (ci := 10) (v := .ref a_values) (C := RX11) (T := TX11) (N := 25) hx hb hts u_X11 hown hK hP 0 rfl rfl 5 (by decide) k_f6 (fun _ h9 => h9) rfl dX11_findAll_41 ?_
              refine lv_iload_n hx hb dX11_findAll_44 rfl (lv_at hl 2 rfl) ?_
              obtain ⟨hi_45, h⟩ := ck_e h
              refine va_iald hx hb hK hP 1 0 rfl rfl hi_45 dX11_findAll_45 ?_
              refine lv_icmp_ge (tgt := 66) hx hb dX11_findAll_46 (by decide) (fun c_46 => ?_) (fun c_46 => ?_)
              · replace h := it_e c_46 h
                exact Jk66 x39_o_foundMany x39_f_length x39_f_found H locs ls h hP hD hS (lv_sub hl [0, 1, 2] rfl)
              · replace h := if_e c_46 h
                refine lv_aload_n hx hb dX11_findAll_49 rfl (lv_at hl 0 rfl) ?_
                refine lv_aload_n hx hb dX11_findAll_50 rfl (lv_at hl 0 rfl) ?_
                refine lv_iload_n hx hb dX11_findAll_51 rfl (lv_at hl 2 rfl) ?_
                refine lv_iload_n hx hb dX11_findAll_52 rfl (lv_at hl 3 rfl) ?_
                obtain ⟨z_53, hc_53, h⟩ := bd_e h
                refine q_iV (As := [.int x29_l2, .int x39_l3]) (rest := [.ref a_o]) (wF := [(a_words, .inl (cI, 3, .inl f_words)), (a_word, .inl (cI, 9, .inl f_word)), (a_length, .inl (cI, 512, .inl x39_f_length)), (a_found, .inl (cI, 512, .inl x39_f_found)), (a_o, .inr (10, [.long o_trace, w_o_text, .int o_typed, .int o_choices, .int o_worlds, .ref a_values, .int o_at, .int o_start, .int o_sort, .int o_value, .int o_fault, w_o_draft, w_o_sayings, w_o_leaves, w_o_signs, .ref a_words, .ref a_word, w_o_isKept, w_o_some, w_o_every, .int o_deep, .int o_many, .ref a_length, .ref a_found, .int x39_o_foundMany])), (a_values, .inl (cI, 3, .inl f_values))]) hF hA hZ hK hP hD hS (c_X11_worldsOf l D cI cB cZ a_o o_trace w_o_text o_typed o_choices o_worlds o_at o_start o_sort o_value o_fault w_o_draft w_o_sayings w_o_leaves w_o_signs (.ref a_words) (.ref a_word) w_o_isKept w_o_some w_o_every o_deep o_many (.ref a_length) (.ref a_found) x39_o_foundMany a_values f_values x29_l2 x39_l3 z_53 hc_53) rfl gX11_findAll_X11_worldsOf hdX11_worldsOf ⟨rfl, rfl⟩ (Nat.le_of_ble_eq_true rfl) (Nat.le_of_ble_eq_true rfl) 10 0 rfl rfl [0, 1] [2, 3, 4, 5] rfl rfl rfl rfl (by decide) rfl hl.1 rfl (Nat.le_of_ble_eq_true rfl) (Nat.zero_le _) (Nat.zero_le _) dX11_findAll_53 (fun H locs hP hD hS => ?_)
                refine lv_iconst (v := 1) hx hb dX11_findAll_56 ic_1 ?_
                obtain ⟨z_57, hc_57, h⟩ := bd_e h
                refine q_vV (As := [.int z_53, .int 1]) (rest := []) (wF := [(a_words, .inl (cI, 3, .inl f_words)), (a_word, .inl (cI, 9, .inl f_word)), (a_values, .inl (cI, 3, .inl f_values)), (a_o, .inr (10, [.long o_trace, w_o_text, .int o_typed, .int o_choices, .int o_worlds, .ref a_values, .int o_at, .int o_start, .int o_sort, .int o_value, .int o_fault, w_o_draft, w_o_sayings, w_o_leaves, w_o_signs, .ref a_words, .ref a_word, w_o_isKept, w_o_some, w_o_every, .int o_deep, .int o_many, .ref a_length, .ref a_found, .int z_57.1])), (a_length, .inl (cI, 512, .inl z_57.2.1)), (a_found, .inl (cI, 512, .inl z_57.2.2))]) hF hA hZ hK hP hD hS (c_X11_find l D cI cB cZ a_o o_trace w_o_text o_typed o_choices o_worlds (.ref a_values) o_at o_start o_sort o_value o_fault w_o_draft w_o_sayings w_o_leaves w_o_signs (.ref a_words) (.ref a_word) w_o_isKept w_o_some w_o_every o_deep o_many x39_o_foundMany a_length x39_f_length a_found x39_f_found z_53 1 z_57 hc_57) rfl gX11_findAll_X11_find hdX11_find ⟨rfl, rfl⟩ (Nat.le_of_ble_eq_true rfl) (Nat.le_of_ble_eq_true rfl) 10 0 rfl rfl [4, 2, 3] [0, 1, 5] rfl rfl rfl rfl (by decide) rfl hl.1 rfl (Nat.le_of_ble_eq_true rfl) (Nat.zero_le _) (Nat.zero_le _) dX11_findAll_57 (fun H locs hP hD hS => ?_)
                refine lv_iinc (v := x39_l3 + 1) (lv' := [(3, .int (x39_l3 + 1)), (0, .ref a_o), (1, .int p1), (2, .int x29_l2)]) hx hb dX11_findAll_60 hl (k := 3) rfl (congrArg (x39_l3 + ·) ic_1) (by decide) rfl (fun ls hl => ?_)
                refine lv_goto (tgt := 39) hx hb dX11_findAll_63 (by decide) ?_
                exact ih39 (x39_l3 + 1) z_57.1 z_57.2.1 z_57.2.2 H locs ls h (hP.sub [3, 2, 0, 1, 4, 5] rfl) (hD.sub [3, 2, 0, 1, 4, 5] (by decide) rfl) hS (lv_sub hl [1, 2, 3, 0] rfl)
          exact L39 QF 0 x29_o_foundMany x29_f_length x29_f_found H locs ls h hP hD hS (lv_sub hl [1, 2, 3, 0] rfl)
    exact L29 QF 0 0 x22_f_length f_found H locs ls h hP hD hS (lv_sub hl [1, 2, 0] rfl)
  have L2 : ∀ (n : Nat), ∀ (x2_l2 : Int32) (x2_f_length : (Nat → Int32)) (H : Heap) (locs : List Loc) (ls : Array Slot), P_X11_findAll_2 k22 n x2_l2 x2_f_length = some z → va_P D vwCl [(a_o, .inr (10, [.long o_trace, w_o_text, .int o_typed, .int o_choices, .int o_worlds, .ref a_values, .int o_at, .int o_start, .int o_sort, .int o_value, .int o_fault, w_o_draft, w_o_sayings, w_o_leaves, w_o_signs, .ref a_words, .ref a_word, w_o_isKept, w_o_some, w_o_every, .int o_deep, .int o_many, .ref a_length, .ref a_found, .int o_foundMany])), (a_values, .inl (cI, 3, .inl f_values)), (a_words, .inl (cI, 3, .inl f_words)), (a_word, .inl (cI, 9, .inl f_word)), (a_length, .inl (cI, 512, .inl x2_f_length)), (a_found, .inl (cI, 512, .inl f_found))] H → va_D A [(a_o, .inr (10, [.long o_trace, w_o_text, .int o_typed, .int o_choices, .int o_worlds, .ref a_values, .int o_at, .int o_start, .int o_sort, .int o_value, .int o_fault, w_o_draft, w_o_sayings, w_o_leaves, w_o_signs, .ref a_words, .ref a_word, w_o_isKept, w_o_some, w_o_every, .int o_deep, .int o_many, .ref a_length, .ref a_found, .int o_foundMany])), (a_values, .inl (cI, 3, .inl f_values)), (a_words, .inl (cI, 3, .inl f_words)), (a_word, .inl (cI, 9, .inl f_word)), (a_length, .inl (cI, 512, .inl x2_f_length)), (a_found, .inl (cI, 512, .inl f_found))] → va_S A s.heap H locs → lv_has ls 6 [(0, .ref a_o), (1, .int p1), (2, .int x2_l2)] → W p l e rmX11_findAll s m args below meth c H locs 0 0 Q (F0 m 2 ls []) := by
    intro n
    induction n with
    | zero =>
      intro x2_l2 x2_f_length H locs ls h
      exact no_e h
    | succ n ih2 =>
      intro x2_l2 x2_f_length H locs ls h hP hD hS hl
      rw [P_X11_findAll_2] at h
      refine lv_iload_n hx hb dX11_findAll_2 rfl (lv_at hl 2 rfl) ?_
      refine lv_sipush (v := 512) hx hb dX11_findAll_3 sc_512 ?_
      refine lv_icmp_ge (tgt := 22) hx hb dX11_findAll_6 (by decide) (fun c_6 => ?_) (fun c_6 => ?_)
      · replace h := it_e c_6 h
        exact Jk22 x2_f_length H locs ls h hP hD hS (lv_sub hl [0, 1] rfl)
      · replace h := if_e c_6 h
        refine lv_aload_n hx hb dX11_findAll_9 rfl (lv_at hl 0 rfl) ?_
        refine va_get (D := D) (ci := 10) (v := .ref a_length) (C := RX11) (T := TX11) (N := 25) hx hb hts u_X11 hown hK hP 0 rfl rfl 22 (by decide) k_f1 (fun _ h9 => h9) rfl dX11_findAll_10 ?_
        refine lv_iload_n hx hb dX11_findAll_13 rfl (lv_at hl 2 rfl) ?_
        refine lv_iconst (v := 0) hx hb dX11_findAll_14 ic_0 ?_
        obtain ⟨hi_15, h⟩ := ck_e h
        refine va_iast hx hb hK hP hD hS 4 0 rfl rfl hi_15 dX11_findAll_15 (fun H locs hP hD hS => ?_)
        have hP : va_P D vwCl [(a_o, .inr (10, [.long o_trace, w_o_text, .int o_typed, .int o_choices, .int o_worlds, .ref a_values, .int o_at, .int o_start, .int o_sort, .int o_value, .int o_fault, w_o_draft, w_o_sayings, w_o_leaves, w_o_signs, .ref a_words, .ref a_word, w_o_isKept, w_o_some, w_o_every, .int o_deep, .int o_many, .ref a_length, .ref a_found, .int o_foundMany])), (a_values, .inl (cI, 3, .inl f_values)), (a_words, .inl (cI, 3, .inl f_words)), (a_word, .inl (cI, 9, .inl f_word)), (a_length, .inl (cI, 512, .inl (upd x2_f_length x2_l2.toNatClampNeg 0))), (a_found, .inl (cI, 512, .inl f_found))] H := hP
        have hD : va_D A [(a_o, .inr (10, [.long o_trace, w_o_text, .int o_typed, .int o_choices, .int o_worlds, .ref a_values, .int o_at, .int o_start, .int o_sort, .int o_value, .int o_fault, w_o_draft, w_o_sayings, w_o_leaves, w_o_signs, .ref a_words, .ref a_word, w_o_isKept, w_o_some, w_o_every, .int o_deep, .int o_many, .ref a_length, .ref a_found, .int o_foundMany])), (a_values, .inl (cI, 3, .inl f_values)), (a_words, .inl (cI, 3, .inl f_words)), (a_word, .inl (cI, 9, .inl f_word)), (a_length, .inl (cI, 512, .inl (upd x2_f_length x2_l2.toNatClampNeg 0))), (a_found, .inl (cI, 512, .inl f_found))] := hD
        refine lv_iinc (v := x2_l2 + 1) (lv' := [(2, .int (x2_l2 + 1)), (0, .ref a_o), (1, .int p1)]) hx hb dX11_findAll_16 hl (k := 2) rfl (congrArg (x2_l2 + ·) ic_1) (by decide) rfl (fun ls hl => ?_)
        refine lv_goto (tgt := 2) hx hb dX11_findAll_19 (by decide) ?_
        exact ih2 (x2_l2 + 1) (upd x2_f_length x2_l2.toNatClampNeg 0) H locs ls h hP hD hS (lv_sub hl [1, 2, 0] rfl)
  exact L2 QF 0 f_length H locs ls h hP hD hS (lv_sub hl [1, 2, 0] rfl)
abbrev rmX11_lengthOf : Room := { frames := 0, cells := 0, slots := 0, locals := 0 }
theorem hdX11_lengthOf : yX11_lengthOf.cls = RX11 ∧ yX11_lengthOf.cls ≠ "java/lang/invoke/MethodHandle" ∧ yX11_lengthOf.cls ≠ "java/lang/invoke/VarHandle" ∧ (parseMethodDescriptor yX11_lengthOf.desc).map (fun d => d.parameters.length) = some 1 := by decide +kernel
set_option maxRecDepth 100000 in
set_option maxHeartbeats 4000000 in
theorem c_X11_lengthOf (l : Launch) (D : va_G) (cI cB cZ : ClassId) (a_o : Nat) (o_trace : Int64) (w_o_text : Value) (o_typed : Int32) (o_choices : Int32) (o_worlds : Int32) (w_o_values : Value) (o_at : Int32) (o_start : Int32) (o_sort : Int32) (o_value : Int32) (o_fault : Int32) (w_o_draft : Value) (w_o_sayings : Value) (w_o_leaves : Value) (w_o_signs : Value) (w_o_words : Value) (w_o_word : Value) (w_o_isKept : Value) (w_o_some : Value) (w_o_every : Value) (o_deep : Int32) (o_many : Int32) (w_o_found : Value) (o_foundMany : Int32) (a_length : Nat) (f_length : Nat → Int32) (p1 : Int32) (z : Int32) (h : P_X11_lengthOf p1 f_length = some z) : KI l yX11_lengthOf wsX11_lengthOf rmX11_lengthOf D [(cI, .int), (cB, .byte), (cZ, .boolean)] [.ref a_o, .int p1] [(a_o, .inr (10, [.long o_trace, w_o_text, .int o_typed, .int o_choices, .int o_worlds, w_o_values, .int o_at, .int o_start, .int o_sort, .int o_value, .int o_fault, w_o_draft, w_o_sayings, w_o_leaves, w_o_signs, w_o_words, w_o_word, w_o_isKept, w_o_some, w_o_every, .int o_deep, .int o_many, .ref a_length, w_o_found, .int o_foundMany])), (a_length, .inl (cI, 512, .inl f_length))] [(a_o, .inr (10, [.long o_trace, w_o_text, .int o_typed, .int o_choices, .int o_worlds, w_o_values, .int o_at, .int o_start, .int o_sort, .int o_value, .int o_fault, w_o_draft, w_o_sayings, w_o_leaves, w_o_signs, w_o_words, w_o_word, w_o_isKept, w_o_some, w_o_every, .int o_deep, .int o_many, .ref a_length, w_o_found, .int o_foundMany])), (a_length, .inl (cI, 512, .inl f_length))] z := by
  refine KI_of (own := RX11) (cc := cX11_lengthOf) (maxL := 2) (ret := some .int) (by decide) rfl rfl (Nat.le_of_ble_eq_true rfl) (Or.inl rfl) ?_
  intro p e s m args below meth c A Q hx hb hml hown hts hA hZ hK hret H locs ls hP hD hS hl
  have hl : lv_has ls 2 [(0, .ref a_o), (1, .int p1)] := hl
  have hF : CallFix p m c cX11_lengthOf 2 s args wsX11_lengthOf RX11 := ⟨hx, hb, hml, hown, hts⟩
  have u_X11 : ∀ w ∈ u_ws RX11 TX11 25, w ∈ wsX11_lengthOf := by decide +kernel
  have k_f0 := hts (.fieldLink RX11 45 "NoWordNoModel" "length" "[I") (by decide +kernel)
  unfold P_X11_lengthOf at h
  refine lv_aload_n hx hb dX11_lengthOf_0 rfl (lv_at hl 0 rfl) ?_
  refine va_get (D := D) (ci := 10) (v := .ref a_length) (C := RX11) (T := TX11) (N := 25) hx hb hts u_X11 hown hK hP 0 rfl rfl 22 (by decide) k_f0 (fun _ h9 => h9) rfl dX11_lengthOf_1 ?_
  refine lv_iload_n hx hb dX11_lengthOf_4 rfl (lv_at hl 1 rfl) ?_
  obtain ⟨hi_5, h⟩ := ck_e h
  refine va_iald hx hb hK hP 1 0 rfl rfl hi_5 dX11_lengthOf_5 ?_
  refine lv_if_ne (tgt := 14) hx hb dX11_lengthOf_6 (by decide) (fun c_6 => ?_) (fun c_6 => ?_)
  · replace h := if_e c_6 h
    refine lv_aload_n hx hb dX11_lengthOf_14 rfl (lv_at hl 0 rfl) ?_
    refine va_get (D := D) (ci := 10) (v := .ref a_length) (C := RX11) (T := TX11) (N := 25) hx hb hts u_X11 hown hK hP 0 rfl rfl 22 (by decide) k_f0 (fun _ h9 => h9) rfl dX11_lengthOf_15 ?_
    refine lv_iload_n hx hb dX11_lengthOf_18 rfl (lv_at hl 1 rfl) ?_
    obtain ⟨hi_19, h⟩ := ck_e h
    refine va_iald hx hb hK hP 1 0 rfl rfl hi_19 dX11_lengthOf_19 ?_
    have hz := Option.some.inj h
    subst hz
    exact hret H locs 20 ls (fun ty h => by cases h; rfl) hP hD hS dX11_lengthOf_20
  · replace h := it_e c_6 h
    refine lv_bipush (v := (-9)) hx hb dX11_lengthOf_9 bc_m9 ?_
    refine lv_goto (tgt := 20) hx hb dX11_lengthOf_11 (by decide) ?_
    have hz := Option.some.inj h
    subst hz
    exact hret H locs 20 ls (fun ty h => by cases h; rfl) hP hD hS dX11_lengthOf_20
abbrev rmX11_shortest : Room := { frames := 3, cells := 0, slots := 0, locals := 73 }
theorem hdX11_shortest : yX11_shortest.cls = RX11 ∧ yX11_shortest.cls ≠ "java/lang/invoke/MethodHandle" ∧ yX11_shortest.cls ≠ "java/lang/invoke/VarHandle" ∧ (parseMethodDescriptor yX11_shortest.desc).map (fun d => d.parameters.length) = some 1 := by decide +kernel
set_option maxRecDepth 100000 in
set_option maxHeartbeats 4000000 in
theorem c_X11_shortest (l : Launch) (D : va_G) (cI cB cZ : ClassId) (a_o : Nat) (o_trace : Int64) (w_o_text : Value) (o_typed : Int32) (o_choices : Int32) (o_worlds : Int32) (o_at : Int32) (o_start : Int32) (o_sort : Int32) (o_value : Int32) (o_fault : Int32) (w_o_draft : Value) (w_o_sayings : Value) (w_o_leaves : Value) (w_o_signs : Value) (w_o_isKept : Value) (w_o_some : Value) (w_o_every : Value) (o_deep : Int32) (o_many : Int32) (o_foundMany : Int32) (a_values : Nat) (f_values : Nat → Int32) (a_words : Nat) (f_words : Nat → Int32) (a_word : Nat) (f_word : Nat → Int32) (a_length : Nat) (f_length : Nat → Int32) (a_found : Nat) (f_found : Nat → Int32) (p1 : Int32) (z : Int32 × Int32 × (Nat → Int32) × (Nat → Int32)) (h : P_X11_shortest p1 o_choices o_worlds o_foundMany f_values f_words f_word f_length f_found = some z) : KI l yX11_shortest wsX11_shortest rmX11_shortest D [(cI, .int), (cB, .byte), (cZ, .boolean)] [.ref a_o, .int p1] [(a_o, .inr (10, [.long o_trace, w_o_text, .int o_typed, .int o_choices, .int o_worlds, .ref a_values, .int o_at, .int o_start, .int o_sort, .int o_value, .int o_fault, w_o_draft, w_o_sayings, w_o_leaves, w_o_signs, .ref a_words, .ref a_word, w_o_isKept, w_o_some, w_o_every, .int o_deep, .int o_many, .ref a_length, .ref a_found, .int o_foundMany])), (a_values, .inl (cI, 3, .inl f_values)), (a_words, .inl (cI, 3, .inl f_words)), (a_word, .inl (cI, 9, .inl f_word)), (a_length, .inl (cI, 512, .inl f_length)), (a_found, .inl (cI, 512, .inl f_found))] [(a_o, .inr (10, [.long o_trace, w_o_text, .int o_typed, .int o_choices, .int o_worlds, .ref a_values, .int o_at, .int o_start, .int o_sort, .int o_value, .int o_fault, w_o_draft, w_o_sayings, w_o_leaves, w_o_signs, .ref a_words, .ref a_word, w_o_isKept, w_o_some, w_o_every, .int o_deep, .int o_many, .ref a_length, .ref a_found, .int z.2.1])), (a_values, .inl (cI, 3, .inl f_values)), (a_words, .inl (cI, 3, .inl f_words)), (a_word, .inl (cI, 9, .inl f_word)), (a_length, .inl (cI, 512, .inl z.2.2.1)), (a_found, .inl (cI, 512, .inl z.2.2.2))] z.1 := by
  refine KI_of (own := RX11) (cc := cX11_shortest) (maxL := 2) (ret := some .int) (by decide) rfl rfl (Nat.le_of_ble_eq_true rfl) (Or.inl rfl) ?_
  intro p e s m args below meth c A Q hx hb hml hown hts hA hZ hK hret H locs ls hP hD hS hl
  have hl : lv_has ls 2 [(0, .ref a_o), (1, .int p1)] := hl
  have hF : CallFix p m c cX11_shortest 2 s args wsX11_shortest RX11 := ⟨hx, hb, hml, hown, hts⟩
  unfold P_X11_shortest at h
  refine lv_aload_n hx hb dX11_shortest_0 rfl (lv_at hl 0 rfl) ?_
  refine lv_iload_n hx hb dX11_shortest_1 rfl (lv_at hl 1 rfl) ?_
  obtain ⟨z_2, hc_2, h⟩ := bd_e h
  refine q_iV (As := [.int p1]) (rest := []) (wF := [(a_values, .inl (cI, 3, .inl f_values)), (a_words, .inl (cI, 3, .inl f_words)), (a_word, .inl (cI, 9, .inl f_word)), (a_length, .inl (cI, 512, .inl f_length)), (a_found, .inl (cI, 512, .inl f_found)), (a_o, .inr (10, [.long o_trace, w_o_text, .int o_typed, .int o_choices, .int o_worlds, .ref a_values, .int o_at, .int o_start, .int o_sort, .int o_value, .int o_fault, w_o_draft, w_o_sayings, w_o_leaves, w_o_signs, .ref a_words, .ref a_word, w_o_isKept, w_o_some, w_o_every, .int o_deep, .int o_many, .ref a_length, .ref a_found, .int o_foundMany]))]) hF hA hZ hK hP hD hS (c_X11_isSet l D cI cB cZ a_o o_trace w_o_text o_typed o_choices o_worlds (.ref a_values) o_at o_start o_sort o_value o_fault w_o_draft w_o_sayings w_o_leaves w_o_signs (.ref a_words) (.ref a_word) w_o_isKept w_o_some w_o_every o_deep o_many (.ref a_length) (.ref a_found) o_foundMany p1 z_2 hc_2) rfl gX11_shortest_X11_isSet hdX11_isSet ⟨rfl, rfl⟩ (Nat.le_of_ble_eq_true rfl) (Nat.le_of_ble_eq_true rfl) 10 0 rfl rfl [0] [1, 2, 3, 4, 5] rfl rfl rfl rfl (by decide) rfl hl.1 rfl (Nat.le_of_ble_eq_true rfl) (Nat.zero_le _) (Nat.zero_le _) dX11_shortest_2 (fun H locs hP hD hS => ?_)
  refine lv_if_ne (tgt := 10) hx hb dX11_shortest_5 (by decide) (fun c_5 => ?_) (fun c_5 => ?_)
  · replace h := if_e c_5 h
    refine lv_aload_n hx hb dX11_shortest_10 rfl (lv_at hl 0 rfl) ?_
    refine lv_iconst (v := (-1)) hx hb dX11_shortest_11 ic_m1 ?_
    obtain ⟨z_12, hc_12, h⟩ := bd_e h
    refine q_vV (As := [.int (-1)]) (rest := []) (wF := [(a_o, .inr (10, [.long o_trace, w_o_text, .int o_typed, .int o_choices, .int o_worlds, .ref a_values, .int o_at, .int o_start, .int o_sort, .int o_value, .int o_fault, w_o_draft, w_o_sayings, w_o_leaves, w_o_signs, .ref a_words, .ref a_word, w_o_isKept, w_o_some, w_o_every, .int o_deep, .int o_many, .ref a_length, .ref a_found, .int z_12.1])), (a_values, .inl (cI, 3, .inl f_values)), (a_words, .inl (cI, 3, .inl f_words)), (a_word, .inl (cI, 9, .inl f_word)), (a_length, .inl (cI, 512, .inl z_12.2.1)), (a_found, .inl (cI, 512, .inl z_12.2.2))]) hF hA hZ hK hP hD hS (c_X11_findAll l D cI cB cZ a_o o_trace w_o_text o_typed o_choices o_worlds o_at o_start o_sort o_value o_fault w_o_draft w_o_sayings w_o_leaves w_o_signs w_o_isKept w_o_some w_o_every o_deep o_many o_foundMany a_values f_values a_words f_words a_word f_word a_length f_length a_found f_found (-1) z_12 hc_12) rfl gX11_shortest_X11_findAll hdX11_findAll ⟨rfl, rfl⟩ (Nat.le_of_ble_eq_true rfl) (Nat.le_of_ble_eq_true rfl) 10 0 rfl rfl [5, 0, 1, 2, 3, 4] [] rfl rfl rfl rfl (by decide) rfl hl.1 rfl (Nat.le_of_ble_eq_true rfl) (Nat.zero_le _) (Nat.zero_le _) dX11_shortest_12 (fun H locs hP hD hS => ?_)
    refine lv_aload_n hx hb dX11_shortest_15 rfl (lv_at hl 0 rfl) ?_
    refine lv_iload_n hx hb dX11_shortest_16 rfl (lv_at hl 1 rfl) ?_
    obtain ⟨z_17, hc_17, h⟩ := bd_e h
    refine q_iV (As := [.int p1]) (rest := []) (wF := [(a_values, .inl (cI, 3, .inl f_values)), (a_words, .inl (cI, 3, .inl f_words)), (a_word, .inl (cI, 9, .inl f_word)), (a_found, .inl (cI, 512, .inl z_12.2.2)), (a_o, .inr (10, [.long o_trace, w_o_text, .int o_typed, .int o_choices, .int o_worlds, .ref a_values, .int o_at, .int o_start, .int o_sort, .int o_value, .int o_fault, w_o_draft, w_o_sayings, w_o_leaves, w_o_signs, .ref a_words, .ref a_word, w_o_isKept, w_o_some, w_o_every, .int o_deep, .int o_many, .ref a_length, .ref a_found, .int z_12.1])), (a_length, .inl (cI, 512, .inl z_12.2.1))]) hF hA hZ hK hP hD hS (c_X11_lengthOf l D cI cB cZ a_o o_trace w_o_text o_typed o_choices o_worlds (.ref a_values) o_at o_start o_sort o_value o_fault w_o_draft w_o_sayings w_o_leaves w_o_signs (.ref a_words) (.ref a_word) w_o_isKept w_o_some w_o_every o_deep o_many (.ref a_found) z_12.1 a_length z_12.2.1 p1 z_17 hc_17) rfl gX11_shortest_X11_lengthOf hdX11_lengthOf ⟨rfl, rfl⟩ (Nat.le_of_ble_eq_true rfl) (Nat.le_of_ble_eq_true rfl) 10 0 rfl rfl [0, 4] [1, 2, 3, 5] rfl rfl rfl rfl (by decide) rfl hl.1 rfl (Nat.le_of_ble_eq_true rfl) (Nat.zero_le _) (Nat.zero_le _) dX11_shortest_17 (fun H locs hP hD hS => ?_)
    have hz := Option.some.inj h
    subst hz
    exact hret H locs 20 ls (fun ty h => by cases h; rfl) (hP.sub [4, 0, 1, 2, 5, 3] rfl) (hD.sub [4, 0, 1, 2, 5, 3] (by decide) rfl) hS dX11_shortest_20
  · replace h := it_e c_5 h
    refine lv_iconst (v := (-1)) hx hb dX11_shortest_8 ic_m1 ?_
    have hz := Option.some.inj h
    subst hz
    exact hret H locs 9 ls (fun ty h => by cases h; rfl) (hP.sub [5, 0, 1, 2, 3, 4] rfl) (hD.sub [5, 0, 1, 2, 3, 4] (by decide) rfl) hS dX11_shortest_9
abbrev rmX11_signBy : Room := { frames := 2, cells := 0, slots := 0, locals := 48 }
theorem hdX11_signBy : yX11_signBy.cls = RX11 ∧ yX11_signBy.cls ≠ "java/lang/invoke/MethodHandle" ∧ yX11_signBy.cls ≠ "java/lang/invoke/VarHandle" ∧ (parseMethodDescriptor yX11_signBy.desc).map (fun d => d.parameters.length) = some 1 := by decide +kernel
set_option maxRecDepth 100000 in
set_option maxHeartbeats 4000000 in
theorem c_X11_signBy (l : Launch) (D : va_G) (cI cB cZ : ClassId) (a_o : Nat) (o_trace : Int64) (w_o_text : Value) (o_typed : Int32) (o_choices : Int32) (o_worlds : Int32) (o_at : Int32) (o_start : Int32) (o_sort : Int32) (o_value : Int32) (o_fault : Int32) (w_o_draft : Value) (w_o_sayings : Value) (w_o_leaves : Value) (w_o_signs : Value) (w_o_words : Value) (w_o_isKept : Value) (w_o_some : Value) (w_o_every : Value) (o_deep : Int32) (o_many : Int32) (w_o_length : Value) (w_o_found : Value) (o_foundMany : Int32) (a_values : Nat) (f_values : Nat → Int32) (a_word : Nat) (f_word : Nat → Int32) (p1 : Int32) (z : Int32) (h : P_X11_signBy p1 o_choices o_worlds f_values f_word = some z) : KI l yX11_signBy wsX11_signBy rmX11_signBy D [(cI, .int), (cB, .byte), (cZ, .boolean)] [.ref a_o, .int p1] [(a_o, .inr (10, [.long o_trace, w_o_text, .int o_typed, .int o_choices, .int o_worlds, .ref a_values, .int o_at, .int o_start, .int o_sort, .int o_value, .int o_fault, w_o_draft, w_o_sayings, w_o_leaves, w_o_signs, w_o_words, .ref a_word, w_o_isKept, w_o_some, w_o_every, .int o_deep, .int o_many, w_o_length, w_o_found, .int o_foundMany])), (a_values, .inl (cI, 3, .inl f_values)), (a_word, .inl (cI, 9, .inl f_word))] [(a_o, .inr (10, [.long o_trace, w_o_text, .int o_typed, .int o_choices, .int o_worlds, .ref a_values, .int o_at, .int o_start, .int o_sort, .int o_value, .int o_fault, w_o_draft, w_o_sayings, w_o_leaves, w_o_signs, w_o_words, .ref a_word, w_o_isKept, w_o_some, w_o_every, .int o_deep, .int o_many, w_o_length, w_o_found, .int o_foundMany])), (a_values, .inl (cI, 3, .inl f_values)), (a_word, .inl (cI, 9, .inl f_word))] z := by
  refine KI_of (own := RX11) (cc := cX11_signBy) (maxL := 4) (ret := some .int) (by decide) rfl rfl (Nat.le_of_ble_eq_true rfl) (Or.inl rfl) ?_
  intro p e s m args below meth c A Q hx hb hml hown hts hA hZ hK hret H locs ls hP hD hS hl
  have hl : lv_has ls 4 [(0, .ref a_o), (1, .int p1)] := hl
  have hF : CallFix p m c cX11_signBy 4 s args wsX11_signBy RX11 := ⟨hx, hb, hml, hown, hts⟩
  have u_X11 : ∀ w ∈ u_ws RX11 TX11 25, w ∈ wsX11_signBy := by decide +kernel
  have k_f0 := hts (.fieldLink RX11 32 "NoWordNoModel" "word" "[I") (by decide +kernel)
  have k_f1 := hts (.fieldLink RX11 95 "NoWordNoModel" "choices" "I") (by decide +kernel)
  have k_f2 := hts (.fieldLink RX11 13 "NoWordNoModel" "values" "[I") (by decide +kernel)
  unfold P_X11_signBy at h
  refine lv_iconst (v := 0) hx hb dX11_signBy_0 ic_0 ?_
  refine lv_istore_n (lv' := [(2, .int 0), (0, .ref a_o), (1, .int p1)]) hx hb dX11_signBy_1 rfl hl (by decide) rfl (fun ls hl => ?_)
  obtain ⟨k51, hk51, h⟩ := jn_e h
  have Jk51 : ∀ (H : Heap) (locs : List Loc) (ls : Array Slot), k51 () = some z → va_P D vwCl [(a_o, .inr (10, [.long o_trace, w_o_text, .int o_typed, .int o_choices, .int o_worlds, .ref a_values, .int o_at, .int o_start, .int o_sort, .int o_value, .int o_fault, w_o_draft, w_o_sayings, w_o_leaves, w_o_signs, w_o_words, .ref a_word, w_o_isKept, w_o_some, w_o_every, .int o_deep, .int o_many, w_o_length, w_o_found, .int o_foundMany])), (a_values, .inl (cI, 3, .inl f_values)), (a_word, .inl (cI, 9, .inl f_word))] H → va_D A [(a_o, .inr (10, [.long o_trace, w_o_text, .int o_typed, .int o_choices, .int o_worlds, .ref a_values, .int o_at, .int o_start, .int o_sort, .int o_value, .int o_fault, w_o_draft, w_o_sayings, w_o_leaves, w_o_signs, w_o_words, .ref a_word, w_o_isKept, w_o_some, w_o_every, .int o_deep, .int o_many, w_o_length, w_o_found, .int o_foundMany])), (a_values, .inl (cI, 3, .inl f_values)), (a_word, .inl (cI, 9, .inl f_word))] → va_S A s.heap H locs → lv_has ls 4 [(0, .ref a_o), (1, .int p1)] → W p l e rmX11_signBy s m args below meth c H locs 0 0 Q (F0 m 51 ls []) := by
    intro H locs ls h hP hD hS hl
    rw [hk51] at h
    refine lv_iconst (v := 0) hx hb dX11_signBy_51 ic_0 ?_
    refine lv_istore_n (lv' := [(2, .int 0), (0, .ref a_o), (1, .int p1)]) hx hb dX11_signBy_52 rfl hl (by decide) rfl (fun ls hl => ?_)
    obtain ⟨k69, hk69, h⟩ := jn_e h
    have Jk69 : ∀ (x69_l2 : Int32) (H : Heap) (locs : List Loc) (ls : Array Slot), k69 x69_l2 = some z → va_P D vwCl [(a_o, .inr (10, [.long o_trace, w_o_text, .int o_typed, .int o_choices, .int o_worlds, .ref a_values, .int o_at, .int o_start, .int o_sort, .int o_value, .int o_fault, w_o_draft, w_o_sayings, w_o_leaves, w_o_signs, w_o_words, .ref a_word, w_o_isKept, w_o_some, w_o_every, .int o_deep, .int o_many, w_o_length, w_o_found, .int o_foundMany])), (a_values, .inl (cI, 3, .inl f_values)), (a_word, .inl (cI, 9, .inl f_word))] H → va_D A [(a_o, .inr (10, [.long o_trace, w_o_text, .int o_typed, .int o_choices, .int o_worlds, .ref a_values, .int o_at, .int o_start, .int o_sort, .int o_value, .int o_fault, w_o_draft, w_o_sayings, w_o_leaves, w_o_signs, w_o_words, .ref a_word, w_o_isKept, w_o_some, w_o_every, .int o_deep, .int o_many, w_o_length, w_o_found, .int o_foundMany])), (a_values, .inl (cI, 3, .inl f_values)), (a_word, .inl (cI, 9, .inl f_word))] → va_S A s.heap H locs → lv_has ls 4 [(2, .int x69_l2)] → W p l e rmX11_signBy s m args below meth c H locs 0 0 Q (F0 m 69 ls []) := by
      intro x69_l2 H locs ls h hP hD hS hl
      rw [hk69] at h
      refine lv_bipush (v := 30) hx hb dX11_signBy_69 bc_30 ?_
      refine lv_iload_n hx hb dX11_signBy_71 rfl (lv_at hl 0 rfl) ?_
      refine lv_iadd hx hb dX11_signBy_72 ?_
      have hz := Option.some.inj h
      subst hz
      exact hret H locs 73 ls (fun ty h => by cases h; rfl) hP hD hS dX11_signBy_73
    have L53 : ∀ (n : Nat), ∀ (x53_l2 : Int32) (H : Heap) (locs : List Loc) (ls : Array Slot), P_X11_signBy_53 p1 f_word k69 n x53_l2 = some z → va_P D vwCl [(a_o, .inr (10, [.long o_trace, w_o_text, .int o_typed, .int o_choices, .int o_worlds, .ref a_values, .int o_at, .int o_start, .int o_sort, .int o_value, .int o_fault, w_o_draft, w_o_sayings, w_o_leaves, w_o_signs, w_o_words, .ref a_word, w_o_isKept, w_o_some, w_o_every, .int o_deep, .int o_many, w_o_length, w_o_found, .int o_foundMany])), (a_values, .inl (cI, 3, .inl f_values)), (a_word, .inl (cI, 9, .inl f_word))] H → va_D A [(a_o, .inr (10, [.long o_trace, w_o_text, .int o_typed, .int o_choices, .int o_worlds, .ref a_values, .int o_at, .int o_start, .int o_sort, .int o_value, .int o_fault, w_o_draft, w_o_sayings, w_o_leaves, w_o_signs, w_o_words, .ref a_word, w_o_isKept, w_o_some, w_o_every, .int o_deep, .int o_many, w_o_length, w_o_found, .int o_foundMany])), (a_values, .inl (cI, 3, .inl f_values)), (a_word, .inl (cI, 9, .inl f_word))] → va_S A s.heap H locs → lv_has ls 4 [(0, .ref a_o), (1, .int p1), (2, .int x53_l2)] → W p l e rmX11_signBy s m args below meth c H locs 0 0 Q (F0 m 53 ls []) := by
      intro n
      induction n with
      | zero =>
        intro x53_l2 H locs ls h
        exact no_e h
      | succ n ih53 =>
        intro x53_l2 H locs ls h hP hD hS hl
        rw [P_X11_signBy_53] at h
        refine lv_aload_n hx hb dX11_signBy_53 rfl (lv_at hl 0 rfl) ?_
        refine va_get (D := D) (ci := 10) (v := .ref a_word) (C := RX11) (T := TX11) (N := 25) hx hb hts u_X11 hown hK hP 0 rfl rfl 16 (by decide) k_f0 (fun _ h9 => h9) rfl dX11_signBy_54 ?_
        refine lv_iload_n hx hb dX11_signBy_57 rfl (lv_at hl 2 rfl) ?_
        obtain ⟨hi_58, h⟩ := ck_e h
        refine va_iald hx hb hK hP 2 0 rfl rfl hi_58 dX11_signBy_58 ?_
        refine lv_iload_n hx hb dX11_signBy_59 rfl (lv_at hl 1 rfl) ?_
        refine lv_icmp_eq (tgt := 69) hx hb dX11_signBy_60 (by decide) (fun c_60 => ?_) (fun c_60 => ?_)
        · replace h := it_e c_60 h
          exact Jk69 x53_l2 H locs ls h hP hD hS (lv_sub hl [2] rfl)
        · replace h := if_e c_60 h
          refine lv_iinc (v := x53_l2 + 1) (lv' := [(2, .int (x53_l2 + 1)), (0, .ref a_o), (1, .int p1)]) hx hb dX11_signBy_63 hl (k := 2) rfl (congrArg (x53_l2 + ·) ic_1) (by decide) rfl (fun ls hl => ?_)
          refine lv_goto (tgt := 53) hx hb dX11_signBy_66 (by decide) ?_
          exact ih53 (x53_l2 + 1) H locs ls h hP hD hS (lv_sub hl [1, 2, 0] rfl)
    exact L53 QF 0 H locs ls h hP hD hS (lv_sub hl [1, 2, 0] rfl)
  obtain ⟨k32, hk32, h⟩ := jn_e h
  have Jk32 : ∀ (x32_l2 : Int32) (x32_l3 : Int32) (H : Heap) (locs : List Loc) (ls : Array Slot), k32 x32_l2 x32_l3 = some z → va_P D vwCl [(a_o, .inr (10, [.long o_trace, w_o_text, .int o_typed, .int o_choices, .int o_worlds, .ref a_values, .int o_at, .int o_start, .int o_sort, .int o_value, .int o_fault, w_o_draft, w_o_sayings, w_o_leaves, w_o_signs, w_o_words, .ref a_word, w_o_isKept, w_o_some, w_o_every, .int o_deep, .int o_many, w_o_length, w_o_found, .int o_foundMany])), (a_values, .inl (cI, 3, .inl f_values)), (a_word, .inl (cI, 9, .inl f_word))] H → va_D A [(a_o, .inr (10, [.long o_trace, w_o_text, .int o_typed, .int o_choices, .int o_worlds, .ref a_values, .int o_at, .int o_start, .int o_sort, .int o_value, .int o_fault, w_o_draft, w_o_sayings, w_o_leaves, w_o_signs, w_o_words, .ref a_word, w_o_isKept, w_o_some, w_o_every, .int o_deep, .int o_many, w_o_length, w_o_found, .int o_foundMany])), (a_values, .inl (cI, 3, .inl f_values)), (a_word, .inl (cI, 9, .inl f_word))] → va_S A s.heap H locs → lv_has ls 4 [(2, .int x32_l2), (3, .int x32_l3)] → W p l e rmX11_signBy s m args below meth c H locs 0 0 Q (F0 m 32 ls []) := by
    intro x32_l2 x32_l3 H locs ls h hP hD hS hl
    rw [hk32] at h
    refine lv_bipush (v := 10) hx hb dX11_signBy_32 bc_10 ?_
    refine lv_iload_n hx hb dX11_signBy_34 rfl (lv_at hl 0 rfl) ?_
    refine lv_imul hx hb dX11_signBy_35 ?_
    refine lv_iload_n hx hb dX11_signBy_36 rfl (lv_at hl 1 rfl) ?_
    refine lv_iadd hx hb dX11_signBy_37 ?_
    have hz := Option.some.inj h
    subst hz
    exact hret H locs 38 ls (fun ty h => by cases h; rfl) hP hD hS dX11_signBy_38
  have L2 : ∀ (n : Nat), ∀ (x2_l2 : Int32) (H : Heap) (locs : List Loc) (ls : Array Slot), P_X11_signBy_2 p1 o_choices o_worlds f_values k51 k32 n x2_l2 = some z → va_P D vwCl [(a_o, .inr (10, [.long o_trace, w_o_text, .int o_typed, .int o_choices, .int o_worlds, .ref a_values, .int o_at, .int o_start, .int o_sort, .int o_value, .int o_fault, w_o_draft, w_o_sayings, w_o_leaves, w_o_signs, w_o_words, .ref a_word, w_o_isKept, w_o_some, w_o_every, .int o_deep, .int o_many, w_o_length, w_o_found, .int o_foundMany])), (a_values, .inl (cI, 3, .inl f_values)), (a_word, .inl (cI, 9, .inl f_word))] H → va_D A [(a_o, .inr (10, [.long o_trace, w_o_text, .int o_typed, .int o_choices, .int o_worlds, .ref a_values, .int o_at, .int o_start, .int o_sort, .int o_value, .int o_fault, w_o_draft, w_o_sayings, w_o_leaves, w_o_signs, w_o_words, .ref a_word, w_o_isKept, w_o_some, w_o_every, .int o_deep, .int o_many, w_o_length, w_o_found, .int o_foundMany])), (a_values, .inl (cI, 3, .inl f_values)), (a_word, .inl (cI, 9, .inl f_word))] → va_S A s.heap H locs → lv_has ls 4 [(0, .ref a_o), (1, .int p1), (2, .int x2_l2)] → W p l e rmX11_signBy s m args below meth c H locs 0 0 Q (F0 m 2 ls []) := by
    intro n
    induction n with
    | zero =>
      intro x2_l2 H locs ls h
      exact no_e h
    | succ n ih2 =>
      intro x2_l2 H locs ls h hP hD hS hl
      rw [P_X11_signBy_2] at h
      refine lv_iload_n hx hb dX11_signBy_2 rfl (lv_at hl 2 rfl) ?_
      refine lv_aload_n hx hb dX11_signBy_3 rfl (lv_at hl 0 rfl) ?_
      refine va_get (D := D) (ci := 10) (v := .int o_choices) (C := RX11) (T := TX11) (N := 25) hx hb hts u_X11 hown hK hP 0 rfl rfl 3 (by decide) k_f1 (fun _ h9 => h9) rfl dX11_signBy_4 ?_
      refine lv_icmp_ge (tgt := 51) hx hb dX11_signBy_7 (by decide) (fun c_7 => ?_) (fun c_7 => ?_)
      · replace h := it_e c_7 h
        exact Jk51  H locs ls h hP hD hS (lv_sub hl [0, 1] rfl)
      · replace h := if_e c_7 h
        refine lv_iconst (v := 0) hx hb dX11_signBy_10 ic_0 ?_
        refine lv_istore_n (lv' := [(3, .int 0), (0, .ref a_o), (1, .int p1), (2, .int x2_l2)]) hx hb dX11_signBy_11 rfl hl (by decide) rfl (fun ls hl => ?_)
        obtain ⟨k45, hk45, h⟩ := jn_e h
        have Jk45 : ∀ (H : Heap) (locs : List Loc) (ls : Array Slot), k45 () = some z → va_P D vwCl [(a_o, .inr (10, [.long o_trace, w_o_text, .int o_typed, .int o_choices, .int o_worlds, .ref a_values, .int o_at, .int o_start, .int o_sort, .int o_value, .int o_fault, w_o_draft, w_o_sayings, w_o_leaves, w_o_signs, w_o_words, .ref a_word, w_o_isKept, w_o_some, w_o_every, .int o_deep, .int o_many, w_o_length, w_o_found, .int o_foundMany])), (a_values, .inl (cI, 3, .inl f_values)), (a_word, .inl (cI, 9, .inl f_word))] H → va_D A [(a_o, .inr (10, [.long o_trace, w_o_text, .int o_typed, .int o_choices, .int o_worlds, .ref a_values, .int o_at, .int o_start, .int o_sort, .int o_value, .int o_fault, w_o_draft, w_o_sayings, w_o_leaves, w_o_signs, w_o_words, .ref a_word, w_o_isKept, w_o_some, w_o_every, .int o_deep, .int o_many, w_o_length, w_o_found, .int o_foundMany])), (a_values, .inl (cI, 3, .inl f_values)), (a_word, .inl (cI, 9, .inl f_word))] → va_S A s.heap H locs → lv_has ls 4 [(0, .ref a_o), (1, .int p1), (2, .int x2_l2)] → W p l e rmX11_signBy s m args below meth c H locs 0 0 Q (F0 m 45 ls []) := by
          intro H locs ls h hP hD hS hl
          rw [hk45] at h
          refine lv_iinc (v := x2_l2 + 1) (lv' := [(2, .int (x2_l2 + 1)), (0, .ref a_o), (1, .int p1)]) hx hb dX11_signBy_45 hl (k := 2) rfl (congrArg (x2_l2 + ·) ic_1) (by decide) rfl (fun ls hl => ?_)
          refine lv_goto (tgt := 2) hx hb dX11_signBy_48 (by decide) ?_
          exact ih2 (x2_l2 + 1) H locs ls h hP hD hS (lv_sub hl [1, 2, 0] rfl)
        have L12 : ∀ (n : Nat), ∀ (x12_l3 : Int32) (H : Heap) (locs : List Loc) (ls : Array Slot), P_X11_signBy_12 p1 o_worlds f_values k32 x2_l2 k45 n x12_l3 = some z → va_P D vwCl [(a_o, .inr (10, [.long o_trace, w_o_text, .int o_typed, .int o_choices, .int o_worlds, .ref a_values, .int o_at, .int o_start, .int o_sort, .int o_value, .int o_fault, w_o_draft, w_o_sayings, w_o_leaves, w_o_signs, w_o_words, .ref a_word, w_o_isKept, w_o_some, w_o_every, .int o_deep, .int o_many, w_o_length, w_o_found, .int o_foundMany])), (a_values, .inl (cI, 3, .inl f_values)), (a_word, .inl (cI, 9, .inl f_word))] H → va_D A [(a_o, .inr (10, [.long o_trace, w_o_text, .int o_typed, .int o_choices, .int o_worlds, .ref a_values, .int o_at, .int o_start, .int o_sort, .int o_value, .int o_fault, w_o_draft, w_o_sayings, w_o_leaves, w_o_signs, w_o_words, .ref a_word, w_o_isKept, w_o_some, w_o_every, .int o_deep, .int o_many, w_o_length, w_o_found, .int o_foundMany])), (a_values, .inl (cI, 3, .inl f_values)), (a_word, .inl (cI, 9, .inl f_word))] → va_S A s.heap H locs → lv_has ls 4 [(0, .ref a_o), (1, .int p1), (2, .int x2_l2), (3, .int x12_l3)] → W p l e rmX11_signBy s m args below meth c H locs 0 0 Q (F0 m 12 ls []) := by
          intro n
          induction n with
          | zero =>
            intro x12_l3 H locs ls h
            exact no_e h
          | succ n ih12 =>
            intro x12_l3 H locs ls h hP hD hS hl
            rw [P_X11_signBy_12] at h
            refine lv_iload_n hx hb dX11_signBy_12 rfl (lv_at hl 3 rfl) ?_
            refine lv_aload_n hx hb dX11_signBy_13 rfl (lv_at hl 0 rfl) ?_
            refine va_get (D := D) (ci := 10) (v := .ref a_values) (C := RX11) (T := TX11) (N := 25) hx hb hts u_X11 hown hK hP 0 rfl rfl 5 (by decide) k_f2 (fun _ h9 => h9) rfl dX11_signBy_14 ?_
            refine lv_iload_n hx hb dX11_signBy_17 rfl (lv_at hl 2 rfl) ?_
            obtain ⟨hi_18, h⟩ := ck_e h
            refine va_iald hx hb hK hP 1 0 rfl rfl hi_18 dX11_signBy_18 ?_
            refine lv_icmp_ge (tgt := 45) hx hb dX11_signBy_19 (by decide) (fun c_19 => ?_) (fun c_19 => ?_)
            · replace h := it_e c_19 h
              exact Jk45  H locs ls h hP hD hS (lv_sub hl [0, 1, 2] rfl)
            · replace h := if_e c_19 h
              refine lv_aload_n hx hb dX11_signBy_22 rfl (lv_at hl 0 rfl) ?_
              refine lv_iload_n hx hb dX11_signBy_23 rfl (lv_at hl 2 rfl) ?_
              refine lv_iload_n hx hb dX11_signBy_24 rfl (lv_at hl 3 rfl) ?_
              obtain ⟨z_25, hc_25, h⟩ := bd_e h
              refine q_iV (As := [.int x2_l2, .int x12_l3]) (rest := []) (wF := [(a_word, .inl (cI, 9, .inl f_word)), (a_o, .inr (10, [.long o_trace, w_o_text, .int o_typed, .int o_choices, .int o_worlds, .ref a_values, .int o_at, .int o_start, .int o_sort, .int o_value, .int o_fault, w_o_draft, w_o_sayings, w_o_leaves, w_o_signs, w_o_words, .ref a_word, w_o_isKept, w_o_some, w_o_every, .int o_deep, .int o_many, w_o_length, w_o_found, .int o_foundMany])), (a_values, .inl (cI, 3, .inl f_values))]) hF hA hZ hK hP hD hS (c_X11_worldsOf l D cI cB cZ a_o o_trace w_o_text o_typed o_choices o_worlds o_at o_start o_sort o_value o_fault w_o_draft w_o_sayings w_o_leaves w_o_signs w_o_words (.ref a_word) w_o_isKept w_o_some w_o_every o_deep o_many w_o_length w_o_found o_foundMany a_values f_values x2_l2 x12_l3 z_25 hc_25) rfl gX11_signBy_X11_worldsOf hdX11_worldsOf ⟨rfl, rfl⟩ (Nat.le_of_ble_eq_true rfl) (Nat.le_of_ble_eq_true rfl) 10 0 rfl rfl [0, 1] [2] rfl rfl rfl rfl (by decide) rfl hl.1 rfl (Nat.le_of_ble_eq_true rfl) (Nat.zero_le _) (Nat.zero_le _) dX11_signBy_25 (fun H locs hP hD hS => ?_)
              refine lv_iload_n hx hb dX11_signBy_28 rfl (lv_at hl 1 rfl) ?_
              refine lv_icmp_ne (tgt := 39) hx hb dX11_signBy_29 (by decide) (fun c_29 => ?_) (fun c_29 => ?_)
              · replace h := if_e c_29 h
                refine lv_iinc (v := x12_l3 + 1) (lv' := [(3, .int (x12_l3 + 1)), (0, .ref a_o), (1, .int p1), (2, .int x2_l2)]) hx hb dX11_signBy_39 hl (k := 3) rfl (congrArg (x12_l3 + ·) ic_1) (by decide) rfl (fun ls hl => ?_)
                refine lv_goto (tgt := 12) hx hb dX11_signBy_42 (by decide) ?_
                exact ih12 (x12_l3 + 1) H locs ls h (hP.sub [1, 2, 0] rfl) (hD.sub [1, 2, 0] (by decide) rfl) hS (lv_sub hl [1, 2, 3, 0] rfl)
              · replace h := it_e c_29 h
                exact Jk32 x2_l2 x12_l3 H locs ls h (hP.sub [1, 2, 0] rfl) (hD.sub [1, 2, 0] (by decide) rfl) hS (lv_sub hl [2, 3] rfl)
        exact L12 QF 0 H locs ls h hP hD hS (lv_sub hl [1, 2, 3, 0] rfl)
  exact L2 QF 0 H locs ls h hP hD hS (lv_sub hl [1, 2, 0] rfl)
