abbrev rmX7_letter : Room := { frames := 2, cells := 0, slots := 0, locals := 42 }
theorem hdX7_letter : yX7_letter.cls = RX7 ∧ yX7_letter.cls ≠ "java/lang/invoke/MethodHandle" ∧ yX7_letter.cls ≠ "java/lang/invoke/VarHandle" ∧ (parseMethodDescriptor yX7_letter.desc).map (fun d => d.parameters.length) = some 0 := by decide +kernel
set_option maxRecDepth 100000 in
set_option maxHeartbeats 4000000 in
theorem c_X7_letter (l : Launch) (D : va_G) (cI cB cZ : ClassId) (a_o : Nat) (o_next : Int32) (o_place : Int32) (o_kind : Int32) (a_text : Nat) (text_size : Int32) (a_text_bytes : Nat) (f_text_bytes : Nat → Int32) (z : Int32) (h : P_X7_letter o_next o_place o_kind text_size f_text_bytes = some z) : KI l yX7_letter wsX7_letter rmX7_letter D [(cI, .int), (cB, .byte), (cZ, .boolean)] [.ref a_o] [(a_o, .inr (6, [.ref a_text, .int o_next, .int o_place, .int o_kind])), (a_text, .inr (5, [.ref a_text_bytes, .int text_size])), (a_text_bytes, .inl (cI, 200, .inl f_text_bytes))] [(a_o, .inr (6, [.ref a_text, .int o_next, .int o_place, .int o_kind])), (a_text, .inr (5, [.ref a_text_bytes, .int text_size])), (a_text_bytes, .inl (cI, 200, .inl f_text_bytes))] z := by
  refine KI_of (own := RX7) (cc := cX7_letter) (maxL := 1) (ret := some .int) (by decide) rfl rfl (Nat.le_of_ble_eq_true rfl) (Or.inl rfl) ?_
  intro p e s m args below meth c A Q hx hb hml hown hts hA hZ hK hret H locs ls hP hD hS hl
  have hl : lv_has ls 1 [(0, .ref a_o)] := hl
  have hF : CallFix p m c cX7_letter 1 s args wsX7_letter RX7 := ⟨hx, hb, hml, hown, hts⟩
  have u_X7 : ∀ w ∈ u_ws RX7 TX7 4, w ∈ wsX7_letter := by decide +kernel
  have k_f0 := hts (.fieldLink RX7 16 "NoWordNo$Tokens" "kind" "I") (by decide +kernel)
  have k_f1 := hts (.fieldLink RX7 7 "NoWordNo$Tokens" "next" "I") (by decide +kernel)
  have k_f2 := hts (.fieldLink RX7 13 "NoWordNo$Tokens" "place" "I") (by decide +kernel)
  have k_f3 := hts (.fieldLink RX7 19 "NoWordNo$Tokens" "text" "LNoWordNo$Text;") (by decide +kernel)
  unfold P_X7_letter at h
  refine lv_aload_n hx hb dX7_letter_0 rfl (lv_at hl 0 rfl) ?_
  refine va_get (D := D) (ci := 6) (v := .int o_kind) (C := RX7) (T := TX7) (N := 4) hx hb hts u_X7 hown hK hP 0 rfl rfl 3 (by decide) k_f0 (fun _ h9 => h9) rfl dX7_letter_1 ?_
  refine lv_iconst (v := 2) hx hb dX7_letter_4 ic_2 ?_
  refine lv_icmp_ne (tgt := 35) hx hb dX7_letter_5 (by decide) (fun c_5 => ?_) (fun c_5 => ?_)
  · replace h := if_e c_5 h
    refine lv_iconst (v := 0) hx hb dX7_letter_35 ic_0 ?_
    have hz := Option.some.inj h
    subst hz
    exact hret H locs 36 ls (fun ty h => by cases h; rfl) hP hD hS dX7_letter_36
  · replace h := it_e c_5 h
    refine lv_aload_n hx hb dX7_letter_8 rfl (lv_at hl 0 rfl) ?_
    refine va_get (D := D) (ci := 6) (v := .int o_next) (C := RX7) (T := TX7) (N := 4) hx hb hts u_X7 hown hK hP 0 rfl rfl 1 (by decide) k_f1 (fun _ h9 => h9) rfl dX7_letter_9 ?_
    refine lv_aload_n hx hb dX7_letter_12 rfl (lv_at hl 0 rfl) ?_
    refine va_get (D := D) (ci := 6) (v := .int o_place) (C := RX7) (T := TX7) (N := 4) hx hb hts u_X7 hown hK hP 0 rfl rfl 2 (by decide) k_f2 (fun _ h9 => h9) rfl dX7_letter_13 ?_
    refine lv_isub hx hb dX7_letter_16 ?_
    refine lv_iconst (v := 1) hx hb dX7_letter_17 ic_1 ?_
    refine lv_icmp_ne (tgt := 35) hx hb dX7_letter_18 (by decide) (fun c_18 => ?_) (fun c_18 => ?_)
    · replace h := if_e c_18 h
      refine lv_iconst (v := 0) hx hb dX7_letter_35 ic_0 ?_
      have hz := Option.some.inj h
      subst hz
      exact hret H locs 36 ls (fun ty h => by cases h; rfl) hP hD hS dX7_letter_36
    · replace h := it_e c_18 h
      refine lv_aload_n hx hb dX7_letter_21 rfl (lv_at hl 0 rfl) ?_
      refine va_get (D := D) (ci := 6) (v := .ref a_text) (C := RX7) (T := TX7) (N := 4) hx hb hts u_X7 hown hK hP 0 rfl rfl 0 (by decide) k_f3 (fun _ h9 => h9) rfl dX7_letter_22 ?_
      refine lv_aload_n hx hb dX7_letter_25 rfl (lv_at hl 0 rfl) ?_
      refine va_get (D := D) (ci := 6) (v := .int o_place) (C := RX7) (T := TX7) (N := 4) hx hb hts u_X7 hown hK hP 0 rfl rfl 2 (by decide) k_f2 (fun _ h9 => h9) rfl dX7_letter_26 ?_
      obtain ⟨z_29, hc_29, h⟩ := bd_e h
      refine q_iV (As := [.int o_place]) (rest := []) (wF := [(a_o, .inr (6, [.ref a_text, .int o_next, .int o_place, .int o_kind])), (a_text, .inr (5, [.ref a_text_bytes, .int text_size])), (a_text_bytes, .inl (cI, 200, .inl f_text_bytes))]) hF hA hZ hK hP hD hS (c_X6_byteAt l D cI cB cZ a_text text_size a_text_bytes f_text_bytes o_place z_29 hc_29) rfl gX7_letter_X6_byteAt hdX6_byteAt ⟨rfl, rfl⟩ (Nat.le_of_ble_eq_true rfl) (Nat.le_of_ble_eq_true rfl) 5 0 rfl rfl [1, 2] [0] rfl rfl rfl rfl (by decide) rfl hl.1 rfl (Nat.le_of_ble_eq_true rfl) (Nat.zero_le _) (Nat.zero_le _) dX7_letter_29 (fun H locs hP hD hS => ?_)
      refine lv_goto (tgt := 36) hx hb dX7_letter_32 (by decide) ?_
      have hz := Option.some.inj h
      subst hz
      exact hret H locs 36 ls (fun ty h => by cases h; rfl) hP hD hS dX7_letter_36
abbrev rmX5_groupOf : Room := { frames := 1, cells := 0, slots := 0, locals := 21 }
theorem hdX5_groupOf : yX5_groupOf.cls = RX5 ∧ yX5_groupOf.cls ≠ "java/lang/invoke/MethodHandle" ∧ yX5_groupOf.cls ≠ "java/lang/invoke/VarHandle" ∧ (parseMethodDescriptor yX5_groupOf.desc).map (fun d => d.parameters.length) = some 1 := by decide +kernel
set_option maxRecDepth 100000 in
set_option maxHeartbeats 4000000 in
theorem c_X5_groupOf (l : Launch) (D : va_G) (cI cB cZ : ClassId) (a_o : Nat) (w_o_kept : Value) (a_tongue : Nat) (w_tongue_values : Value) (w_tongue_left : Value) (tongue_choices : Int32) (tongue_worlds : Int32) (p1 : Int32) (z : Int32) (h : P_X5_groupOf p1 tongue_choices = some z) : KI l yX5_groupOf wsX5_groupOf rmX5_groupOf D [(cI, .int), (cB, .byte), (cZ, .boolean)] [.ref a_o, .int p1] [(a_o, .inr (4, [.ref a_tongue, w_o_kept])), (a_tongue, .inr (7, [w_tongue_values, w_tongue_left, .int tongue_choices, .int tongue_worlds]))] [(a_o, .inr (4, [.ref a_tongue, w_o_kept])), (a_tongue, .inr (7, [w_tongue_values, w_tongue_left, .int tongue_choices, .int tongue_worlds]))] z := by
  refine KI_of (own := RX5) (cc := cX5_groupOf) (maxL := 2) (ret := some .int) (by decide) rfl rfl (Nat.le_of_ble_eq_true rfl) (Or.inl rfl) ?_
  intro p e s m args below meth c A Q hx hb hml hown hts hA hZ hK hret H locs ls hP hD hS hl
  have hl : lv_has ls 2 [(0, .ref a_o), (1, .int p1)] := hl
  have hF : CallFix p m c cX5_groupOf 2 s args wsX5_groupOf RX5 := ⟨hx, hb, hml, hown, hts⟩
  have u_X5 : ∀ w ∈ u_ws RX5 TX5 2, w ∈ wsX5_groupOf := by decide +kernel
  have k_f0 := hts (.fieldLink RX5 9 "NoWordNo$Signs" "tongue" "LNoWordNo$Tongue;") (by decide +kernel)
  unfold P_X5_groupOf at h
  refine lv_iload_n hx hb dX5_groupOf_0 rfl (lv_at hl 1 rfl) ?_
  refine lv_bipush (v := 119) hx hb dX5_groupOf_1 bc_119 ?_
  refine lv_icmp_ne (tgt := 8) hx hb dX5_groupOf_3 (by decide) (fun c_3 => ?_) (fun c_3 => ?_)
  · replace h := if_e c_3 h
    refine lv_aload_n hx hb dX5_groupOf_8 rfl (lv_at hl 0 rfl) ?_
    refine va_get (D := D) (ci := 4) (v := .ref a_tongue) (C := RX5) (T := TX5) (N := 2) hx hb hts u_X5 hown hK hP 0 rfl rfl 0 (by decide) k_f0 (fun _ h9 => h9) rfl dX5_groupOf_9 ?_
    refine lv_iload_n hx hb dX5_groupOf_12 rfl (lv_at hl 1 rfl) ?_
    refine lv_bipush (v := 97) hx hb dX5_groupOf_13 bc_97 ?_
    refine lv_isub hx hb dX5_groupOf_15 ?_
    obtain ⟨z_16, hc_16, h⟩ := bd_e h
    refine q_iV (As := [.int (p1 - 97)]) (rest := []) (wF := [(a_o, .inr (4, [.ref a_tongue, w_o_kept])), (a_tongue, .inr (7, [w_tongue_values, w_tongue_left, .int tongue_choices, .int tongue_worlds]))]) hF hA hZ hK hP hD hS (c_X8_isChoice l D cI cB cZ a_tongue w_tongue_values w_tongue_left tongue_choices tongue_worlds (p1 - 97) z_16 hc_16) rfl gX5_groupOf_X8_isChoice hdX8_isChoice ⟨rfl, rfl⟩ (Nat.le_of_ble_eq_true rfl) (Nat.le_of_ble_eq_true rfl) 7 0 rfl rfl [1] [0] rfl rfl rfl rfl (by decide) rfl hl.1 rfl (Nat.le_of_ble_eq_true rfl) (Nat.zero_le _) (Nat.zero_le _) dX5_groupOf_16 (fun H locs hP hD hS => ?_)
    refine lv_if_eq (tgt := 29) hx hb dX5_groupOf_19 (by decide) (fun c_19 => ?_) (fun c_19 => ?_)
    · replace h := it_e c_19 h
      refine lv_iconst (v := (-1)) hx hb dX5_groupOf_29 ic_m1 ?_
      have hz := Option.some.inj h
      subst hz
      exact hret H locs 30 ls (fun ty h => by cases h; rfl) hP hD hS dX5_groupOf_30
    · replace h := if_e c_19 h
      refine lv_iload_n hx hb dX5_groupOf_22 rfl (lv_at hl 1 rfl) ?_
      refine lv_bipush (v := 97) hx hb dX5_groupOf_23 bc_97 ?_
      refine lv_isub hx hb dX5_groupOf_25 ?_
      refine lv_goto (tgt := 30) hx hb dX5_groupOf_26 (by decide) ?_
      have hz := Option.some.inj h
      subst hz
      exact hret H locs 30 ls (fun ty h => by cases h; rfl) hP hD hS dX5_groupOf_30
  · replace h := it_e c_3 h
    refine lv_iconst (v := 3) hx hb dX5_groupOf_6 ic_3 ?_
    have hz := Option.some.inj h
    subst hz
    exact hret H locs 7 ls (fun ty h => by cases h; rfl) hP hD hS dX5_groupOf_7
abbrev rmX0_words : Room := { frames := 0, cells := 0, slots := 0, locals := 0 }
theorem hdX0_words : yX0_words.cls = RX0 ∧ yX0_words.cls ≠ "java/lang/invoke/MethodHandle" ∧ yX0_words.cls ≠ "java/lang/invoke/VarHandle" ∧ (parseMethodDescriptor yX0_words.desc).map (fun d => d.parameters.length) = some 0 := by decide +kernel
set_option maxRecDepth 100000 in
set_option maxHeartbeats 4000000 in
theorem c_X0_words (l : Launch) (D : va_G) (cI cB cZ : ClassId) (a_o : Nat) (w_o_left : Value) (w_o_signs : Value) (w_o_wordSets : Value) (o_sayings : Int32) (o_words : Int32) (o_filled : Int32) (z : Int32) (h : P_X0_words o_words = some z) : KI l yX0_words wsX0_words rmX0_words D [(cI, .int), (cB, .byte), (cZ, .boolean)] [.ref a_o] [(a_o, .inr (0, [w_o_left, w_o_signs, w_o_wordSets, .int o_sayings, .int o_words, .int o_filled]))] [(a_o, .inr (0, [w_o_left, w_o_signs, w_o_wordSets, .int o_sayings, .int o_words, .int o_filled]))] z := by
  refine KI_of (own := RX0) (cc := cX0_words) (maxL := 1) (ret := some .int) (by decide) rfl rfl (Nat.le_of_ble_eq_true rfl) (Or.inl rfl) ?_
  intro p e s m args below meth c A Q hx hb hml hown hts hA hZ hK hret H locs ls hP hD hS hl
  have hl : lv_has ls 1 [(0, .ref a_o)] := hl
  have hF : CallFix p m c cX0_words 1 s args wsX0_words RX0 := ⟨hx, hb, hml, hown, hts⟩
  have u_X0 : ∀ w ∈ u_ws RX0 TX0 6, w ∈ wsX0_words := by decide +kernel
  have k_f0 := hts (.fieldLink RX0 23 "NoWordNo$Kept" "words" "I") (by decide +kernel)
  unfold P_X0_words at h
  refine lv_aload_n hx hb dX0_words_0 rfl (lv_at hl 0 rfl) ?_
  refine va_get (D := D) (ci := 0) (v := .int o_words) (C := RX0) (T := TX0) (N := 6) hx hb hts u_X0 hown hK hP 0 rfl rfl 4 (by decide) k_f0 (fun _ h9 => h9) rfl dX0_words_1 ?_
  have hz := Option.some.inj h
  subst hz
  exact hret H locs 4 ls (fun ty h => by cases h; rfl) hP hD hS dX0_words_4
abbrev rmX5_many : Room := { frames := 2, cells := 0, slots := 0, locals := 42 }
theorem hdX5_many : yX5_many.cls = RX5 ∧ yX5_many.cls ≠ "java/lang/invoke/MethodHandle" ∧ yX5_many.cls ≠ "java/lang/invoke/VarHandle" ∧ (parseMethodDescriptor yX5_many.desc).map (fun d => d.parameters.length) = some 1 := by decide +kernel
set_option maxRecDepth 100000 in
set_option maxHeartbeats 4000000 in
theorem c_X5_many (l : Launch) (D : va_G) (cI cB cZ : ClassId) (a_o : Nat) (a_tongue : Nat) (w_tongue_left : Value) (tongue_choices : Int32) (tongue_worlds : Int32) (a_tongue_values : Nat) (f_tongue_values : Nat → Int32) (a_kept : Nat) (w_kept_left : Value) (w_kept_signs : Value) (w_kept_wordSets : Value) (kept_sayings : Int32) (kept_words : Int32) (kept_filled : Int32) (p1 : Int32) (z : Int32) (h : P_X5_many p1 tongue_choices f_tongue_values kept_words = some z) : KI l yX5_many wsX5_many rmX5_many D [(cI, .int), (cB, .byte), (cZ, .boolean)] [.ref a_o, .int p1] [(a_o, .inr (4, [.ref a_tongue, .ref a_kept])), (a_tongue, .inr (7, [.ref a_tongue_values, w_tongue_left, .int tongue_choices, .int tongue_worlds])), (a_tongue_values, .inl (cI, 3, .inl f_tongue_values)), (a_kept, .inr (0, [w_kept_left, w_kept_signs, w_kept_wordSets, .int kept_sayings, .int kept_words, .int kept_filled]))] [(a_o, .inr (4, [.ref a_tongue, .ref a_kept])), (a_tongue, .inr (7, [.ref a_tongue_values, w_tongue_left, .int tongue_choices, .int tongue_worlds])), (a_tongue_values, .inl (cI, 3, .inl f_tongue_values)), (a_kept, .inr (0, [w_kept_left, w_kept_signs, w_kept_wordSets, .int kept_sayings, .int kept_words, .int kept_filled]))] z := by
  refine KI_of (own := RX5) (cc := cX5_many) (maxL := 2) (ret := some .int) (by decide) rfl rfl (Nat.le_of_ble_eq_true rfl) (Or.inl rfl) ?_
  intro p e s m args below meth c A Q hx hb hml hown hts hA hZ hK hret H locs ls hP hD hS hl
  have hl : lv_has ls 2 [(0, .ref a_o), (1, .int p1)] := hl
  have hF : CallFix p m c cX5_many 2 s args wsX5_many RX5 := ⟨hx, hb, hml, hown, hts⟩
  have u_X5 : ∀ w ∈ u_ws RX5 TX5 2, w ∈ wsX5_many := by decide +kernel
  have k_f0 := hts (.fieldLink RX5 9 "NoWordNo$Signs" "tongue" "LNoWordNo$Tongue;") (by decide +kernel)
  have k_f1 := hts (.fieldLink RX5 15 "NoWordNo$Signs" "kept" "LNoWordNo$Kept;") (by decide +kernel)
  unfold P_X5_many at h
  refine lv_iload_n hx hb dX5_many_0 rfl (lv_at hl 1 rfl) ?_
  refine lv_iconst (v := 3) hx hb dX5_many_1 ic_3 ?_
  refine lv_icmp_ne (tgt := 15) hx hb dX5_many_2 (by decide) (fun c_2 => ?_) (fun c_2 => ?_)
  · replace h := if_e c_2 h
    refine lv_aload_n hx hb dX5_many_15 rfl (lv_at hl 0 rfl) ?_
    refine va_get (D := D) (ci := 4) (v := .ref a_tongue) (C := RX5) (T := TX5) (N := 2) hx hb hts u_X5 hown hK hP 0 rfl rfl 0 (by decide) k_f0 (fun _ h9 => h9) rfl dX5_many_16 ?_
    refine lv_iload_n hx hb dX5_many_19 rfl (lv_at hl 1 rfl) ?_
    obtain ⟨z_20, hc_20, h⟩ := bd_e h
    refine q_iV (As := [.int p1]) (rest := []) (wF := [(a_o, .inr (4, [.ref a_tongue, .ref a_kept])), (a_kept, .inr (0, [w_kept_left, w_kept_signs, w_kept_wordSets, .int kept_sayings, .int kept_words, .int kept_filled])), (a_tongue, .inr (7, [.ref a_tongue_values, w_tongue_left, .int tongue_choices, .int tongue_worlds])), (a_tongue_values, .inl (cI, 3, .inl f_tongue_values))]) hF hA hZ hK hP hD hS (c_X8_valuesOf l D cI cB cZ a_tongue w_tongue_left tongue_choices tongue_worlds a_tongue_values f_tongue_values p1 z_20 hc_20) rfl gX5_many_X8_valuesOf hdX8_valuesOf ⟨rfl, rfl⟩ (Nat.le_of_ble_eq_true rfl) (Nat.le_of_ble_eq_true rfl) 7 0 rfl rfl [1, 2] [0, 3] rfl rfl rfl rfl (by decide) rfl hl.1 rfl (Nat.le_of_ble_eq_true rfl) (Nat.zero_le _) (Nat.zero_le _) dX5_many_20 (fun H locs hP hD hS => ?_)
    have hz := Option.some.inj h
    subst hz
    exact hret H locs 23 ls (fun ty h => by cases h; rfl) (hP.sub [0, 2, 3, 1] rfl) (hD.sub [0, 2, 3, 1] (by decide) rfl) hS dX5_many_23
  · replace h := it_e c_2 h
    refine lv_aload_n hx hb dX5_many_5 rfl (lv_at hl 0 rfl) ?_
    refine va_get (D := D) (ci := 4) (v := .ref a_kept) (C := RX5) (T := TX5) (N := 2) hx hb hts u_X5 hown hK hP 0 rfl rfl 1 (by decide) k_f1 (fun _ h9 => h9) rfl dX5_many_6 ?_
    obtain ⟨z_9, hc_9, h⟩ := bd_e h
    refine q_iV (As := []) (rest := []) (wF := [(a_o, .inr (4, [.ref a_tongue, .ref a_kept])), (a_tongue, .inr (7, [.ref a_tongue_values, w_tongue_left, .int tongue_choices, .int tongue_worlds])), (a_tongue_values, .inl (cI, 3, .inl f_tongue_values)), (a_kept, .inr (0, [w_kept_left, w_kept_signs, w_kept_wordSets, .int kept_sayings, .int kept_words, .int kept_filled]))]) hF hA hZ hK hP hD hS (c_X0_words l D cI cB cZ a_kept w_kept_left w_kept_signs w_kept_wordSets kept_sayings kept_words kept_filled z_9 hc_9) rfl gX5_many_X0_words hdX0_words ⟨rfl, rfl⟩ (Nat.le_of_ble_eq_true rfl) (Nat.le_of_ble_eq_true rfl) 0 0 rfl rfl [3] [0, 1, 2] rfl rfl rfl rfl (by decide) rfl hl.1 rfl (Nat.le_of_ble_eq_true rfl) (Nat.zero_le _) (Nat.zero_le _) dX5_many_9 (fun H locs hP hD hS => ?_)
    refine lv_goto (tgt := 23) hx hb dX5_many_12 (by decide) ?_
    have hz := Option.some.inj h
    subst hz
    exact hret H locs 23 ls (fun ty h => by cases h; rfl) hP hD hS dX5_many_23
abbrev rmX0_wordSet : Room := { frames := 1, cells := 0, slots := 0, locals := 21 }
theorem hdX0_wordSet : yX0_wordSet.cls = RX0 ∧ yX0_wordSet.cls ≠ "java/lang/invoke/MethodHandle" ∧ yX0_wordSet.cls ≠ "java/lang/invoke/VarHandle" ∧ (parseMethodDescriptor yX0_wordSet.desc).map (fun d => d.parameters.length) = some 1 := by decide +kernel
set_option maxRecDepth 100000 in
set_option maxHeartbeats 4000000 in
theorem c_X0_wordSet (l : Launch) (D : va_G) (cI cB cZ : ClassId) (a_o : Nat) (w_o_left : Value) (w_o_signs : Value) (o_sayings : Int32) (o_words : Int32) (o_filled : Int32) (a_wordSets : Nat) (f_wordSets : Nat → Int32) (p1 : Int32) (z : Int32) (h : P_X0_wordSet p1 f_wordSets = some z) : KI l yX0_wordSet wsX0_wordSet rmX0_wordSet D [(cI, .int), (cB, .byte), (cZ, .boolean)] [.ref a_o, .int p1] [(a_o, .inr (0, [w_o_left, w_o_signs, .ref a_wordSets, .int o_sayings, .int o_words, .int o_filled])), (a_wordSets, .inl (cI, 3, .inl f_wordSets))] [(a_o, .inr (0, [w_o_left, w_o_signs, .ref a_wordSets, .int o_sayings, .int o_words, .int o_filled])), (a_wordSets, .inl (cI, 3, .inl f_wordSets))] z := by
  refine KI_of (own := RX0) (cc := cX0_wordSet) (maxL := 2) (ret := some .int) (by decide) rfl rfl (Nat.le_of_ble_eq_true rfl) (Or.inl rfl) ?_
  intro p e s m args below meth c A Q hx hb hml hown hts hA hZ hK hret H locs ls hP hD hS hl
  have hl : lv_has ls 2 [(0, .ref a_o), (1, .int p1)] := hl
  have hF : CallFix p m c cX0_wordSet 2 s args wsX0_wordSet RX0 := ⟨hx, hb, hml, hown, hts⟩
  have u_X0 : ∀ w ∈ u_ws RX0 TX0 6, w ∈ wsX0_wordSet := by decide +kernel
  have k_f0 := hts (.fieldLink RX0 16 "NoWordNo$Kept" "wordSets" "[I") (by decide +kernel)
  unfold P_X0_wordSet at h
  refine lv_aload_n hx hb dX0_wordSet_0 rfl (lv_at hl 0 rfl) ?_
  refine va_get (D := D) (ci := 0) (v := .ref a_wordSets) (C := RX0) (T := TX0) (N := 6) hx hb hts u_X0 hown hK hP 0 rfl rfl 2 (by decide) k_f0 (fun _ h9 => h9) rfl dX0_wordSet_1 ?_
  refine lv_iload_n hx hb dX0_wordSet_4 rfl (lv_at hl 1 rfl) ?_
  obtain ⟨z_5, hc_5, h⟩ := bd_e h
  refine q_iS (As := [.ref a_wordSets, .int p1]) (rest := []) (wF := [(a_o, .inr (0, [w_o_left, w_o_signs, .ref a_wordSets, .int o_sayings, .int o_words, .int o_filled])), (a_wordSets, .inl (cI, 3, .inl f_wordSets))]) hF hA hZ hK hP hD hS (c_X4_at l D cI cB cZ a_wordSets 3 f_wordSets p1 z_5 hc_5) rfl gX0_wordSet_X4_at hdX4_at ⟨rfl, rfl⟩ (Nat.le_of_ble_eq_true rfl) (Nat.le_of_ble_eq_true rfl) [1] [0] rfl rfl rfl rfl (by decide) rfl hl.1 rfl (Nat.le_of_ble_eq_true rfl) (Nat.zero_le _) (Nat.zero_le _) dX0_wordSet_5 (fun H locs hP hD hS => ?_)
  have hz := Option.some.inj h
  subst hz
  exact hret H locs 8 ls (fun ty h => by cases h; rfl) hP hD hS dX0_wordSet_8
abbrev rmX8_leftBy : Room := { frames := 1, cells := 0, slots := 0, locals := 21 }
theorem hdX8_leftBy : yX8_leftBy.cls = RX8 ∧ yX8_leftBy.cls ≠ "java/lang/invoke/MethodHandle" ∧ yX8_leftBy.cls ≠ "java/lang/invoke/VarHandle" ∧ (parseMethodDescriptor yX8_leftBy.desc).map (fun d => d.parameters.length) = some 2 := by decide +kernel
set_option maxRecDepth 100000 in
set_option maxHeartbeats 4000000 in
theorem c_X8_leftBy (l : Launch) (D : va_G) (cI cB cZ : ClassId) (a_o : Nat) (w_o_values : Value) (o_choices : Int32) (o_worlds : Int32) (a_left : Nat) (f_left : Nat → Int32) (p1 : Int32) (p2 : Int32) (z : Int32) (h : P_X8_leftBy p1 p2 f_left = some z) : KI l yX8_leftBy wsX8_leftBy rmX8_leftBy D [(cI, .int), (cB, .byte), (cZ, .boolean)] [.ref a_o, .int p1, .int p2] [(a_o, .inr (7, [w_o_values, .ref a_left, .int o_choices, .int o_worlds])), (a_left, .inl (cI, 30, .inl f_left))] [(a_o, .inr (7, [w_o_values, .ref a_left, .int o_choices, .int o_worlds])), (a_left, .inl (cI, 30, .inl f_left))] z := by
  refine KI_of (own := RX8) (cc := cX8_leftBy) (maxL := 3) (ret := some .int) (by decide) rfl rfl (Nat.le_of_ble_eq_true rfl) (Or.inl rfl) ?_
  intro p e s m args below meth c A Q hx hb hml hown hts hA hZ hK hret H locs ls hP hD hS hl
  have hl : lv_has ls 3 [(0, .ref a_o), (1, .int p1), (2, .int p2)] := hl
  have hF : CallFix p m c cX8_leftBy 3 s args wsX8_leftBy RX8 := ⟨hx, hb, hml, hown, hts⟩
  have u_X8 : ∀ w ∈ u_ws RX8 TX8 4, w ∈ wsX8_leftBy := by decide +kernel
  have k_f0 := hts (.fieldLink RX8 13 "NoWordNo$Tongue" "left" "[I") (by decide +kernel)
  unfold P_X8_leftBy at h
  refine lv_aload_n hx hb dX8_leftBy_0 rfl (lv_at hl 0 rfl) ?_
  refine va_get (D := D) (ci := 7) (v := .ref a_left) (C := RX8) (T := TX8) (N := 4) hx hb hts u_X8 hown hK hP 0 rfl rfl 1 (by decide) k_f0 (fun _ h9 => h9) rfl dX8_leftBy_1 ?_
  refine lv_bipush (v := 10) hx hb dX8_leftBy_4 bc_10 ?_
  refine lv_iload_n hx hb dX8_leftBy_6 rfl (lv_at hl 1 rfl) ?_
  refine lv_imul hx hb dX8_leftBy_7 ?_
  refine lv_iload_n hx hb dX8_leftBy_8 rfl (lv_at hl 2 rfl) ?_
  refine lv_iadd hx hb dX8_leftBy_9 ?_
  obtain ⟨z_10, hc_10, h⟩ := bd_e h
  refine q_iS (As := [.ref a_left, .int ((10 * p1) + p2)]) (rest := []) (wF := [(a_o, .inr (7, [w_o_values, .ref a_left, .int o_choices, .int o_worlds])), (a_left, .inl (cI, 30, .inl f_left))]) hF hA hZ hK hP hD hS (c_X4_at l D cI cB cZ a_left 30 f_left ((10 * p1) + p2) z_10 hc_10) rfl gX8_leftBy_X4_at hdX4_at ⟨rfl, rfl⟩ (Nat.le_of_ble_eq_true rfl) (Nat.le_of_ble_eq_true rfl) [1] [0] rfl rfl rfl rfl (by decide) rfl hl.1 rfl (Nat.le_of_ble_eq_true rfl) (Nat.zero_le _) (Nat.zero_le _) dX8_leftBy_10 (fun H locs hP hD hS => ?_)
  have hz := Option.some.inj h
  subst hz
  exact hret H locs 13 ls (fun ty h => by cases h; rfl) hP hD hS dX8_leftBy_13
abbrev rmX5_leftBy : Room := { frames := 2, cells := 0, slots := 0, locals := 43 }
theorem hdX5_leftBy : yX5_leftBy.cls = RX5 ∧ yX5_leftBy.cls ≠ "java/lang/invoke/MethodHandle" ∧ yX5_leftBy.cls ≠ "java/lang/invoke/VarHandle" ∧ (parseMethodDescriptor yX5_leftBy.desc).map (fun d => d.parameters.length) = some 2 := by decide +kernel
set_option maxRecDepth 100000 in
set_option maxHeartbeats 4000000 in
theorem c_X5_leftBy (l : Launch) (D : va_G) (cI cB cZ : ClassId) (a_o : Nat) (a_tongue : Nat) (w_tongue_values : Value) (tongue_choices : Int32) (tongue_worlds : Int32) (a_tongue_left : Nat) (f_tongue_left : Nat → Int32) (a_kept : Nat) (w_kept_left : Value) (w_kept_signs : Value) (kept_sayings : Int32) (kept_words : Int32) (kept_filled : Int32) (a_kept_wordSets : Nat) (f_kept_wordSets : Nat → Int32) (p1 : Int32) (p2 : Int32) (z : Int32) (h : P_X5_leftBy p1 p2 f_tongue_left f_kept_wordSets = some z) : KI l yX5_leftBy wsX5_leftBy rmX5_leftBy D [(cI, .int), (cB, .byte), (cZ, .boolean)] [.ref a_o, .int p1, .int p2] [(a_o, .inr (4, [.ref a_tongue, .ref a_kept])), (a_tongue, .inr (7, [w_tongue_values, .ref a_tongue_left, .int tongue_choices, .int tongue_worlds])), (a_tongue_left, .inl (cI, 30, .inl f_tongue_left)), (a_kept, .inr (0, [w_kept_left, w_kept_signs, .ref a_kept_wordSets, .int kept_sayings, .int kept_words, .int kept_filled])), (a_kept_wordSets, .inl (cI, 3, .inl f_kept_wordSets))] [(a_o, .inr (4, [.ref a_tongue, .ref a_kept])), (a_tongue, .inr (7, [w_tongue_values, .ref a_tongue_left, .int tongue_choices, .int tongue_worlds])), (a_tongue_left, .inl (cI, 30, .inl f_tongue_left)), (a_kept, .inr (0, [w_kept_left, w_kept_signs, .ref a_kept_wordSets, .int kept_sayings, .int kept_words, .int kept_filled])), (a_kept_wordSets, .inl (cI, 3, .inl f_kept_wordSets))] z := by
  refine KI_of (own := RX5) (cc := cX5_leftBy) (maxL := 3) (ret := some .int) (by decide) rfl rfl (Nat.le_of_ble_eq_true rfl) (Or.inl rfl) ?_
  intro p e s m args below meth c A Q hx hb hml hown hts hA hZ hK hret H locs ls hP hD hS hl
  have hl : lv_has ls 3 [(0, .ref a_o), (1, .int p1), (2, .int p2)] := hl
  have hF : CallFix p m c cX5_leftBy 3 s args wsX5_leftBy RX5 := ⟨hx, hb, hml, hown, hts⟩
  have u_X5 : ∀ w ∈ u_ws RX5 TX5 2, w ∈ wsX5_leftBy := by decide +kernel
  have k_f0 := hts (.fieldLink RX5 9 "NoWordNo$Signs" "tongue" "LNoWordNo$Tongue;") (by decide +kernel)
  have k_f1 := hts (.fieldLink RX5 15 "NoWordNo$Signs" "kept" "LNoWordNo$Kept;") (by decide +kernel)
  unfold P_X5_leftBy at h
  refine lv_iload_n hx hb dX5_leftBy_0 rfl (lv_at hl 1 rfl) ?_
  refine lv_iconst (v := 3) hx hb dX5_leftBy_1 ic_3 ?_
  refine lv_icmp_ne (tgt := 16) hx hb dX5_leftBy_2 (by decide) (fun c_2 => ?_) (fun c_2 => ?_)
  · replace h := if_e c_2 h
    refine lv_aload_n hx hb dX5_leftBy_16 rfl (lv_at hl 0 rfl) ?_
    refine va_get (D := D) (ci := 4) (v := .ref a_tongue) (C := RX5) (T := TX5) (N := 2) hx hb hts u_X5 hown hK hP 0 rfl rfl 0 (by decide) k_f0 (fun _ h9 => h9) rfl dX5_leftBy_17 ?_
    refine lv_iload_n hx hb dX5_leftBy_20 rfl (lv_at hl 1 rfl) ?_
    refine lv_iload_n hx hb dX5_leftBy_21 rfl (lv_at hl 2 rfl) ?_
    obtain ⟨z_22, hc_22, h⟩ := bd_e h
    refine q_iV (As := [.int p1, .int p2]) (rest := []) (wF := [(a_o, .inr (4, [.ref a_tongue, .ref a_kept])), (a_kept, .inr (0, [w_kept_left, w_kept_signs, .ref a_kept_wordSets, .int kept_sayings, .int kept_words, .int kept_filled])), (a_kept_wordSets, .inl (cI, 3, .inl f_kept_wordSets)), (a_tongue, .inr (7, [w_tongue_values, .ref a_tongue_left, .int tongue_choices, .int tongue_worlds])), (a_tongue_left, .inl (cI, 30, .inl f_tongue_left))]) hF hA hZ hK hP hD hS (c_X8_leftBy l D cI cB cZ a_tongue w_tongue_values tongue_choices tongue_worlds a_tongue_left f_tongue_left p1 p2 z_22 hc_22) rfl gX5_leftBy_X8_leftBy hdX8_leftBy ⟨rfl, rfl⟩ (Nat.le_of_ble_eq_true rfl) (Nat.le_of_ble_eq_true rfl) 7 0 rfl rfl [1, 2] [0, 3, 4] rfl rfl rfl rfl (by decide) rfl hl.1 rfl (Nat.le_of_ble_eq_true rfl) (Nat.zero_le _) (Nat.zero_le _) dX5_leftBy_22 (fun H locs hP hD hS => ?_)
    have hz := Option.some.inj h
    subst hz
    exact hret H locs 25 ls (fun ty h => by cases h; rfl) (hP.sub [0, 3, 4, 1, 2] rfl) (hD.sub [0, 3, 4, 1, 2] (by decide) rfl) hS dX5_leftBy_25
  · replace h := it_e c_2 h
    refine lv_aload_n hx hb dX5_leftBy_5 rfl (lv_at hl 0 rfl) ?_
    refine va_get (D := D) (ci := 4) (v := .ref a_kept) (C := RX5) (T := TX5) (N := 2) hx hb hts u_X5 hown hK hP 0 rfl rfl 1 (by decide) k_f1 (fun _ h9 => h9) rfl dX5_leftBy_6 ?_
    refine lv_iload_n hx hb dX5_leftBy_9 rfl (lv_at hl 2 rfl) ?_
    obtain ⟨z_10, hc_10, h⟩ := bd_e h
    refine q_iV (As := [.int p2]) (rest := []) (wF := [(a_o, .inr (4, [.ref a_tongue, .ref a_kept])), (a_tongue, .inr (7, [w_tongue_values, .ref a_tongue_left, .int tongue_choices, .int tongue_worlds])), (a_tongue_left, .inl (cI, 30, .inl f_tongue_left)), (a_kept, .inr (0, [w_kept_left, w_kept_signs, .ref a_kept_wordSets, .int kept_sayings, .int kept_words, .int kept_filled])), (a_kept_wordSets, .inl (cI, 3, .inl f_kept_wordSets))]) hF hA hZ hK hP hD hS (c_X0_wordSet l D cI cB cZ a_kept w_kept_left w_kept_signs kept_sayings kept_words kept_filled a_kept_wordSets f_kept_wordSets p2 z_10 hc_10) rfl gX5_leftBy_X0_wordSet hdX0_wordSet ⟨rfl, rfl⟩ (Nat.le_of_ble_eq_true rfl) (Nat.le_of_ble_eq_true rfl) 0 0 rfl rfl [3, 4] [0, 1, 2] rfl rfl rfl rfl (by decide) rfl hl.1 rfl (Nat.le_of_ble_eq_true rfl) (Nat.zero_le _) (Nat.zero_le _) dX5_leftBy_10 (fun H locs hP hD hS => ?_)
    refine lv_goto (tgt := 25) hx hb dX5_leftBy_13 (by decide) ?_
    have hz := Option.some.inj h
    subst hz
    exact hret H locs 25 ls (fun ty h => by cases h; rfl) hP hD hS dX5_leftBy_25
abbrev rmX2_addFactor : Room := { frames := 1, cells := 0, slots := 0, locals := 22 }
theorem hdX2_addFactor : yX2_addFactor.cls = RX2 ∧ yX2_addFactor.cls ≠ "java/lang/invoke/MethodHandle" ∧ yX2_addFactor.cls ≠ "java/lang/invoke/VarHandle" ∧ (parseMethodDescriptor yX2_addFactor.desc).map (fun d => d.parameters.length) = some 1 := by decide +kernel
set_option maxRecDepth 100000 in
set_option maxHeartbeats 4000000 in
theorem c_X2_addFactor (l : Launch) (D : va_G) (cI cB cZ : ClassId) (a_o : Nat) (w_o_tokens : Value) (w_o_signs : Value) (w_o_values : Value) (o_choices : Int32) (w_o_termsLeft : Value) (o_depth : Int32) (o_many : Int32) (o_factorDue : Int32) (a_factorsLeft : Nat) (f_factorsLeft : Nat → Int32) (p1 : Int32) (z : Int32 × (Nat → Int32)) (h : P_X2_addFactor p1 o_depth o_factorDue f_factorsLeft = some z) : KV l yX2_addFactor wsX2_addFactor rmX2_addFactor D [(cI, .int), (cB, .byte), (cZ, .boolean)] [.ref a_o, .int p1] [(a_o, .inr (2, [w_o_tokens, w_o_signs, w_o_values, .int o_choices, w_o_termsLeft, .ref a_factorsLeft, .int o_depth, .int o_many, .int o_factorDue])), (a_factorsLeft, .inl (cI, 10, .inl f_factorsLeft))] [(a_o, .inr (2, [w_o_tokens, w_o_signs, w_o_values, .int o_choices, w_o_termsLeft, .ref a_factorsLeft, .int o_depth, .int o_many, .int z.1])), (a_factorsLeft, .inl (cI, 10, .inl z.2))] := by
  refine KV_of (own := RX2) (cc := cX2_addFactor) (maxL := 2) (by decide) rfl rfl (Nat.le_of_ble_eq_true rfl) ?_
  intro p e s m args below meth c A Q hx hb hml hown hts hA hZ hK hret H locs ls hP hD hS hl
  have hl : lv_has ls 2 [(0, .ref a_o), (1, .int p1)] := hl
  have hF : CallFix p m c cX2_addFactor 2 s args wsX2_addFactor RX2 := ⟨hx, hb, hml, hown, hts⟩
  have u_X2 : ∀ w ∈ u_ws RX2 TX2 9, w ∈ wsX2_addFactor := by decide +kernel
  have k_f0 := hts (.fieldLink RX2 22 "NoWordNo$Reader" "factorsLeft" "[I") (by decide +kernel)
  have k_f1 := hts (.fieldLink RX2 25 "NoWordNo$Reader" "depth" "I") (by decide +kernel)
  have k_f2 := hts (.fieldLink RX2 31 "NoWordNo$Reader" "factorDue" "Z") (by decide +kernel)
  unfold P_X2_addFactor at h
  refine lv_aload_n hx hb dX2_addFactor_0 rfl (lv_at hl 0 rfl) ?_
  refine va_get (D := D) (ci := 2) (v := .ref a_factorsLeft) (C := RX2) (T := TX2) (N := 9) hx hb hts u_X2 hown hK hP 0 rfl rfl 5 (by decide) k_f0 (fun _ h9 => h9) rfl dX2_addFactor_1 ?_
  refine lv_aload_n hx hb dX2_addFactor_4 rfl (lv_at hl 0 rfl) ?_
  refine va_get (D := D) (ci := 2) (v := .int o_depth) (C := RX2) (T := TX2) (N := 9) hx hb hts u_X2 hown hK hP 0 rfl rfl 6 (by decide) k_f1 (fun _ h9 => h9) rfl dX2_addFactor_5 ?_
  refine lv_aload_n hx hb dX2_addFactor_8 rfl (lv_at hl 0 rfl) ?_
  refine va_get (D := D) (ci := 2) (v := .ref a_factorsLeft) (C := RX2) (T := TX2) (N := 9) hx hb hts u_X2 hown hK hP 0 rfl rfl 5 (by decide) k_f0 (fun _ h9 => h9) rfl dX2_addFactor_9 ?_
  refine lv_aload_n hx hb dX2_addFactor_12 rfl (lv_at hl 0 rfl) ?_
  refine va_get (D := D) (ci := 2) (v := .int o_depth) (C := RX2) (T := TX2) (N := 9) hx hb hts u_X2 hown hK hP 0 rfl rfl 6 (by decide) k_f1 (fun _ h9 => h9) rfl dX2_addFactor_13 ?_
  obtain ⟨z_16, hc_16, h⟩ := bd_e h
  refine q_iS (As := [.ref a_factorsLeft, .int o_depth]) (rest := [.int o_depth, .ref a_factorsLeft]) (wF := [(a_o, .inr (2, [w_o_tokens, w_o_signs, w_o_values, .int o_choices, w_o_termsLeft, .ref a_factorsLeft, .int o_depth, .int o_many, .int o_factorDue])), (a_factorsLeft, .inl (cI, 10, .inl f_factorsLeft))]) hF hA hZ hK hP hD hS (c_X4_at l D cI cB cZ a_factorsLeft 10 f_factorsLeft o_depth z_16 hc_16) rfl gX2_addFactor_X4_at hdX4_at ⟨rfl, rfl⟩ (Nat.le_of_ble_eq_true rfl) (Nat.le_of_ble_eq_true rfl) [1] [0] rfl rfl rfl rfl (by decide) rfl hl.1 rfl (Nat.le_of_ble_eq_true rfl) (Nat.zero_le _) (Nat.zero_le _) dX2_addFactor_16 (fun H locs hP hD hS => ?_)
  refine lv_iload_n hx hb dX2_addFactor_19 rfl (lv_at hl 1 rfl) ?_
  refine lv_iand hx hb dX2_addFactor_20 ?_
  obtain ⟨z_21, hc_21, h⟩ := bd_e h
  refine q_vS (As := [.ref a_factorsLeft, .int o_depth, .int (z_16 &&& p1)]) (rest := []) (wF := [(a_o, .inr (2, [w_o_tokens, w_o_signs, w_o_values, .int o_choices, w_o_termsLeft, .ref a_factorsLeft, .int o_depth, .int o_many, .int o_factorDue])), (a_factorsLeft, .inl (cI, 10, .inl z_21))]) hF hA hZ hK hP hD hS (c_X4_put l D cI cB cZ a_factorsLeft 10 f_factorsLeft o_depth (z_16 &&& p1) z_21 hc_21) rfl gX2_addFactor_X4_put hdX4_put ⟨rfl, rfl⟩ (Nat.le_of_ble_eq_true rfl) (Nat.le_of_ble_eq_true rfl) [1] [0] rfl rfl rfl rfl (by decide) rfl hl.1 rfl (Nat.le_of_ble_eq_true rfl) (Nat.zero_le _) (Nat.zero_le _) dX2_addFactor_21 (fun H locs hP hD hS => ?_)
  refine lv_aload_n hx hb dX2_addFactor_24 rfl (lv_at hl 0 rfl) ?_
  refine lv_iconst (v := 0) hx hb dX2_addFactor_25 ic_0 ?_
  refine va_put (D := D) (ci := 2) (v := .int 0) (ty := .boolean) (C := RX2) (T := TX2) (N := 9) hx hb hts u_X2 tyX2 tyX2_ok nmX2 hown hK hP hD hS 0 rfl rfl 8 (by decide) k_f2 (fun _ h9 => h9) rfl (tyX2_ok 8 (by decide)) rfl rfl (Nat.le_of_ble_eq_true rfl) dX2_addFactor_26 (fun H locs hP hD hS => ?_)
  have hP : va_P D vwCl [(a_o, .inr (2, [w_o_tokens, w_o_signs, w_o_values, .int o_choices, w_o_termsLeft, .ref a_factorsLeft, .int o_depth, .int o_many, .int 0])), (a_factorsLeft, .inl (cI, 10, .inl z_21))] H := hP
  have hD : va_D A [(a_o, .inr (2, [w_o_tokens, w_o_signs, w_o_values, .int o_choices, w_o_termsLeft, .ref a_factorsLeft, .int o_depth, .int o_many, .int 0])), (a_factorsLeft, .inl (cI, 10, .inl z_21))] := hD
  have hz := Option.some.inj h
  subst hz
  exact hret H locs 29 ls hP hD hS dX2_addFactor_29
abbrev rmX2_readFactor : Room := { frames := 4, cells := 0, slots := 0, locals := 83 }
theorem hdX2_readFactor : yX2_readFactor.cls = RX2 ∧ yX2_readFactor.cls ≠ "java/lang/invoke/MethodHandle" ∧ yX2_readFactor.cls ≠ "java/lang/invoke/VarHandle" ∧ (parseMethodDescriptor yX2_readFactor.desc).map (fun d => d.parameters.length) = some 0 := by decide +kernel
set_option maxRecDepth 100000 in
set_option maxHeartbeats 4000000 in
theorem c_X2_readFactor (l : Launch) (D : va_G) (cI cB cZ : ClassId) (a_o : Nat) (w_o_values : Value) (o_choices : Int32) (o_depth : Int32) (o_many : Int32) (o_factorDue : Int32) (a_tokens : Nat) (tokens_next : Int32) (tokens_place : Int32) (tokens_kind : Int32) (a_tokens_text : Nat) (tokens_text_size : Int32) (a_tokens_text_bytes : Nat) (f_tokens_text_bytes : Nat → Int32) (a_signs : Nat) (a_signs_tongue : Nat) (signs_tongue_choices : Int32) (signs_tongue_worlds : Int32) (a_signs_tongue_values : Nat) (f_signs_tongue_values : Nat → Int32) (a_signs_tongue_left : Nat) (f_signs_tongue_left : Nat → Int32) (a_signs_kept : Nat) (w_signs_kept_left : Value) (w_signs_kept_signs : Value) (signs_kept_sayings : Int32) (signs_kept_words : Int32) (signs_kept_filled : Int32) (a_signs_kept_wordSets : Nat) (f_signs_kept_wordSets : Nat → Int32) (a_termsLeft : Nat) (f_termsLeft : Nat → Int32) (a_factorsLeft : Nat) (f_factorsLeft : Nat → Int32) (z : Int32 × Int32 × Int32 × Int32 × Int32 × Int32 × Int32 × (Nat → Int32) × (Nat → Int32)) (h : P_X2_readFactor o_depth o_many o_factorDue tokens_next tokens_place tokens_kind tokens_text_size f_tokens_text_bytes signs_tongue_choices signs_tongue_worlds f_signs_tongue_values f_signs_tongue_left signs_kept_words f_signs_kept_wordSets f_termsLeft f_factorsLeft = some z) : KI l yX2_readFactor wsX2_readFactor rmX2_readFactor D [(cI, .int), (cB, .byte), (cZ, .boolean)] [.ref a_o] [(a_o, .inr (2, [.ref a_tokens, .ref a_signs, w_o_values, .int o_choices, .ref a_termsLeft, .ref a_factorsLeft, .int o_depth, .int o_many, .int o_factorDue])), (a_tokens, .inr (6, [.ref a_tokens_text, .int tokens_next, .int tokens_place, .int tokens_kind])), (a_tokens_text, .inr (5, [.ref a_tokens_text_bytes, .int tokens_text_size])), (a_tokens_text_bytes, .inl (cI, 200, .inl f_tokens_text_bytes)), (a_signs, .inr (4, [.ref a_signs_tongue, .ref a_signs_kept])), (a_signs_tongue, .inr (7, [.ref a_signs_tongue_values, .ref a_signs_tongue_left, .int signs_tongue_choices, .int signs_tongue_worlds])), (a_signs_tongue_values, .inl (cI, 3, .inl f_signs_tongue_values)), (a_signs_tongue_left, .inl (cI, 30, .inl f_signs_tongue_left)), (a_signs_kept, .inr (0, [w_signs_kept_left, w_signs_kept_signs, .ref a_signs_kept_wordSets, .int signs_kept_sayings, .int signs_kept_words, .int signs_kept_filled])), (a_signs_kept_wordSets, .inl (cI, 3, .inl f_signs_kept_wordSets)), (a_termsLeft, .inl (cI, 10, .inl f_termsLeft)), (a_factorsLeft, .inl (cI, 10, .inl f_factorsLeft))] [(a_o, .inr (2, [.ref a_tokens, .ref a_signs, w_o_values, .int o_choices, .ref a_termsLeft, .ref a_factorsLeft, .int z.2.1, .int z.2.2.1, .int z.2.2.2.1])), (a_tokens, .inr (6, [.ref a_tokens_text, .int z.2.2.2.2.1, .int z.2.2.2.2.2.1, .int z.2.2.2.2.2.2.1])), (a_tokens_text, .inr (5, [.ref a_tokens_text_bytes, .int tokens_text_size])), (a_tokens_text_bytes, .inl (cI, 200, .inl f_tokens_text_bytes)), (a_signs, .inr (4, [.ref a_signs_tongue, .ref a_signs_kept])), (a_signs_tongue, .inr (7, [.ref a_signs_tongue_values, .ref a_signs_tongue_left, .int signs_tongue_choices, .int signs_tongue_worlds])), (a_signs_tongue_values, .inl (cI, 3, .inl f_signs_tongue_values)), (a_signs_tongue_left, .inl (cI, 30, .inl f_signs_tongue_left)), (a_signs_kept, .inr (0, [w_signs_kept_left, w_signs_kept_signs, .ref a_signs_kept_wordSets, .int signs_kept_sayings, .int signs_kept_words, .int signs_kept_filled])), (a_signs_kept_wordSets, .inl (cI, 3, .inl f_signs_kept_wordSets)), (a_termsLeft, .inl (cI, 10, .inl z.2.2.2.2.2.2.2.1)), (a_factorsLeft, .inl (cI, 10, .inl z.2.2.2.2.2.2.2.2))] z.1 := by
  refine KI_of (own := RX2) (cc := cX2_readFactor) (maxL := 3) (ret := some .boolean) (by decide) rfl rfl (Nat.le_of_ble_eq_true rfl) (Or.inr rfl) ?_
  intro p e s m args below meth c A Q hx hb hml hown hts hA hZ hK hret H locs ls hP hD hS hl
  have hl : lv_has ls 3 [(0, .ref a_o)] := hl
  have hF : CallFix p m c cX2_readFactor 3 s args wsX2_readFactor RX2 := ⟨hx, hb, hml, hown, hts⟩
  have u_X2 : ∀ w ∈ u_ws RX2 TX2 9, w ∈ wsX2_readFactor := by decide +kernel
  have k_f0 := hts (.fieldLink RX2 40 "NoWordNo$Reader" "tokens" "LNoWordNo$Tokens;") (by decide +kernel)
  have k_f1 := hts (.fieldLink RX2 44 "NoWordNo$Reader" "signs" "LNoWordNo$Signs;") (by decide +kernel)
  have k_f2 := hts (.fieldLink RX2 28 "NoWordNo$Reader" "many" "I") (by decide +kernel)
  have k_f3 := hts (.fieldLink RX2 25 "NoWordNo$Reader" "depth" "I") (by decide +kernel)
  unfold P_X2_readFactor at h
  refine lv_aload_n hx hb dX2_readFactor_0 rfl (lv_at hl 0 rfl) ?_
  refine va_get (D := D) (ci := 2) (v := .ref a_tokens) (C := RX2) (T := TX2) (N := 9) hx hb hts u_X2 hown hK hP 0 rfl rfl 0 (by decide) k_f0 (fun _ h9 => h9) rfl dX2_readFactor_1 ?_
  refine lv_bipush (v := 40) hx hb dX2_readFactor_4 bc_40 ?_
  obtain ⟨z_6, hc_6, h⟩ := bd_e h
  refine q_iV (As := [.int 40]) (rest := []) (wF := [(a_o, .inr (2, [.ref a_tokens, .ref a_signs, w_o_values, .int o_choices, .ref a_termsLeft, .ref a_factorsLeft, .int o_depth, .int o_many, .int o_factorDue])), (a_tokens_text, .inr (5, [.ref a_tokens_text_bytes, .int tokens_text_size])), (a_tokens_text_bytes, .inl (cI, 200, .inl f_tokens_text_bytes)), (a_signs, .inr (4, [.ref a_signs_tongue, .ref a_signs_kept])), (a_signs_tongue, .inr (7, [.ref a_signs_tongue_values, .ref a_signs_tongue_left, .int signs_tongue_choices, .int signs_tongue_worlds])), (a_signs_tongue_values, .inl (cI, 3, .inl f_signs_tongue_values)), (a_signs_tongue_left, .inl (cI, 30, .inl f_signs_tongue_left)), (a_signs_kept, .inr (0, [w_signs_kept_left, w_signs_kept_signs, .ref a_signs_kept_wordSets, .int signs_kept_sayings, .int signs_kept_words, .int signs_kept_filled])), (a_signs_kept_wordSets, .inl (cI, 3, .inl f_signs_kept_wordSets)), (a_termsLeft, .inl (cI, 10, .inl f_termsLeft)), (a_factorsLeft, .inl (cI, 10, .inl f_factorsLeft)), (a_tokens, .inr (6, [.ref a_tokens_text, .int tokens_next, .int tokens_place, .int tokens_kind]))]) hF hA hZ hK hP hD hS (c_X7_is l D cI cB cZ a_tokens (.ref a_tokens_text) tokens_next tokens_place tokens_kind 40 z_6 hc_6) rfl gX2_readFactor_X7_is hdX7_is ⟨rfl, rfl⟩ (Nat.le_of_ble_eq_true rfl) (Nat.le_of_ble_eq_true rfl) 6 0 rfl rfl [1] [0, 2, 3, 4, 5, 6, 7, 8, 9, 10, 11] rfl rfl rfl rfl (by decide) rfl hl.1 rfl (Nat.le_of_ble_eq_true rfl) (Nat.zero_le _) (Nat.zero_le _) dX2_readFactor_6 (fun H locs hP hD hS => ?_)
  refine lv_if_eq (tgt := 39) hx hb dX2_readFactor_9 (by decide) (fun c_9 => ?_) (fun c_9 => ?_)
  · replace h := it_e c_9 h
    refine lv_aload_n hx hb dX2_readFactor_39 rfl (lv_at hl 0 rfl) ?_
    refine va_get (D := D) (ci := 2) (v := .ref a_signs) (C := RX2) (T := TX2) (N := 9) hx hb hts u_X2 hown hK hP 0 rfl rfl 1 (by decide) k_f1 (fun _ h9 => h9) rfl dX2_readFactor_40 ?_
    refine lv_aload_n hx hb dX2_readFactor_43 rfl (lv_at hl 0 rfl) ?_
    refine va_get (D := D) (ci := 2) (v := .ref a_tokens) (C := RX2) (T := TX2) (N := 9) hx hb hts u_X2 hown hK hP 0 rfl rfl 0 (by decide) k_f0 (fun _ h9 => h9) rfl dX2_readFactor_44 ?_
    obtain ⟨z_47, hc_47, h⟩ := bd_e h
    refine q_iV (As := []) (rest := [.ref a_signs]) (wF := [(a_o, .inr (2, [.ref a_tokens, .ref a_signs, w_o_values, .int o_choices, .ref a_termsLeft, .ref a_factorsLeft, .int o_depth, .int o_many, .int o_factorDue])), (a_signs, .inr (4, [.ref a_signs_tongue, .ref a_signs_kept])), (a_signs_tongue, .inr (7, [.ref a_signs_tongue_values, .ref a_signs_tongue_left, .int signs_tongue_choices, .int signs_tongue_worlds])), (a_signs_tongue_values, .inl (cI, 3, .inl f_signs_tongue_values)), (a_signs_tongue_left, .inl (cI, 30, .inl f_signs_tongue_left)), (a_signs_kept, .inr (0, [w_signs_kept_left, w_signs_kept_signs, .ref a_signs_kept_wordSets, .int signs_kept_sayings, .int signs_kept_words, .int signs_kept_filled])), (a_signs_kept_wordSets, .inl (cI, 3, .inl f_signs_kept_wordSets)), (a_termsLeft, .inl (cI, 10, .inl f_termsLeft)), (a_factorsLeft, .inl (cI, 10, .inl f_factorsLeft)), (a_tokens, .inr (6, [.ref a_tokens_text, .int tokens_next, .int tokens_place, .int tokens_kind])), (a_tokens_text, .inr (5, [.ref a_tokens_text_bytes, .int tokens_text_size])), (a_tokens_text_bytes, .inl (cI, 200, .inl f_tokens_text_bytes))]) hF hA hZ hK hP hD hS (c_X7_letter l D cI cB cZ a_tokens tokens_next tokens_place tokens_kind a_tokens_text tokens_text_size a_tokens_text_bytes f_tokens_text_bytes z_47 hc_47) rfl gX2_readFactor_X7_letter hdX7_letter ⟨rfl, rfl⟩ (Nat.le_of_ble_eq_true rfl) (Nat.le_of_ble_eq_true rfl) 6 0 rfl rfl [11, 1, 2] [0, 3, 4, 5, 6, 7, 8, 9, 10] rfl rfl rfl rfl (by decide) rfl hl.1 rfl (Nat.le_of_ble_eq_true rfl) (Nat.zero_le _) (Nat.zero_le _) dX2_readFactor_47 (fun H locs hP hD hS => ?_)
    obtain ⟨z_50, hc_50, h⟩ := bd_e h
    refine q_iV (As := [.int z_47]) (rest := []) (wF := [(a_o, .inr (2, [.ref a_tokens, .ref a_signs, w_o_values, .int o_choices, .ref a_termsLeft, .ref a_factorsLeft, .int o_depth, .int o_many, .int o_factorDue])), (a_signs_tongue_values, .inl (cI, 3, .inl f_signs_tongue_values)), (a_signs_tongue_left, .inl (cI, 30, .inl f_signs_tongue_left)), (a_signs_kept, .inr (0, [w_signs_kept_left, w_signs_kept_signs, .ref a_signs_kept_wordSets, .int signs_kept_sayings, .int signs_kept_words, .int signs_kept_filled])), (a_signs_kept_wordSets, .inl (cI, 3, .inl f_signs_kept_wordSets)), (a_termsLeft, .inl (cI, 10, .inl f_termsLeft)), (a_factorsLeft, .inl (cI, 10, .inl f_factorsLeft)), (a_tokens, .inr (6, [.ref a_tokens_text, .int tokens_next, .int tokens_place, .int tokens_kind])), (a_tokens_text, .inr (5, [.ref a_tokens_text_bytes, .int tokens_text_size])), (a_tokens_text_bytes, .inl (cI, 200, .inl f_tokens_text_bytes)), (a_signs, .inr (4, [.ref a_signs_tongue, .ref a_signs_kept])), (a_signs_tongue, .inr (7, [.ref a_signs_tongue_values, .ref a_signs_tongue_left, .int signs_tongue_choices, .int signs_tongue_worlds]))]) hF hA hZ hK hP hD hS (c_X5_groupOf l D cI cB cZ a_signs (.ref a_signs_kept) a_signs_tongue (.ref a_signs_tongue_values) (.ref a_signs_tongue_left) signs_tongue_choices signs_tongue_worlds z_47 z_50 hc_50) rfl gX2_readFactor_X5_groupOf hdX5_groupOf ⟨rfl, rfl⟩ (Nat.le_of_ble_eq_true rfl) (Nat.le_of_ble_eq_true rfl) 4 0 rfl rfl [1, 2] [0, 3, 4, 5, 6, 7, 8, 9, 10, 11] rfl rfl rfl rfl (by decide) rfl hl.1 rfl (Nat.le_of_ble_eq_true rfl) (Nat.zero_le _) (Nat.zero_le _) dX2_readFactor_50 (fun H locs hP hD hS => ?_)
    refine lv_istore_n (lv' := [(1, .int z_50), (0, .ref a_o)]) hx hb dX2_readFactor_53 rfl hl (by decide) rfl (fun ls hl => ?_)
    refine lv_iload_n hx hb dX2_readFactor_54 rfl (lv_at hl 0 rfl) ?_
    refine lv_iconst (v := (-1)) hx hb dX2_readFactor_55 ic_m1 ?_
    refine lv_icmp_ne (tgt := 61) hx hb dX2_readFactor_56 (by decide) (fun c_56 => ?_) (fun c_56 => ?_)
    · replace h := if_e c_56 h
      refine lv_aload_n hx hb dX2_readFactor_61 rfl (lv_at hl 1 rfl) ?_
      refine va_get (D := D) (ci := 2) (v := .ref a_tokens) (C := RX2) (T := TX2) (N := 9) hx hb hts u_X2 hown hK hP 0 rfl rfl 0 (by decide) k_f0 (fun _ h9 => h9) rfl dX2_readFactor_62 ?_
      obtain ⟨z_65, hc_65, h⟩ := bd_e h
      refine q_vV (As := []) (rest := []) (wF := [(a_o, .inr (2, [.ref a_tokens, .ref a_signs, w_o_values, .int o_choices, .ref a_termsLeft, .ref a_factorsLeft, .int o_depth, .int o_many, .int o_factorDue])), (a_signs_tongue_values, .inl (cI, 3, .inl f_signs_tongue_values)), (a_signs_tongue_left, .inl (cI, 30, .inl f_signs_tongue_left)), (a_signs_kept, .inr (0, [w_signs_kept_left, w_signs_kept_signs, .ref a_signs_kept_wordSets, .int signs_kept_sayings, .int signs_kept_words, .int signs_kept_filled])), (a_signs_kept_wordSets, .inl (cI, 3, .inl f_signs_kept_wordSets)), (a_termsLeft, .inl (cI, 10, .inl f_termsLeft)), (a_factorsLeft, .inl (cI, 10, .inl f_factorsLeft)), (a_signs, .inr (4, [.ref a_signs_tongue, .ref a_signs_kept])), (a_signs_tongue, .inr (7, [.ref a_signs_tongue_values, .ref a_signs_tongue_left, .int signs_tongue_choices, .int signs_tongue_worlds])), (a_tokens, .inr (6, [.ref a_tokens_text, .int z_65.1, .int z_65.2.1, .int z_65.2.2])), (a_tokens_text, .inr (5, [.ref a_tokens_text_bytes, .int tokens_text_size])), (a_tokens_text_bytes, .inl (cI, 200, .inl f_tokens_text_bytes))]) hF hA hZ hK hP hD hS (c_X7_step l D cI cB cZ a_tokens tokens_next tokens_place tokens_kind a_tokens_text tokens_text_size a_tokens_text_bytes f_tokens_text_bytes z_65 hc_65) rfl gX2_readFactor_X7_step hdX7_step ⟨rfl, rfl⟩ (Nat.le_of_ble_eq_true rfl) (Nat.le_of_ble_eq_true rfl) 6 0 rfl rfl [7, 8, 9] [0, 1, 2, 3, 4, 5, 6, 10, 11] rfl rfl rfl rfl (by decide) rfl hl.1 rfl (Nat.le_of_ble_eq_true rfl) (Nat.zero_le _) (Nat.zero_le _) dX2_readFactor_65 (fun H locs hP hD hS => ?_)
      refine lv_aload_n hx hb dX2_readFactor_68 rfl (lv_at hl 1 rfl) ?_
      refine va_get (D := D) (ci := 2) (v := .ref a_tokens) (C := RX2) (T := TX2) (N := 9) hx hb hts u_X2 hown hK hP 0 rfl rfl 0 (by decide) k_f0 (fun _ h9 => h9) rfl dX2_readFactor_69 ?_
      obtain ⟨z_72, hc_72, h⟩ := bd_e h
      refine q_iV (As := []) (rest := []) (wF := [(a_o, .inr (2, [.ref a_tokens, .ref a_signs, w_o_values, .int o_choices, .ref a_termsLeft, .ref a_factorsLeft, .int o_depth, .int o_many, .int o_factorDue])), (a_signs_tongue_values, .inl (cI, 3, .inl f_signs_tongue_values)), (a_signs_tongue_left, .inl (cI, 30, .inl f_signs_tongue_left)), (a_signs_kept, .inr (0, [w_signs_kept_left, w_signs_kept_signs, .ref a_signs_kept_wordSets, .int signs_kept_sayings, .int signs_kept_words, .int signs_kept_filled])), (a_signs_kept_wordSets, .inl (cI, 3, .inl f_signs_kept_wordSets)), (a_termsLeft, .inl (cI, 10, .inl f_termsLeft)), (a_factorsLeft, .inl (cI, 10, .inl f_factorsLeft)), (a_signs, .inr (4, [.ref a_signs_tongue, .ref a_signs_kept])), (a_signs_tongue, .inr (7, [.ref a_signs_tongue_values, .ref a_signs_tongue_left, .int signs_tongue_choices, .int signs_tongue_worlds])), (a_tokens, .inr (6, [.ref a_tokens_text, .int z_65.1, .int z_65.2.1, .int z_65.2.2])), (a_tokens_text, .inr (5, [.ref a_tokens_text_bytes, .int tokens_text_size])), (a_tokens_text_bytes, .inl (cI, 200, .inl f_tokens_text_bytes))]) hF hA hZ hK hP hD hS (c_X7_number l D cI cB cZ a_tokens z_65.1 z_65.2.1 z_65.2.2 a_tokens_text tokens_text_size a_tokens_text_bytes f_tokens_text_bytes z_72 hc_72) rfl gX2_readFactor_X7_number hdX7_number ⟨rfl, rfl⟩ (Nat.le_of_ble_eq_true rfl) (Nat.le_of_ble_eq_true rfl) 6 0 rfl rfl [9, 10, 11] [0, 1, 2, 3, 4, 5, 6, 7, 8] rfl rfl rfl rfl (by decide) rfl hl.1 rfl (Nat.le_of_ble_eq_true rfl) (Nat.zero_le _) (Nat.zero_le _) dX2_readFactor_72 (fun H locs hP hD hS => ?_)
      refine lv_istore_n (lv' := [(2, .int z_72), (1, .int z_50), (0, .ref a_o)]) hx hb dX2_readFactor_75 rfl hl (by decide) rfl (fun ls hl => ?_)
      refine lv_iload_n hx hb dX2_readFactor_76 rfl (lv_at hl 0 rfl) ?_
      refine lv_if_lt (tgt := 92) hx hb dX2_readFactor_77 (by decide) (fun c_77 => ?_) (fun c_77 => ?_)
      · replace h := it_e c_77 h
        refine lv_iconst (v := 0) hx hb dX2_readFactor_92 ic_0 ?_
        have hz := Option.some.inj h
        subst hz
        exact hret H locs 93 ls (fun ty h => by cases h; exact nar_0) (hP.sub [0, 9, 10, 11, 7, 8, 1, 2, 3, 4, 5, 6] rfl) (hD.sub [0, 9, 10, 11, 7, 8, 1, 2, 3, 4, 5, 6] (by decide) rfl) hS dX2_readFactor_93
      · replace h := if_e c_77 h
        refine lv_iload_n hx hb dX2_readFactor_80 rfl (lv_at hl 0 rfl) ?_
        refine lv_aload_n hx hb dX2_readFactor_81 rfl (lv_at hl 2 rfl) ?_
        refine va_get (D := D) (ci := 2) (v := .ref a_signs) (C := RX2) (T := TX2) (N := 9) hx hb hts u_X2 hown hK hP 0 rfl rfl 1 (by decide) k_f1 (fun _ h9 => h9) rfl dX2_readFactor_82 ?_
        refine lv_iload_n hx hb dX2_readFactor_85 rfl (lv_at hl 1 rfl) ?_
        obtain ⟨z_86, hc_86, h⟩ := bd_e h
        refine q_iV (As := [.int z_50]) (rest := [.int z_72]) (wF := [(a_o, .inr (2, [.ref a_tokens, .ref a_signs, w_o_values, .int o_choices, .ref a_termsLeft, .ref a_factorsLeft, .int o_depth, .int o_many, .int o_factorDue])), (a_signs_tongue_left, .inl (cI, 30, .inl f_signs_tongue_left)), (a_signs_kept_wordSets, .inl (cI, 3, .inl f_signs_kept_wordSets)), (a_termsLeft, .inl (cI, 10, .inl f_termsLeft)), (a_factorsLeft, .inl (cI, 10, .inl f_factorsLeft)), (a_tokens, .inr (6, [.ref a_tokens_text, .int z_65.1, .int z_65.2.1, .int z_65.2.2])), (a_tokens_text, .inr (5, [.ref a_tokens_text_bytes, .int tokens_text_size])), (a_tokens_text_bytes, .inl (cI, 200, .inl f_tokens_text_bytes)), (a_signs, .inr (4, [.ref a_signs_tongue, .ref a_signs_kept])), (a_signs_tongue, .inr (7, [.ref a_signs_tongue_values, .ref a_signs_tongue_left, .int signs_tongue_choices, .int signs_tongue_worlds])), (a_signs_tongue_values, .inl (cI, 3, .inl f_signs_tongue_values)), (a_signs_kept, .inr (0, [w_signs_kept_left, w_signs_kept_signs, .ref a_signs_kept_wordSets, .int signs_kept_sayings, .int signs_kept_words, .int signs_kept_filled]))]) hF hA hZ hK hP hD hS (c_X5_many l D cI cB cZ a_signs a_signs_tongue (.ref a_signs_tongue_left) signs_tongue_choices signs_tongue_worlds a_signs_tongue_values f_signs_tongue_values a_signs_kept w_signs_kept_left w_signs_kept_signs (.ref a_signs_kept_wordSets) signs_kept_sayings signs_kept_words signs_kept_filled z_50 z_86 hc_86) rfl gX2_readFactor_X5_many hdX5_many ⟨rfl, rfl⟩ (Nat.le_of_ble_eq_true rfl) (Nat.le_of_ble_eq_true rfl) 4 0 rfl rfl [7, 8, 1, 3] [0, 2, 4, 5, 6, 9, 10, 11] rfl rfl rfl rfl (by decide) rfl hl.1 rfl (Nat.le_of_ble_eq_true rfl) (Nat.zero_le _) (Nat.zero_le _) dX2_readFactor_86 (fun H locs hP hD hS => ?_)
        refine lv_icmp_lt (tgt := 94) hx hb dX2_readFactor_89 (by decide) (fun c_89 => ?_) (fun c_89 => ?_)
        · replace h := it_e c_89 h
          refine lv_aload_n hx hb dX2_readFactor_94 rfl (lv_at hl 2 rfl) ?_
          refine lv_aload_n hx hb dX2_readFactor_95 rfl (lv_at hl 2 rfl) ?_
          refine va_get (D := D) (ci := 2) (v := .ref a_signs) (C := RX2) (T := TX2) (N := 9) hx hb hts u_X2 hown hK hP 0 rfl rfl 1 (by decide) k_f1 (fun _ h9 => h9) rfl dX2_readFactor_96 ?_
          refine lv_iload_n hx hb dX2_readFactor_99 rfl (lv_at hl 1 rfl) ?_
          refine lv_iload_n hx hb dX2_readFactor_100 rfl (lv_at hl 0 rfl) ?_
          obtain ⟨z_101, hc_101, h⟩ := bd_e h
          refine q_iV (As := [.int z_50, .int z_72]) (rest := [.ref a_o]) (wF := [(a_o, .inr (2, [.ref a_tokens, .ref a_signs, w_o_values, .int o_choices, .ref a_termsLeft, .ref a_factorsLeft, .int o_depth, .int o_many, .int o_factorDue])), (a_termsLeft, .inl (cI, 10, .inl f_termsLeft)), (a_factorsLeft, .inl (cI, 10, .inl f_factorsLeft)), (a_tokens, .inr (6, [.ref a_tokens_text, .int z_65.1, .int z_65.2.1, .int z_65.2.2])), (a_tokens_text, .inr (5, [.ref a_tokens_text_bytes, .int tokens_text_size])), (a_tokens_text_bytes, .inl (cI, 200, .inl f_tokens_text_bytes)), (a_signs_tongue_values, .inl (cI, 3, .inl f_signs_tongue_values)), (a_signs, .inr (4, [.ref a_signs_tongue, .ref a_signs_kept])), (a_signs_tongue, .inr (7, [.ref a_signs_tongue_values, .ref a_signs_tongue_left, .int signs_tongue_choices, .int signs_tongue_worlds])), (a_signs_tongue_left, .inl (cI, 30, .inl f_signs_tongue_left)), (a_signs_kept, .inr (0, [w_signs_kept_left, w_signs_kept_signs, .ref a_signs_kept_wordSets, .int signs_kept_sayings, .int signs_kept_words, .int signs_kept_filled])), (a_signs_kept_wordSets, .inl (cI, 3, .inl f_signs_kept_wordSets))]) hF hA hZ hK hP hD hS (c_X5_leftBy l D cI cB cZ a_signs a_signs_tongue (.ref a_signs_tongue_values) signs_tongue_choices signs_tongue_worlds a_signs_tongue_left f_signs_tongue_left a_signs_kept w_signs_kept_left w_signs_kept_signs signs_kept_sayings signs_kept_words signs_kept_filled a_signs_kept_wordSets f_signs_kept_wordSets z_50 z_72 z_101 hc_101) rfl gX2_readFactor_X5_leftBy hdX5_leftBy ⟨rfl, rfl⟩ (Nat.le_of_ble_eq_true rfl) (Nat.le_of_ble_eq_true rfl) 4 0 rfl rfl [8, 9, 1, 11, 2] [0, 3, 4, 5, 6, 7, 10] rfl rfl rfl rfl (by decide) rfl hl.1 rfl (Nat.le_of_ble_eq_true rfl) (Nat.zero_le _) (Nat.zero_le _) dX2_readFactor_101 (fun H locs hP hD hS => ?_)
          obtain ⟨z_104, hc_104, h⟩ := bd_e h
          refine q_vV (As := [.int z_101]) (rest := []) (wF := [(a_termsLeft, .inl (cI, 10, .inl f_termsLeft)), (a_tokens, .inr (6, [.ref a_tokens_text, .int z_65.1, .int z_65.2.1, .int z_65.2.2])), (a_tokens_text, .inr (5, [.ref a_tokens_text_bytes, .int tokens_text_size])), (a_tokens_text_bytes, .inl (cI, 200, .inl f_tokens_text_bytes)), (a_signs_tongue_values, .inl (cI, 3, .inl f_signs_tongue_values)), (a_signs, .inr (4, [.ref a_signs_tongue, .ref a_signs_kept])), (a_signs_tongue, .inr (7, [.ref a_signs_tongue_values, .ref a_signs_tongue_left, .int signs_tongue_choices, .int signs_tongue_worlds])), (a_signs_tongue_left, .inl (cI, 30, .inl f_signs_tongue_left)), (a_signs_kept, .inr (0, [w_signs_kept_left, w_signs_kept_signs, .ref a_signs_kept_wordSets, .int signs_kept_sayings, .int signs_kept_words, .int signs_kept_filled])), (a_signs_kept_wordSets, .inl (cI, 3, .inl f_signs_kept_wordSets)), (a_o, .inr (2, [.ref a_tokens, .ref a_signs, w_o_values, .int o_choices, .ref a_termsLeft, .ref a_factorsLeft, .int o_depth, .int o_many, .int z_104.1])), (a_factorsLeft, .inl (cI, 10, .inl z_104.2))]) hF hA hZ hK hP hD hS (c_X2_addFactor l D cI cB cZ a_o (.ref a_tokens) (.ref a_signs) w_o_values o_choices (.ref a_termsLeft) o_depth o_many o_factorDue a_factorsLeft f_factorsLeft z_101 z_104 hc_104) rfl gX2_readFactor_X2_addFactor hdX2_addFactor ⟨rfl, rfl⟩ (Nat.le_of_ble_eq_true rfl) (Nat.le_of_ble_eq_true rfl) 2 0 rfl rfl [0, 2] [1, 3, 4, 5, 6, 7, 8, 9, 10, 11] rfl rfl rfl rfl (by decide) rfl hl.1 rfl (Nat.le_of_ble_eq_true rfl) (Nat.zero_le _) (Nat.zero_le _) dX2_readFactor_104 (fun H locs hP hD hS => ?_)
          refine lv_aload_n hx hb dX2_readFactor_107 rfl (lv_at hl 2 rfl) ?_
          refine lv_dup hx hb dX2_readFactor_108 rfl ?_
          refine va_get (D := D) (ci := 2) (v := .int o_many) (C := RX2) (T := TX2) (N := 9) hx hb hts u_X2 hown hK hP 10 rfl rfl 7 (by decide) k_f2 (fun _ h9 => h9) rfl dX2_readFactor_109 ?_
          refine lv_iconst (v := 1) hx hb dX2_readFactor_112 ic_1 ?_
          refine lv_iadd hx hb dX2_readFactor_113 ?_
          refine va_put (D := D) (ci := 2) (v := .int (o_many + 1)) (ty := .int) (C := RX2) (T := TX2) (N := 9) hx hb hts u_X2 tyX2 tyX2_ok nmX2 hown hK hP hD hS 10 rfl rfl 7 (by decide) k_f2 (fun _ h9 => h9) rfl (tyX2_ok 7 (by decide)) rfl rfl (Nat.le_of_ble_eq_true rfl) dX2_readFactor_114 (fun H locs hP hD hS => ?_)
          have hP : va_P D vwCl [(a_termsLeft, .inl (cI, 10, .inl f_termsLeft)), (a_tokens, .inr (6, [.ref a_tokens_text, .int z_65.1, .int z_65.2.1, .int z_65.2.2])), (a_tokens_text, .inr (5, [.ref a_tokens_text_bytes, .int tokens_text_size])), (a_tokens_text_bytes, .inl (cI, 200, .inl f_tokens_text_bytes)), (a_signs_tongue_values, .inl (cI, 3, .inl f_signs_tongue_values)), (a_signs, .inr (4, [.ref a_signs_tongue, .ref a_signs_kept])), (a_signs_tongue, .inr (7, [.ref a_signs_tongue_values, .ref a_signs_tongue_left, .int signs_tongue_choices, .int signs_tongue_worlds])), (a_signs_tongue_left, .inl (cI, 30, .inl f_signs_tongue_left)), (a_signs_kept, .inr (0, [w_signs_kept_left, w_signs_kept_signs, .ref a_signs_kept_wordSets, .int signs_kept_sayings, .int signs_kept_words, .int signs_kept_filled])), (a_signs_kept_wordSets, .inl (cI, 3, .inl f_signs_kept_wordSets)), (a_o, .inr (2, [.ref a_tokens, .ref a_signs, w_o_values, .int o_choices, .ref a_termsLeft, .ref a_factorsLeft, .int o_depth, .int (o_many + 1), .int z_104.1])), (a_factorsLeft, .inl (cI, 10, .inl z_104.2))] H := hP
          have hD : va_D A [(a_termsLeft, .inl (cI, 10, .inl f_termsLeft)), (a_tokens, .inr (6, [.ref a_tokens_text, .int z_65.1, .int z_65.2.1, .int z_65.2.2])), (a_tokens_text, .inr (5, [.ref a_tokens_text_bytes, .int tokens_text_size])), (a_tokens_text_bytes, .inl (cI, 200, .inl f_tokens_text_bytes)), (a_signs_tongue_values, .inl (cI, 3, .inl f_signs_tongue_values)), (a_signs, .inr (4, [.ref a_signs_tongue, .ref a_signs_kept])), (a_signs_tongue, .inr (7, [.ref a_signs_tongue_values, .ref a_signs_tongue_left, .int signs_tongue_choices, .int signs_tongue_worlds])), (a_signs_tongue_left, .inl (cI, 30, .inl f_signs_tongue_left)), (a_signs_kept, .inr (0, [w_signs_kept_left, w_signs_kept_signs, .ref a_signs_kept_wordSets, .int signs_kept_sayings, .int signs_kept_words, .int signs_kept_filled])), (a_signs_kept_wordSets, .inl (cI, 3, .inl f_signs_kept_wordSets)), (a_o, .inr (2, [.ref a_tokens, .ref a_signs, w_o_values, .int o_choices, .ref a_termsLeft, .ref a_factorsLeft, .int o_depth, .int (o_many + 1), .int z_104.1])), (a_factorsLeft, .inl (cI, 10, .inl z_104.2))] := hD
          refine lv_iconst (v := 1) hx hb dX2_readFactor_117 ic_1 ?_
          have hz := Option.some.inj h
          subst hz
          exact hret H locs 118 ls (fun ty h => by cases h; exact nar_1) (hP.sub [10, 1, 2, 3, 5, 6, 4, 7, 8, 9, 0, 11] rfl) (hD.sub [10, 1, 2, 3, 5, 6, 4, 7, 8, 9, 0, 11] (by decide) rfl) hS dX2_readFactor_118
        · replace h := if_e c_89 h
          refine lv_iconst (v := 0) hx hb dX2_readFactor_92 ic_0 ?_
          have hz := Option.some.inj h
          subst hz
          exact hret H locs 93 ls (fun ty h => by cases h; exact nar_0) (hP.sub [0, 5, 6, 7, 8, 9, 10, 1, 11, 2, 3, 4] rfl) (hD.sub [0, 5, 6, 7, 8, 9, 10, 1, 11, 2, 3, 4] (by decide) rfl) hS dX2_readFactor_93
    · replace h := it_e c_56 h
      refine lv_iconst (v := 0) hx hb dX2_readFactor_59 ic_0 ?_
      have hz := Option.some.inj h
      subst hz
      exact hret H locs 60 ls (fun ty h => by cases h; exact nar_0) (hP.sub [0, 7, 8, 9, 10, 11, 1, 2, 3, 4, 5, 6] rfl) (hD.sub [0, 7, 8, 9, 10, 11, 1, 2, 3, 4, 5, 6] (by decide) rfl) hS dX2_readFactor_60
  · replace h := if_e c_9 h
    refine lv_aload_n hx hb dX2_readFactor_12 rfl (lv_at hl 0 rfl) ?_
    refine va_get (D := D) (ci := 2) (v := .int o_depth) (C := RX2) (T := TX2) (N := 9) hx hb hts u_X2 hown hK hP 0 rfl rfl 6 (by decide) k_f3 (fun _ h9 => h9) rfl dX2_readFactor_13 ?_
    refine lv_bipush (v := 9) hx hb dX2_readFactor_16 bc_9 ?_
    refine lv_icmp_ne (tgt := 23) hx hb dX2_readFactor_18 (by decide) (fun c_18 => ?_) (fun c_18 => ?_)
    · replace h := if_e c_18 h
      refine lv_aload_n hx hb dX2_readFactor_23 rfl (lv_at hl 0 rfl) ?_
      refine lv_dup hx hb dX2_readFactor_24 rfl ?_
      refine va_get (D := D) (ci := 2) (v := .int o_depth) (C := RX2) (T := TX2) (N := 9) hx hb hts u_X2 hown hK hP 0 rfl rfl 6 (by decide) k_f3 (fun _ h9 => h9) rfl dX2_readFactor_25 ?_
      refine lv_iconst (v := 1) hx hb dX2_readFactor_28 ic_1 ?_
      refine lv_iadd hx hb dX2_readFactor_29 ?_
      refine va_put (D := D) (ci := 2) (v := .int (o_depth + 1)) (ty := .int) (C := RX2) (T := TX2) (N := 9) hx hb hts u_X2 tyX2 tyX2_ok nmX2 hown hK hP hD hS 0 rfl rfl 6 (by decide) k_f3 (fun _ h9 => h9) rfl (tyX2_ok 6 (by decide)) rfl rfl (Nat.le_of_ble_eq_true rfl) dX2_readFactor_30 (fun H locs hP hD hS => ?_)
      have hP : va_P D vwCl [(a_o, .inr (2, [.ref a_tokens, .ref a_signs, w_o_values, .int o_choices, .ref a_termsLeft, .ref a_factorsLeft, .int (o_depth + 1), .int o_many, .int o_factorDue])), (a_tokens_text, .inr (5, [.ref a_tokens_text_bytes, .int tokens_text_size])), (a_tokens_text_bytes, .inl (cI, 200, .inl f_tokens_text_bytes)), (a_signs, .inr (4, [.ref a_signs_tongue, .ref a_signs_kept])), (a_signs_tongue, .inr (7, [.ref a_signs_tongue_values, .ref a_signs_tongue_left, .int signs_tongue_choices, .int signs_tongue_worlds])), (a_signs_tongue_values, .inl (cI, 3, .inl f_signs_tongue_values)), (a_signs_tongue_left, .inl (cI, 30, .inl f_signs_tongue_left)), (a_signs_kept, .inr (0, [w_signs_kept_left, w_signs_kept_signs, .ref a_signs_kept_wordSets, .int signs_kept_sayings, .int signs_kept_words, .int signs_kept_filled])), (a_signs_kept_wordSets, .inl (cI, 3, .inl f_signs_kept_wordSets)), (a_termsLeft, .inl (cI, 10, .inl f_termsLeft)), (a_factorsLeft, .inl (cI, 10, .inl f_factorsLeft)), (a_tokens, .inr (6, [.ref a_tokens_text, .int tokens_next, .int tokens_place, .int tokens_kind]))] H := hP
      have hD : va_D A [(a_o, .inr (2, [.ref a_tokens, .ref a_signs, w_o_values, .int o_choices, .ref a_termsLeft, .ref a_factorsLeft, .int (o_depth + 1), .int o_many, .int o_factorDue])), (a_tokens_text, .inr (5, [.ref a_tokens_text_bytes, .int tokens_text_size])), (a_tokens_text_bytes, .inl (cI, 200, .inl f_tokens_text_bytes)), (a_signs, .inr (4, [.ref a_signs_tongue, .ref a_signs_kept])), (a_signs_tongue, .inr (7, [.ref a_signs_tongue_values, .ref a_signs_tongue_left, .int signs_tongue_choices, .int signs_tongue_worlds])), (a_signs_tongue_values, .inl (cI, 3, .inl f_signs_tongue_values)), (a_signs_tongue_left, .inl (cI, 30, .inl f_signs_tongue_left)), (a_signs_kept, .inr (0, [w_signs_kept_left, w_signs_kept_signs, .ref a_signs_kept_wordSets, .int signs_kept_sayings, .int signs_kept_words, .int signs_kept_filled])), (a_signs_kept_wordSets, .inl (cI, 3, .inl f_signs_kept_wordSets)), (a_termsLeft, .inl (cI, 10, .inl f_termsLeft)), (a_factorsLeft, .inl (cI, 10, .inl f_factorsLeft)), (a_tokens, .inr (6, [.ref a_tokens_text, .int tokens_next, .int tokens_place, .int tokens_kind]))] := hD
      refine lv_aload_n hx hb dX2_readFactor_33 rfl (lv_at hl 0 rfl) ?_
      obtain ⟨z_34, hc_34, h⟩ := bd_e h
      refine q_vV (As := []) (rest := []) (wF := [(a_tokens_text, .inr (5, [.ref a_tokens_text_bytes, .int tokens_text_size])), (a_tokens_text_bytes, .inl (cI, 200, .inl f_tokens_text_bytes)), (a_signs_tongue_values, .inl (cI, 3, .inl f_signs_tongue_values)), (a_signs_tongue_left, .inl (cI, 30, .inl f_signs_tongue_left)), (a_signs_kept, .inr (0, [w_signs_kept_left, w_signs_kept_signs, .ref a_signs_kept_wordSets, .int signs_kept_sayings, .int signs_kept_words, .int signs_kept_filled])), (a_signs_kept_wordSets, .inl (cI, 3, .inl f_signs_kept_wordSets)), (a_tokens, .inr (6, [.ref a_tokens_text, .int tokens_next, .int tokens_place, .int tokens_kind])), (a_o, .inr (2, [.ref a_tokens, .ref a_signs, w_o_values, .int o_choices, .ref a_termsLeft, .ref a_factorsLeft, .int (o_depth + 1), .int o_many, .int z_34.1])), (a_signs, .inr (4, [.ref a_signs_tongue, .ref a_signs_kept])), (a_signs_tongue, .inr (7, [.ref a_signs_tongue_values, .ref a_signs_tongue_left, .int signs_tongue_choices, .int signs_tongue_worlds])), (a_termsLeft, .inl (cI, 10, .inl z_34.2.1)), (a_factorsLeft, .inl (cI, 10, .inl z_34.2.2))]) hF hA hZ hK hP hD hS (c_X2_openLevel l D cI cB cZ a_o (.ref a_tokens) w_o_values o_choices (o_depth + 1) o_many o_factorDue a_signs (.ref a_signs_kept) a_signs_tongue (.ref a_signs_tongue_values) (.ref a_signs_tongue_left) signs_tongue_choices signs_tongue_worlds a_termsLeft f_termsLeft a_factorsLeft f_factorsLeft z_34 hc_34) rfl gX2_readFactor_X2_openLevel hdX2_openLevel ⟨rfl, rfl⟩ (Nat.le_of_ble_eq_true rfl) (Nat.le_of_ble_eq_true rfl) 2 0 rfl rfl [0, 3, 4, 9, 10] [1, 2, 5, 6, 7, 8, 11] rfl rfl rfl rfl (by decide) rfl hl.1 rfl (Nat.le_of_ble_eq_true rfl) (Nat.zero_le _) (Nat.zero_le _) dX2_readFactor_34 (fun H locs hP hD hS => ?_)
      refine lv_iconst (v := 1) hx hb dX2_readFactor_37 ic_1 ?_
      have hz := Option.some.inj h
      subst hz
      exact hret H locs 38 ls (fun ty h => by cases h; exact nar_1) (hP.sub [7, 6, 0, 1, 8, 9, 2, 3, 4, 5, 10, 11] rfl) (hD.sub [7, 6, 0, 1, 8, 9, 2, 3, 4, 5, 10, 11] (by decide) rfl) hS dX2_readFactor_38
    · replace h := it_e c_18 h
      refine lv_iconst (v := 0) hx hb dX2_readFactor_21 ic_0 ?_
      have hz := Option.some.inj h
      subst hz
      exact hret H locs 22 ls (fun ty h => by cases h; exact nar_0) (hP.sub [0, 11, 1, 2, 3, 4, 5, 6, 7, 8, 9, 10] rfl) (hD.sub [0, 11, 1, 2, 3, 4, 5, 6, 7, 8, 9, 10] (by decide) rfl) hS dX2_readFactor_22
abbrev rmX2_levelLeft : Room := { frames := 1, cells := 0, slots := 0, locals := 21 }
theorem hdX2_levelLeft : yX2_levelLeft.cls = RX2 ∧ yX2_levelLeft.cls ≠ "java/lang/invoke/MethodHandle" ∧ yX2_levelLeft.cls ≠ "java/lang/invoke/VarHandle" ∧ (parseMethodDescriptor yX2_levelLeft.desc).map (fun d => d.parameters.length) = some 0 := by decide +kernel
set_option maxRecDepth 100000 in
set_option maxHeartbeats 4000000 in
theorem c_X2_levelLeft (l : Launch) (D : va_G) (cI cB cZ : ClassId) (a_o : Nat) (w_o_tokens : Value) (w_o_signs : Value) (w_o_values : Value) (o_choices : Int32) (o_depth : Int32) (o_many : Int32) (o_factorDue : Int32) (a_termsLeft : Nat) (f_termsLeft : Nat → Int32) (a_factorsLeft : Nat) (f_factorsLeft : Nat → Int32) (z : Int32) (h : P_X2_levelLeft o_depth f_termsLeft f_factorsLeft = some z) : KI l yX2_levelLeft wsX2_levelLeft rmX2_levelLeft D [(cI, .int), (cB, .byte), (cZ, .boolean)] [.ref a_o] [(a_o, .inr (2, [w_o_tokens, w_o_signs, w_o_values, .int o_choices, .ref a_termsLeft, .ref a_factorsLeft, .int o_depth, .int o_many, .int o_factorDue])), (a_termsLeft, .inl (cI, 10, .inl f_termsLeft)), (a_factorsLeft, .inl (cI, 10, .inl f_factorsLeft))] [(a_o, .inr (2, [w_o_tokens, w_o_signs, w_o_values, .int o_choices, .ref a_termsLeft, .ref a_factorsLeft, .int o_depth, .int o_many, .int o_factorDue])), (a_termsLeft, .inl (cI, 10, .inl f_termsLeft)), (a_factorsLeft, .inl (cI, 10, .inl f_factorsLeft))] z := by
  refine KI_of (own := RX2) (cc := cX2_levelLeft) (maxL := 1) (ret := some .int) (by decide) rfl rfl (Nat.le_of_ble_eq_true rfl) (Or.inl rfl) ?_
  intro p e s m args below meth c A Q hx hb hml hown hts hA hZ hK hret H locs ls hP hD hS hl
  have hl : lv_has ls 1 [(0, .ref a_o)] := hl
  have hF : CallFix p m c cX2_levelLeft 1 s args wsX2_levelLeft RX2 := ⟨hx, hb, hml, hown, hts⟩
  have u_X2 : ∀ w ∈ u_ws RX2 TX2 9, w ∈ wsX2_levelLeft := by decide +kernel
  have k_f0 := hts (.fieldLink RX2 19 "NoWordNo$Reader" "termsLeft" "[I") (by decide +kernel)
  have k_f1 := hts (.fieldLink RX2 25 "NoWordNo$Reader" "depth" "I") (by decide +kernel)
  have k_f2 := hts (.fieldLink RX2 22 "NoWordNo$Reader" "factorsLeft" "[I") (by decide +kernel)
  unfold P_X2_levelLeft at h
  refine lv_aload_n hx hb dX2_levelLeft_0 rfl (lv_at hl 0 rfl) ?_
  refine va_get (D := D) (ci := 2) (v := .ref a_termsLeft) (C := RX2) (T := TX2) (N := 9) hx hb hts u_X2 hown hK hP 0 rfl rfl 4 (by decide) k_f0 (fun _ h9 => h9) rfl dX2_levelLeft_1 ?_
  refine lv_aload_n hx hb dX2_levelLeft_4 rfl (lv_at hl 0 rfl) ?_
  refine va_get (D := D) (ci := 2) (v := .int o_depth) (C := RX2) (T := TX2) (N := 9) hx hb hts u_X2 hown hK hP 0 rfl rfl 6 (by decide) k_f1 (fun _ h9 => h9) rfl dX2_levelLeft_5 ?_
  obtain ⟨z_8, hc_8, h⟩ := bd_e h
  refine q_iS (As := [.ref a_termsLeft, .int o_depth]) (rest := []) (wF := [(a_o, .inr (2, [w_o_tokens, w_o_signs, w_o_values, .int o_choices, .ref a_termsLeft, .ref a_factorsLeft, .int o_depth, .int o_many, .int o_factorDue])), (a_factorsLeft, .inl (cI, 10, .inl f_factorsLeft)), (a_termsLeft, .inl (cI, 10, .inl f_termsLeft))]) hF hA hZ hK hP hD hS (c_X4_at l D cI cB cZ a_termsLeft 10 f_termsLeft o_depth z_8 hc_8) rfl gX2_levelLeft_X4_at hdX4_at ⟨rfl, rfl⟩ (Nat.le_of_ble_eq_true rfl) (Nat.le_of_ble_eq_true rfl) [1] [0, 2] rfl rfl rfl rfl (by decide) rfl hl.1 rfl (Nat.le_of_ble_eq_true rfl) (Nat.zero_le _) (Nat.zero_le _) dX2_levelLeft_8 (fun H locs hP hD hS => ?_)
  refine lv_aload_n hx hb dX2_levelLeft_11 rfl (lv_at hl 0 rfl) ?_
  refine va_get (D := D) (ci := 2) (v := .ref a_factorsLeft) (C := RX2) (T := TX2) (N := 9) hx hb hts u_X2 hown hK hP 0 rfl rfl 5 (by decide) k_f2 (fun _ h9 => h9) rfl dX2_levelLeft_12 ?_
  refine lv_aload_n hx hb dX2_levelLeft_15 rfl (lv_at hl 0 rfl) ?_
  refine va_get (D := D) (ci := 2) (v := .int o_depth) (C := RX2) (T := TX2) (N := 9) hx hb hts u_X2 hown hK hP 0 rfl rfl 6 (by decide) k_f1 (fun _ h9 => h9) rfl dX2_levelLeft_16 ?_
  obtain ⟨z_19, hc_19, h⟩ := bd_e h
  refine q_iS (As := [.ref a_factorsLeft, .int o_depth]) (rest := [.int z_8]) (wF := [(a_o, .inr (2, [w_o_tokens, w_o_signs, w_o_values, .int o_choices, .ref a_termsLeft, .ref a_factorsLeft, .int o_depth, .int o_many, .int o_factorDue])), (a_termsLeft, .inl (cI, 10, .inl f_termsLeft)), (a_factorsLeft, .inl (cI, 10, .inl f_factorsLeft))]) hF hA hZ hK hP hD hS (c_X4_at l D cI cB cZ a_factorsLeft 10 f_factorsLeft o_depth z_19 hc_19) rfl gX2_levelLeft_X4_at hdX4_at ⟨rfl, rfl⟩ (Nat.le_of_ble_eq_true rfl) (Nat.le_of_ble_eq_true rfl) [1] [0, 2] rfl rfl rfl rfl (by decide) rfl hl.1 rfl (Nat.le_of_ble_eq_true rfl) (Nat.zero_le _) (Nat.zero_le _) dX2_levelLeft_19 (fun H locs hP hD hS => ?_)
  refine lv_ior hx hb dX2_levelLeft_22 ?_
  have hz := Option.some.inj h
  subst hz
  exact hret H locs 23 ls (fun ty h => by cases h; rfl) hP hD hS dX2_levelLeft_23
abbrev rmX2_readBehindFactor : Room := { frames := 2, cells := 0, slots := 0, locals := 43 }
theorem hdX2_readBehindFactor : yX2_readBehindFactor.cls = RX2 ∧ yX2_readBehindFactor.cls ≠ "java/lang/invoke/MethodHandle" ∧ yX2_readBehindFactor.cls ≠ "java/lang/invoke/VarHandle" ∧ (parseMethodDescriptor yX2_readBehindFactor.desc).map (fun d => d.parameters.length) = some 0 := by decide +kernel
set_option maxRecDepth 100000 in
set_option maxHeartbeats 4000000 in
theorem c_X2_readBehindFactor (l : Launch) (D : va_G) (cI cB cZ : ClassId) (a_o : Nat) (w_o_values : Value) (o_choices : Int32) (o_depth : Int32) (o_many : Int32) (o_factorDue : Int32) (a_tokens : Nat) (w_tokens_text : Value) (tokens_next : Int32) (tokens_place : Int32) (tokens_kind : Int32) (a_signs : Nat) (w_signs_kept : Value) (a_signs_tongue : Nat) (w_signs_tongue_values : Value) (w_signs_tongue_left : Value) (signs_tongue_choices : Int32) (signs_tongue_worlds : Int32) (a_termsLeft : Nat) (f_termsLeft : Nat → Int32) (a_factorsLeft : Nat) (f_factorsLeft : Nat → Int32) (z : Int32 × Int32 × Int32 × (Nat → Int32) × (Nat → Int32)) (h : P_X2_readBehindFactor o_depth o_factorDue tokens_kind signs_tongue_worlds f_termsLeft f_factorsLeft = some z) : KI l yX2_readBehindFactor wsX2_readBehindFactor rmX2_readBehindFactor D [(cI, .int), (cB, .byte), (cZ, .boolean)] [.ref a_o] [(a_o, .inr (2, [.ref a_tokens, .ref a_signs, w_o_values, .int o_choices, .ref a_termsLeft, .ref a_factorsLeft, .int o_depth, .int o_many, .int o_factorDue])), (a_tokens, .inr (6, [w_tokens_text, .int tokens_next, .int tokens_place, .int tokens_kind])), (a_signs, .inr (4, [.ref a_signs_tongue, w_signs_kept])), (a_signs_tongue, .inr (7, [w_signs_tongue_values, w_signs_tongue_left, .int signs_tongue_choices, .int signs_tongue_worlds])), (a_termsLeft, .inl (cI, 10, .inl f_termsLeft)), (a_factorsLeft, .inl (cI, 10, .inl f_factorsLeft))] [(a_o, .inr (2, [.ref a_tokens, .ref a_signs, w_o_values, .int o_choices, .ref a_termsLeft, .ref a_factorsLeft, .int z.2.1, .int o_many, .int z.2.2.1])), (a_tokens, .inr (6, [w_tokens_text, .int tokens_next, .int tokens_place, .int tokens_kind])), (a_signs, .inr (4, [.ref a_signs_tongue, w_signs_kept])), (a_signs_tongue, .inr (7, [w_signs_tongue_values, w_signs_tongue_left, .int signs_tongue_choices, .int signs_tongue_worlds])), (a_termsLeft, .inl (cI, 10, .inl z.2.2.2.1)), (a_factorsLeft, .inl (cI, 10, .inl z.2.2.2.2))] z.1 := by
  refine KI_of (own := RX2) (cc := cX2_readBehindFactor) (maxL := 2) (ret := some .boolean) (by decide) rfl rfl (Nat.le_of_ble_eq_true rfl) (Or.inr rfl) ?_
  intro p e s m args below meth c A Q hx hb hml hown hts hA hZ hK hret H locs ls hP hD hS hl
  have hl : lv_has ls 2 [(0, .ref a_o)] := hl
  have hF : CallFix p m c cX2_readBehindFactor 2 s args wsX2_readBehindFactor RX2 := ⟨hx, hb, hml, hown, hts⟩
  have u_X2 : ∀ w ∈ u_ws RX2 TX2 9, w ∈ wsX2_readBehindFactor := by decide +kernel
  have k_f0 := hts (.fieldLink RX2 40 "NoWordNo$Reader" "tokens" "LNoWordNo$Tokens;") (by decide +kernel)
  have k_f1 := hts (.fieldLink RX2 25 "NoWordNo$Reader" "depth" "I") (by decide +kernel)
  have k_f2 := hts (.fieldLink RX2 19 "NoWordNo$Reader" "termsLeft" "[I") (by decide +kernel)
  have k_f3 := hts (.fieldLink RX2 22 "NoWordNo$Reader" "factorsLeft" "[I") (by decide +kernel)
  have k_f4 := hts (.fieldLink RX2 44 "NoWordNo$Reader" "signs" "LNoWordNo$Signs;") (by decide +kernel)
  have k_f5 := hts (.fieldLink RX2 31 "NoWordNo$Reader" "factorDue" "Z") (by decide +kernel)
  unfold P_X2_readBehindFactor at h
  refine lv_aload_n hx hb dX2_readBehindFactor_0 rfl (lv_at hl 0 rfl) ?_
  refine va_get (D := D) (ci := 2) (v := .ref a_tokens) (C := RX2) (T := TX2) (N := 9) hx hb hts u_X2 hown hK hP 0 rfl rfl 0 (by decide) k_f0 (fun _ h9 => h9) rfl dX2_readBehindFactor_1 ?_
  refine lv_bipush (v := 38) hx hb dX2_readBehindFactor_4 bc_38 ?_
  obtain ⟨z_6, hc_6, h⟩ := bd_e h
  refine q_iV (As := [.int 38]) (rest := []) (wF := [(a_o, .inr (2, [.ref a_tokens, .ref a_signs, w_o_values, .int o_choices, .ref a_termsLeft, .ref a_factorsLeft, .int o_depth, .int o_many, .int o_factorDue])), (a_signs, .inr (4, [.ref a_signs_tongue, w_signs_kept])), (a_signs_tongue, .inr (7, [w_signs_tongue_values, w_signs_tongue_left, .int signs_tongue_choices, .int signs_tongue_worlds])), (a_termsLeft, .inl (cI, 10, .inl f_termsLeft)), (a_factorsLeft, .inl (cI, 10, .inl f_factorsLeft)), (a_tokens, .inr (6, [w_tokens_text, .int tokens_next, .int tokens_place, .int tokens_kind]))]) hF hA hZ hK hP hD hS (c_X7_is l D cI cB cZ a_tokens w_tokens_text tokens_next tokens_place tokens_kind 38 z_6 hc_6) rfl gX2_readBehindFactor_X7_is hdX7_is ⟨rfl, rfl⟩ (Nat.le_of_ble_eq_true rfl) (Nat.le_of_ble_eq_true rfl) 6 0 rfl rfl [1] [0, 2, 3, 4, 5] rfl rfl rfl rfl (by decide) rfl hl.1 rfl (Nat.le_of_ble_eq_true rfl) (Nat.zero_le _) (Nat.zero_le _) dX2_readBehindFactor_6 (fun H locs hP hD hS => ?_)
  refine lv_if_eq (tgt := 19) hx hb dX2_readBehindFactor_9 (by decide) (fun c_9 => ?_) (fun c_9 => ?_)
  · replace h := it_e c_9 h
    refine lv_aload_n hx hb dX2_readBehindFactor_19 rfl (lv_at hl 0 rfl) ?_
    refine va_get (D := D) (ci := 2) (v := .ref a_tokens) (C := RX2) (T := TX2) (N := 9) hx hb hts u_X2 hown hK hP 0 rfl rfl 0 (by decide) k_f0 (fun _ h9 => h9) rfl dX2_readBehindFactor_20 ?_
    refine lv_bipush (v := 124) hx hb dX2_readBehindFactor_23 bc_124 ?_
    obtain ⟨z_25, hc_25, h⟩ := bd_e h
    refine q_iV (As := [.int 124]) (rest := []) (wF := [(a_o, .inr (2, [.ref a_tokens, .ref a_signs, w_o_values, .int o_choices, .ref a_termsLeft, .ref a_factorsLeft, .int o_depth, .int o_many, .int o_factorDue])), (a_signs, .inr (4, [.ref a_signs_tongue, w_signs_kept])), (a_signs_tongue, .inr (7, [w_signs_tongue_values, w_signs_tongue_left, .int signs_tongue_choices, .int signs_tongue_worlds])), (a_termsLeft, .inl (cI, 10, .inl f_termsLeft)), (a_factorsLeft, .inl (cI, 10, .inl f_factorsLeft)), (a_tokens, .inr (6, [w_tokens_text, .int tokens_next, .int tokens_place, .int tokens_kind]))]) hF hA hZ hK hP hD hS (c_X7_is l D cI cB cZ a_tokens w_tokens_text tokens_next tokens_place tokens_kind 124 z_25 hc_25) rfl gX2_readBehindFactor_X7_is hdX7_is ⟨rfl, rfl⟩ (Nat.le_of_ble_eq_true rfl) (Nat.le_of_ble_eq_true rfl) 6 0 rfl rfl [5] [0, 1, 2, 3, 4] rfl rfl rfl rfl (by decide) rfl hl.1 rfl (Nat.le_of_ble_eq_true rfl) (Nat.zero_le _) (Nat.zero_le _) dX2_readBehindFactor_25 (fun H locs hP hD hS => ?_)
    refine lv_if_eq (tgt := 74) hx hb dX2_readBehindFactor_28 (by decide) (fun c_28 => ?_) (fun c_28 => ?_)
    · replace h := it_e c_28 h
      refine lv_aload_n hx hb dX2_readBehindFactor_74 rfl (lv_at hl 0 rfl) ?_
      refine va_get (D := D) (ci := 2) (v := .ref a_tokens) (C := RX2) (T := TX2) (N := 9) hx hb hts u_X2 hown hK hP 0 rfl rfl 0 (by decide) k_f0 (fun _ h9 => h9) rfl dX2_readBehindFactor_75 ?_
      refine lv_bipush (v := 41) hx hb dX2_readBehindFactor_78 bc_41 ?_
      obtain ⟨z_80, hc_80, h⟩ := bd_e h
      refine q_iV (As := [.int 41]) (rest := []) (wF := [(a_o, .inr (2, [.ref a_tokens, .ref a_signs, w_o_values, .int o_choices, .ref a_termsLeft, .ref a_factorsLeft, .int o_depth, .int o_many, .int o_factorDue])), (a_signs, .inr (4, [.ref a_signs_tongue, w_signs_kept])), (a_signs_tongue, .inr (7, [w_signs_tongue_values, w_signs_tongue_left, .int signs_tongue_choices, .int signs_tongue_worlds])), (a_termsLeft, .inl (cI, 10, .inl f_termsLeft)), (a_factorsLeft, .inl (cI, 10, .inl f_factorsLeft)), (a_tokens, .inr (6, [w_tokens_text, .int tokens_next, .int tokens_place, .int tokens_kind]))]) hF hA hZ hK hP hD hS (c_X7_is l D cI cB cZ a_tokens w_tokens_text tokens_next tokens_place tokens_kind 41 z_80 hc_80) rfl gX2_readBehindFactor_X7_is hdX7_is ⟨rfl, rfl⟩ (Nat.le_of_ble_eq_true rfl) (Nat.le_of_ble_eq_true rfl) 6 0 rfl rfl [5] [0, 1, 2, 3, 4] rfl rfl rfl rfl (by decide) rfl hl.1 rfl (Nat.le_of_ble_eq_true rfl) (Nat.zero_le _) (Nat.zero_le _) dX2_readBehindFactor_80 (fun H locs hP hD hS => ?_)
      refine lv_if_eq (tgt := 115) hx hb dX2_readBehindFactor_83 (by decide) (fun c_83 => ?_) (fun c_83 => ?_)
      · replace h := it_e c_83 h
        refine lv_iconst (v := 0) hx hb dX2_readBehindFactor_115 ic_0 ?_
        have hz := Option.some.inj h
        subst hz
        exact hret H locs 116 ls (fun ty h => by cases h; exact nar_0) (hP.sub [0, 5, 1, 2, 3, 4] rfl) (hD.sub [0, 5, 1, 2, 3, 4] (by decide) rfl) hS dX2_readBehindFactor_116
      · replace h := if_e c_83 h
        refine lv_aload_n hx hb dX2_readBehindFactor_86 rfl (lv_at hl 0 rfl) ?_
        refine va_get (D := D) (ci := 2) (v := .int o_depth) (C := RX2) (T := TX2) (N := 9) hx hb hts u_X2 hown hK hP 0 rfl rfl 6 (by decide) k_f1 (fun _ h9 => h9) rfl dX2_readBehindFactor_87 ?_
        refine lv_if_le (tgt := 115) hx hb dX2_readBehindFactor_90 (by decide) (fun c_90 => ?_) (fun c_90 => ?_)
        · replace h := it_e c_90 h
          refine lv_iconst (v := 0) hx hb dX2_readBehindFactor_115 ic_0 ?_
          have hz := Option.some.inj h
          subst hz
          exact hret H locs 116 ls (fun ty h => by cases h; exact nar_0) (hP.sub [0, 5, 1, 2, 3, 4] rfl) (hD.sub [0, 5, 1, 2, 3, 4] (by decide) rfl) hS dX2_readBehindFactor_116
        · replace h := if_e c_90 h
          refine lv_aload_n hx hb dX2_readBehindFactor_93 rfl (lv_at hl 0 rfl) ?_
          obtain ⟨z_94, hc_94, h⟩ := bd_e h
          refine q_iV (As := []) (rest := []) (wF := [(a_signs, .inr (4, [.ref a_signs_tongue, w_signs_kept])), (a_signs_tongue, .inr (7, [w_signs_tongue_values, w_signs_tongue_left, .int signs_tongue_choices, .int signs_tongue_worlds])), (a_tokens, .inr (6, [w_tokens_text, .int tokens_next, .int tokens_place, .int tokens_kind])), (a_o, .inr (2, [.ref a_tokens, .ref a_signs, w_o_values, .int o_choices, .ref a_termsLeft, .ref a_factorsLeft, .int o_depth, .int o_many, .int o_factorDue])), (a_termsLeft, .inl (cI, 10, .inl f_termsLeft)), (a_factorsLeft, .inl (cI, 10, .inl f_factorsLeft))]) hF hA hZ hK hP hD hS (c_X2_levelLeft l D cI cB cZ a_o (.ref a_tokens) (.ref a_signs) w_o_values o_choices o_depth o_many o_factorDue a_termsLeft f_termsLeft a_factorsLeft f_factorsLeft z_94 hc_94) rfl gX2_readBehindFactor_X2_levelLeft hdX2_levelLeft ⟨rfl, rfl⟩ (Nat.le_of_ble_eq_true rfl) (Nat.le_of_ble_eq_true rfl) 2 0 rfl rfl [0, 3, 4] [1, 2, 5] rfl rfl rfl rfl (by decide) rfl hl.1 rfl (Nat.le_of_ble_eq_true rfl) (Nat.zero_le _) (Nat.zero_le _) dX2_readBehindFactor_94 (fun H locs hP hD hS => ?_)
          refine lv_istore_n (lv' := [(1, .int z_94), (0, .ref a_o)]) hx hb dX2_readBehindFactor_97 rfl hl (by decide) rfl (fun ls hl => ?_)
          refine lv_aload_n hx hb dX2_readBehindFactor_98 rfl (lv_at hl 1 rfl) ?_
          refine lv_dup hx hb dX2_readBehindFactor_99 rfl ?_
          refine va_get (D := D) (ci := 2) (v := .int o_depth) (C := RX2) (T := TX2) (N := 9) hx hb hts u_X2 hown hK hP 3 rfl rfl 6 (by decide) k_f1 (fun _ h9 => h9) rfl dX2_readBehindFactor_100 ?_
          refine lv_iconst (v := 1) hx hb dX2_readBehindFactor_103 ic_1 ?_
          refine lv_isub hx hb dX2_readBehindFactor_104 ?_
          refine va_put (D := D) (ci := 2) (v := .int (o_depth - 1)) (ty := .int) (C := RX2) (T := TX2) (N := 9) hx hb hts u_X2 tyX2 tyX2_ok nmX2 hown hK hP hD hS 3 rfl rfl 6 (by decide) k_f1 (fun _ h9 => h9) rfl (tyX2_ok 6 (by decide)) rfl rfl (Nat.le_of_ble_eq_true rfl) dX2_readBehindFactor_105 (fun H locs hP hD hS => ?_)
          have hP : va_P D vwCl [(a_signs, .inr (4, [.ref a_signs_tongue, w_signs_kept])), (a_signs_tongue, .inr (7, [w_signs_tongue_values, w_signs_tongue_left, .int signs_tongue_choices, .int signs_tongue_worlds])), (a_tokens, .inr (6, [w_tokens_text, .int tokens_next, .int tokens_place, .int tokens_kind])), (a_o, .inr (2, [.ref a_tokens, .ref a_signs, w_o_values, .int o_choices, .ref a_termsLeft, .ref a_factorsLeft, .int (o_depth - 1), .int o_many, .int o_factorDue])), (a_termsLeft, .inl (cI, 10, .inl f_termsLeft)), (a_factorsLeft, .inl (cI, 10, .inl f_factorsLeft))] H := hP
          have hD : va_D A [(a_signs, .inr (4, [.ref a_signs_tongue, w_signs_kept])), (a_signs_tongue, .inr (7, [w_signs_tongue_values, w_signs_tongue_left, .int signs_tongue_choices, .int signs_tongue_worlds])), (a_tokens, .inr (6, [w_tokens_text, .int tokens_next, .int tokens_place, .int tokens_kind])), (a_o, .inr (2, [.ref a_tokens, .ref a_signs, w_o_values, .int o_choices, .ref a_termsLeft, .ref a_factorsLeft, .int (o_depth - 1), .int o_many, .int o_factorDue])), (a_termsLeft, .inl (cI, 10, .inl f_termsLeft)), (a_factorsLeft, .inl (cI, 10, .inl f_factorsLeft))] := hD
          refine lv_aload_n hx hb dX2_readBehindFactor_108 rfl (lv_at hl 1 rfl) ?_
          refine lv_iload_n hx hb dX2_readBehindFactor_109 rfl (lv_at hl 0 rfl) ?_
          obtain ⟨z_110, hc_110, h⟩ := bd_e h
          refine q_vV (As := [.int z_94]) (rest := []) (wF := [(a_signs, .inr (4, [.ref a_signs_tongue, w_signs_kept])), (a_signs_tongue, .inr (7, [w_signs_tongue_values, w_signs_tongue_left, .int signs_tongue_choices, .int signs_tongue_worlds])), (a_tokens, .inr (6, [w_tokens_text, .int tokens_next, .int tokens_place, .int tokens_kind])), (a_termsLeft, .inl (cI, 10, .inl f_termsLeft)), (a_o, .inr (2, [.ref a_tokens, .ref a_signs, w_o_values, .int o_choices, .ref a_termsLeft, .ref a_factorsLeft, .int (o_depth - 1), .int o_many, .int z_110.1])), (a_factorsLeft, .inl (cI, 10, .inl z_110.2))]) hF hA hZ hK hP hD hS (c_X2_addFactor l D cI cB cZ a_o (.ref a_tokens) (.ref a_signs) w_o_values o_choices (.ref a_termsLeft) (o_depth - 1) o_many o_factorDue a_factorsLeft f_factorsLeft z_94 z_110 hc_110) rfl gX2_readBehindFactor_X2_addFactor hdX2_addFactor ⟨rfl, rfl⟩ (Nat.le_of_ble_eq_true rfl) (Nat.le_of_ble_eq_true rfl) 2 0 rfl rfl [3, 5] [0, 1, 2, 4] rfl rfl rfl rfl (by decide) rfl hl.1 rfl (Nat.le_of_ble_eq_true rfl) (Nat.zero_le _) (Nat.zero_le _) dX2_readBehindFactor_110 (fun H locs hP hD hS => ?_)
          refine lv_iconst (v := 1) hx hb dX2_readBehindFactor_113 ic_1 ?_
          have hz := Option.some.inj h
          subst hz
          exact hret H locs 114 ls (fun ty h => by cases h; exact nar_1) (hP.sub [4, 2, 0, 1, 3, 5] rfl) (hD.sub [4, 2, 0, 1, 3, 5] (by decide) rfl) hS dX2_readBehindFactor_114
    · replace h := if_e c_28 h
      refine lv_aload_n hx hb dX2_readBehindFactor_31 rfl (lv_at hl 0 rfl) ?_
      refine va_get (D := D) (ci := 2) (v := .ref a_termsLeft) (C := RX2) (T := TX2) (N := 9) hx hb hts u_X2 hown hK hP 0 rfl rfl 4 (by decide) k_f2 (fun _ h9 => h9) rfl dX2_readBehindFactor_32 ?_
      refine lv_aload_n hx hb dX2_readBehindFactor_35 rfl (lv_at hl 0 rfl) ?_
      refine va_get (D := D) (ci := 2) (v := .int o_depth) (C := RX2) (T := TX2) (N := 9) hx hb hts u_X2 hown hK hP 0 rfl rfl 6 (by decide) k_f1 (fun _ h9 => h9) rfl dX2_readBehindFactor_36 ?_
      refine lv_aload_n hx hb dX2_readBehindFactor_39 rfl (lv_at hl 0 rfl) ?_
      obtain ⟨z_40, hc_40, h⟩ := bd_e h
      refine q_iV (As := []) (rest := [.int o_depth, .ref a_termsLeft]) (wF := [(a_signs, .inr (4, [.ref a_signs_tongue, w_signs_kept])), (a_signs_tongue, .inr (7, [w_signs_tongue_values, w_signs_tongue_left, .int signs_tongue_choices, .int signs_tongue_worlds])), (a_tokens, .inr (6, [w_tokens_text, .int tokens_next, .int tokens_place, .int tokens_kind])), (a_o, .inr (2, [.ref a_tokens, .ref a_signs, w_o_values, .int o_choices, .ref a_termsLeft, .ref a_factorsLeft, .int o_depth, .int o_many, .int o_factorDue])), (a_termsLeft, .inl (cI, 10, .inl f_termsLeft)), (a_factorsLeft, .inl (cI, 10, .inl f_factorsLeft))]) hF hA hZ hK hP hD hS (c_X2_levelLeft l D cI cB cZ a_o (.ref a_tokens) (.ref a_signs) w_o_values o_choices o_depth o_many o_factorDue a_termsLeft f_termsLeft a_factorsLeft f_factorsLeft z_40 hc_40) rfl gX2_readBehindFactor_X2_levelLeft hdX2_levelLeft ⟨rfl, rfl⟩ (Nat.le_of_ble_eq_true rfl) (Nat.le_of_ble_eq_true rfl) 2 0 rfl rfl [0, 3, 4] [1, 2, 5] rfl rfl rfl rfl (by decide) rfl hl.1 rfl (Nat.le_of_ble_eq_true rfl) (Nat.zero_le _) (Nat.zero_le _) dX2_readBehindFactor_40 (fun H locs hP hD hS => ?_)
      obtain ⟨z_43, hc_43, h⟩ := bd_e h
      refine q_vS (As := [.ref a_termsLeft, .int o_depth, .int z_40]) (rest := []) (wF := [(a_signs, .inr (4, [.ref a_signs_tongue, w_signs_kept])), (a_signs_tongue, .inr (7, [w_signs_tongue_values, w_signs_tongue_left, .int signs_tongue_choices, .int signs_tongue_worlds])), (a_tokens, .inr (6, [w_tokens_text, .int tokens_next, .int tokens_place, .int tokens_kind])), (a_o, .inr (2, [.ref a_tokens, .ref a_signs, w_o_values, .int o_choices, .ref a_termsLeft, .ref a_factorsLeft, .int o_depth, .int o_many, .int o_factorDue])), (a_factorsLeft, .inl (cI, 10, .inl f_factorsLeft)), (a_termsLeft, .inl (cI, 10, .inl z_43))]) hF hA hZ hK hP hD hS (c_X4_put l D cI cB cZ a_termsLeft 10 f_termsLeft o_depth z_40 z_43 hc_43) rfl gX2_readBehindFactor_X4_put hdX4_put ⟨rfl, rfl⟩ (Nat.le_of_ble_eq_true rfl) (Nat.le_of_ble_eq_true rfl) [4] [0, 1, 2, 3, 5] rfl rfl rfl rfl (by decide) rfl hl.1 rfl (Nat.le_of_ble_eq_true rfl) (Nat.zero_le _) (Nat.zero_le _) dX2_readBehindFactor_43 (fun H locs hP hD hS => ?_)
      refine lv_aload_n hx hb dX2_readBehindFactor_46 rfl (lv_at hl 0 rfl) ?_
      refine va_get (D := D) (ci := 2) (v := .ref a_factorsLeft) (C := RX2) (T := TX2) (N := 9) hx hb hts u_X2 hown hK hP 3 rfl rfl 5 (by decide) k_f3 (fun _ h9 => h9) rfl dX2_readBehindFactor_47 ?_
      refine lv_aload_n hx hb dX2_readBehindFactor_50 rfl (lv_at hl 0 rfl) ?_
      refine va_get (D := D) (ci := 2) (v := .int o_depth) (C := RX2) (T := TX2) (N := 9) hx hb hts u_X2 hown hK hP 3 rfl rfl 6 (by decide) k_f1 (fun _ h9 => h9) rfl dX2_readBehindFactor_51 ?_
      refine lv_aload_n hx hb dX2_readBehindFactor_54 rfl (lv_at hl 0 rfl) ?_
      refine va_get (D := D) (ci := 2) (v := .ref a_signs) (C := RX2) (T := TX2) (N := 9) hx hb hts u_X2 hown hK hP 3 rfl rfl 1 (by decide) k_f4 (fun _ h9 => h9) rfl dX2_readBehindFactor_55 ?_
      refine q_rV (As := []) (rest := [.int o_depth, .ref a_factorsLeft]) (wF := [(a_tokens, .inr (6, [w_tokens_text, .int tokens_next, .int tokens_place, .int tokens_kind])), (a_o, .inr (2, [.ref a_tokens, .ref a_signs, w_o_values, .int o_choices, .ref a_termsLeft, .ref a_factorsLeft, .int o_depth, .int o_many, .int o_factorDue])), (a_factorsLeft, .inl (cI, 10, .inl f_factorsLeft)), (a_termsLeft, .inl (cI, 10, .inl z_43)), (a_signs, .inr (4, [.ref a_signs_tongue, w_signs_kept])), (a_signs_tongue, .inr (7, [w_signs_tongue_values, w_signs_tongue_left, .int signs_tongue_choices, .int signs_tongue_worlds]))]) hF hA hZ hK hP hD hS (c_X5_speech l D cI cB cZ a_signs w_signs_kept a_signs_tongue w_signs_tongue_values w_signs_tongue_left signs_tongue_choices signs_tongue_worlds) rfl gX2_readBehindFactor_X5_speech hdX5_speech ⟨rfl, rfl⟩ (Nat.le_of_ble_eq_true rfl) (Nat.le_of_ble_eq_true rfl) 4 0 rfl rfl [0, 1] [2, 3, 4, 5] rfl rfl rfl rfl (by decide) rfl hl.1 rfl (Nat.le_of_ble_eq_true rfl) (Nat.zero_le _) (Nat.zero_le _) dX2_readBehindFactor_58 (fun H locs hP hD hS => ?_)
      obtain ⟨z_61, hc_61, h⟩ := bd_e h
      refine q_iV (As := []) (rest := [.int o_depth, .ref a_factorsLeft]) (wF := [(a_tokens, .inr (6, [w_tokens_text, .int tokens_next, .int tokens_place, .int tokens_kind])), (a_o, .inr (2, [.ref a_tokens, .ref a_signs, w_o_values, .int o_choices, .ref a_termsLeft, .ref a_factorsLeft, .int o_depth, .int o_many, .int o_factorDue])), (a_factorsLeft, .inl (cI, 10, .inl f_factorsLeft)), (a_termsLeft, .inl (cI, 10, .inl z_43)), (a_signs, .inr (4, [.ref a_signs_tongue, w_signs_kept])), (a_signs_tongue, .inr (7, [w_signs_tongue_values, w_signs_tongue_left, .int signs_tongue_choices, .int signs_tongue_worlds]))]) hF hA hZ hK hP hD hS (c_X8_all l D cI cB cZ a_signs_tongue w_signs_tongue_values w_signs_tongue_left signs_tongue_choices signs_tongue_worlds z_61 hc_61) rfl gX2_readBehindFactor_X8_all hdX8_all ⟨rfl, rfl⟩ (Nat.le_of_ble_eq_true rfl) (Nat.le_of_ble_eq_true rfl) 7 0 rfl rfl [5] [0, 1, 2, 3, 4] rfl rfl rfl rfl (by decide) rfl hl.1 rfl (Nat.le_of_ble_eq_true rfl) (Nat.zero_le _) (Nat.zero_le _) dX2_readBehindFactor_61 (fun H locs hP hD hS => ?_)
      obtain ⟨z_64, hc_64, h⟩ := bd_e h
      refine q_vS (As := [.ref a_factorsLeft, .int o_depth, .int z_61]) (rest := []) (wF := [(a_tokens, .inr (6, [w_tokens_text, .int tokens_next, .int tokens_place, .int tokens_kind])), (a_o, .inr (2, [.ref a_tokens, .ref a_signs, w_o_values, .int o_choices, .ref a_termsLeft, .ref a_factorsLeft, .int o_depth, .int o_many, .int o_factorDue])), (a_termsLeft, .inl (cI, 10, .inl z_43)), (a_signs, .inr (4, [.ref a_signs_tongue, w_signs_kept])), (a_signs_tongue, .inr (7, [w_signs_tongue_values, w_signs_tongue_left, .int signs_tongue_choices, .int signs_tongue_worlds])), (a_factorsLeft, .inl (cI, 10, .inl z_64))]) hF hA hZ hK hP hD hS (c_X4_put l D cI cB cZ a_factorsLeft 10 f_factorsLeft o_depth z_61 z_64 hc_64) rfl gX2_readBehindFactor_X4_put hdX4_put ⟨rfl, rfl⟩ (Nat.le_of_ble_eq_true rfl) (Nat.le_of_ble_eq_true rfl) [2] [0, 1, 3, 4, 5] rfl rfl rfl rfl (by decide) rfl hl.1 rfl (Nat.le_of_ble_eq_true rfl) (Nat.zero_le _) (Nat.zero_le _) dX2_readBehindFactor_64 (fun H locs hP hD hS => ?_)
      refine lv_aload_n hx hb dX2_readBehindFactor_67 rfl (lv_at hl 0 rfl) ?_
      refine lv_iconst (v := 1) hx hb dX2_readBehindFactor_68 ic_1 ?_
      refine va_put (D := D) (ci := 2) (v := .int 1) (ty := .boolean) (C := RX2) (T := TX2) (N := 9) hx hb hts u_X2 tyX2 tyX2_ok nmX2 hown hK hP hD hS 1 rfl rfl 8 (by decide) k_f5 (fun _ h9 => h9) rfl (tyX2_ok 8 (by decide)) rfl rfl (Nat.le_of_ble_eq_true rfl) dX2_readBehindFactor_69 (fun H locs hP hD hS => ?_)
      have hP : va_P D vwCl [(a_tokens, .inr (6, [w_tokens_text, .int tokens_next, .int tokens_place, .int tokens_kind])), (a_o, .inr (2, [.ref a_tokens, .ref a_signs, w_o_values, .int o_choices, .ref a_termsLeft, .ref a_factorsLeft, .int o_depth, .int o_many, .int 1])), (a_termsLeft, .inl (cI, 10, .inl z_43)), (a_signs, .inr (4, [.ref a_signs_tongue, w_signs_kept])), (a_signs_tongue, .inr (7, [w_signs_tongue_values, w_signs_tongue_left, .int signs_tongue_choices, .int signs_tongue_worlds])), (a_factorsLeft, .inl (cI, 10, .inl z_64))] H := hP
      have hD : va_D A [(a_tokens, .inr (6, [w_tokens_text, .int tokens_next, .int tokens_place, .int tokens_kind])), (a_o, .inr (2, [.ref a_tokens, .ref a_signs, w_o_values, .int o_choices, .ref a_termsLeft, .ref a_factorsLeft, .int o_depth, .int o_many, .int 1])), (a_termsLeft, .inl (cI, 10, .inl z_43)), (a_signs, .inr (4, [.ref a_signs_tongue, w_signs_kept])), (a_signs_tongue, .inr (7, [w_signs_tongue_values, w_signs_tongue_left, .int signs_tongue_choices, .int signs_tongue_worlds])), (a_factorsLeft, .inl (cI, 10, .inl z_64))] := hD
      refine lv_iconst (v := 1) hx hb dX2_readBehindFactor_72 ic_1 ?_
      have hz := Option.some.inj h
      subst hz
      exact hret H locs 73 ls (fun ty h => by cases h; exact nar_1) (hP.sub [1, 0, 3, 4, 2, 5] rfl) (hD.sub [1, 0, 3, 4, 2, 5] (by decide) rfl) hS dX2_readBehindFactor_73
  · replace h := if_e c_9 h
    refine lv_aload_n hx hb dX2_readBehindFactor_12 rfl (lv_at hl 0 rfl) ?_
    refine lv_iconst (v := 1) hx hb dX2_readBehindFactor_13 ic_1 ?_
    refine va_put (D := D) (ci := 2) (v := .int 1) (ty := .boolean) (C := RX2) (T := TX2) (N := 9) hx hb hts u_X2 tyX2 tyX2_ok nmX2 hown hK hP hD hS 0 rfl rfl 8 (by decide) k_f5 (fun _ h9 => h9) rfl (tyX2_ok 8 (by decide)) rfl rfl (Nat.le_of_ble_eq_true rfl) dX2_readBehindFactor_14 (fun H locs hP hD hS => ?_)
    have hP : va_P D vwCl [(a_o, .inr (2, [.ref a_tokens, .ref a_signs, w_o_values, .int o_choices, .ref a_termsLeft, .ref a_factorsLeft, .int o_depth, .int o_many, .int 1])), (a_signs, .inr (4, [.ref a_signs_tongue, w_signs_kept])), (a_signs_tongue, .inr (7, [w_signs_tongue_values, w_signs_tongue_left, .int signs_tongue_choices, .int signs_tongue_worlds])), (a_termsLeft, .inl (cI, 10, .inl f_termsLeft)), (a_factorsLeft, .inl (cI, 10, .inl f_factorsLeft)), (a_tokens, .inr (6, [w_tokens_text, .int tokens_next, .int tokens_place, .int tokens_kind]))] H := hP
    have hD : va_D A [(a_o, .inr (2, [.ref a_tokens, .ref a_signs, w_o_values, .int o_choices, .ref a_termsLeft, .ref a_factorsLeft, .int o_depth, .int o_many, .int 1])), (a_signs, .inr (4, [.ref a_signs_tongue, w_signs_kept])), (a_signs_tongue, .inr (7, [w_signs_tongue_values, w_signs_tongue_left, .int signs_tongue_choices, .int signs_tongue_worlds])), (a_termsLeft, .inl (cI, 10, .inl f_termsLeft)), (a_factorsLeft, .inl (cI, 10, .inl f_factorsLeft)), (a_tokens, .inr (6, [w_tokens_text, .int tokens_next, .int tokens_place, .int tokens_kind]))] := hD
    refine lv_iconst (v := 1) hx hb dX2_readBehindFactor_17 ic_1 ?_
    have hz := Option.some.inj h
    subst hz
    exact hret H locs 18 ls (fun ty h => by cases h; exact nar_1) (hP.sub [0, 5, 1, 2, 3, 4] rfl) (hD.sub [0, 5, 1, 2, 3, 4] (by decide) rfl) hS dX2_readBehindFactor_18
abbrev rmX2_faultOfSaying : Room := { frames := 5, cells := 0, slots := 0, locals := 105 }
theorem hdX2_faultOfSaying : yX2_faultOfSaying.cls = RX2 ∧ yX2_faultOfSaying.cls ≠ "java/lang/invoke/MethodHandle" ∧ yX2_faultOfSaying.cls ≠ "java/lang/invoke/VarHandle" ∧ (parseMethodDescriptor yX2_faultOfSaying.desc).map (fun d => d.parameters.length) = some 0 := by decide +kernel
set_option maxRecDepth 100000 in
set_option maxHeartbeats 4000000 in
theorem c_X2_faultOfSaying (l : Launch) (D : va_G) (cI cB cZ : ClassId) (a_o : Nat) (w_o_values : Value) (o_choices : Int32) (o_depth : Int32) (o_many : Int32) (o_factorDue : Int32) (a_tokens : Nat) (tokens_next : Int32) (tokens_place : Int32) (tokens_kind : Int32) (a_tokens_text : Nat) (tokens_text_size : Int32) (a_tokens_text_bytes : Nat) (f_tokens_text_bytes : Nat → Int32) (a_signs : Nat) (a_signs_tongue : Nat) (signs_tongue_choices : Int32) (signs_tongue_worlds : Int32) (a_signs_tongue_values : Nat) (f_signs_tongue_values : Nat → Int32) (a_signs_tongue_left : Nat) (f_signs_tongue_left : Nat → Int32) (a_signs_kept : Nat) (w_signs_kept_left : Value) (w_signs_kept_signs : Value) (signs_kept_sayings : Int32) (signs_kept_words : Int32) (signs_kept_filled : Int32) (a_signs_kept_wordSets : Nat) (f_signs_kept_wordSets : Nat → Int32) (a_termsLeft : Nat) (f_termsLeft : Nat → Int32) (a_factorsLeft : Nat) (f_factorsLeft : Nat → Int32) (z : Int32 × Int32 × Int32 × Int32 × Int32 × Int32 × Int32 × (Nat → Int32) × (Nat → Int32)) (h : P_X2_faultOfSaying o_depth o_many o_factorDue tokens_next tokens_place tokens_kind tokens_text_size f_tokens_text_bytes signs_tongue_choices signs_tongue_worlds f_signs_tongue_values f_signs_tongue_left signs_kept_words f_signs_kept_wordSets f_termsLeft f_factorsLeft = some z) : KI l yX2_faultOfSaying wsX2_faultOfSaying rmX2_faultOfSaying D [(cI, .int), (cB, .byte), (cZ, .boolean)] [.ref a_o] [(a_o, .inr (2, [.ref a_tokens, .ref a_signs, w_o_values, .int o_choices, .ref a_termsLeft, .ref a_factorsLeft, .int o_depth, .int o_many, .int o_factorDue])), (a_tokens, .inr (6, [.ref a_tokens_text, .int tokens_next, .int tokens_place, .int tokens_kind])), (a_tokens_text, .inr (5, [.ref a_tokens_text_bytes, .int tokens_text_size])), (a_tokens_text_bytes, .inl (cI, 200, .inl f_tokens_text_bytes)), (a_signs, .inr (4, [.ref a_signs_tongue, .ref a_signs_kept])), (a_signs_tongue, .inr (7, [.ref a_signs_tongue_values, .ref a_signs_tongue_left, .int signs_tongue_choices, .int signs_tongue_worlds])), (a_signs_tongue_values, .inl (cI, 3, .inl f_signs_tongue_values)), (a_signs_tongue_left, .inl (cI, 30, .inl f_signs_tongue_left)), (a_signs_kept, .inr (0, [w_signs_kept_left, w_signs_kept_signs, .ref a_signs_kept_wordSets, .int signs_kept_sayings, .int signs_kept_words, .int signs_kept_filled])), (a_signs_kept_wordSets, .inl (cI, 3, .inl f_signs_kept_wordSets)), (a_termsLeft, .inl (cI, 10, .inl f_termsLeft)), (a_factorsLeft, .inl (cI, 10, .inl f_factorsLeft))] [(a_o, .inr (2, [.ref a_tokens, .ref a_signs, w_o_values, .int o_choices, .ref a_termsLeft, .ref a_factorsLeft, .int z.2.1, .int z.2.2.1, .int z.2.2.2.1])), (a_tokens, .inr (6, [.ref a_tokens_text, .int z.2.2.2.2.1, .int z.2.2.2.2.2.1, .int z.2.2.2.2.2.2.1])), (a_tokens_text, .inr (5, [.ref a_tokens_text_bytes, .int tokens_text_size])), (a_tokens_text_bytes, .inl (cI, 200, .inl f_tokens_text_bytes)), (a_signs, .inr (4, [.ref a_signs_tongue, .ref a_signs_kept])), (a_signs_tongue, .inr (7, [.ref a_signs_tongue_values, .ref a_signs_tongue_left, .int signs_tongue_choices, .int signs_tongue_worlds])), (a_signs_tongue_values, .inl (cI, 3, .inl f_signs_tongue_values)), (a_signs_tongue_left, .inl (cI, 30, .inl f_signs_tongue_left)), (a_signs_kept, .inr (0, [w_signs_kept_left, w_signs_kept_signs, .ref a_signs_kept_wordSets, .int signs_kept_sayings, .int signs_kept_words, .int signs_kept_filled])), (a_signs_kept_wordSets, .inl (cI, 3, .inl f_signs_kept_wordSets)), (a_termsLeft, .inl (cI, 10, .inl z.2.2.2.2.2.2.2.1)), (a_factorsLeft, .inl (cI, 10, .inl z.2.2.2.2.2.2.2.2))] z.1 := by
  refine KI_of (own := RX2) (cc := cX2_faultOfSaying) (maxL := 3) (ret := some .int) (by decide) rfl rfl (Nat.le_of_ble_eq_true rfl) (Or.inl rfl) ?_
  intro p e s m args below meth c A Q hx hb hml hown hts hA hZ hK hret H locs ls hP hD hS hl
  have hl : lv_has ls 3 [(0, .ref a_o)] := hl
  have hF : CallFix p m c cX2_faultOfSaying 3 s args wsX2_faultOfSaying RX2 := ⟨hx, hb, hml, hown, hts⟩
  have u_X2 : ∀ w ∈ u_ws RX2 TX2 9, w ∈ wsX2_faultOfSaying := by decide +kernel
  have k_f0 := hts (.fieldLink RX2 40 "NoWordNo$Reader" "tokens" "LNoWordNo$Tokens;") (by decide +kernel)
  have k_f1 := hts (.fieldLink RX2 25 "NoWordNo$Reader" "depth" "I") (by decide +kernel)
  have k_f2 := hts (.fieldLink RX2 28 "NoWordNo$Reader" "many" "I") (by decide +kernel)
  have k_f3 := hts (.fieldLink RX2 31 "NoWordNo$Reader" "factorDue" "Z") (by decide +kernel)
  unfold P_X2_faultOfSaying at h
  refine lv_aload_n hx hb dX2_faultOfSaying_0 rfl (lv_at hl 0 rfl) ?_
  refine va_get (D := D) (ci := 2) (v := .ref a_tokens) (C := RX2) (T := TX2) (N := 9) hx hb hts u_X2 hown hK hP 0 rfl rfl 0 (by decide) k_f0 (fun _ h9 => h9) rfl dX2_faultOfSaying_1 ?_
  obtain ⟨z_4, hc_4, h⟩ := bd_e h
  refine q_vV (As := []) (rest := []) (wF := [(a_o, .inr (2, [.ref a_tokens, .ref a_signs, w_o_values, .int o_choices, .ref a_termsLeft, .ref a_factorsLeft, .int o_depth, .int o_many, .int o_factorDue])), (a_tokens_text, .inr (5, [.ref a_tokens_text_bytes, .int tokens_text_size])), (a_tokens_text_bytes, .inl (cI, 200, .inl f_tokens_text_bytes)), (a_signs, .inr (4, [.ref a_signs_tongue, .ref a_signs_kept])), (a_signs_tongue, .inr (7, [.ref a_signs_tongue_values, .ref a_signs_tongue_left, .int signs_tongue_choices, .int signs_tongue_worlds])), (a_signs_tongue_values, .inl (cI, 3, .inl f_signs_tongue_values)), (a_signs_tongue_left, .inl (cI, 30, .inl f_signs_tongue_left)), (a_signs_kept, .inr (0, [w_signs_kept_left, w_signs_kept_signs, .ref a_signs_kept_wordSets, .int signs_kept_sayings, .int signs_kept_words, .int signs_kept_filled])), (a_signs_kept_wordSets, .inl (cI, 3, .inl f_signs_kept_wordSets)), (a_termsLeft, .inl (cI, 10, .inl f_termsLeft)), (a_factorsLeft, .inl (cI, 10, .inl f_factorsLeft)), (a_tokens, .inr (6, [.ref a_tokens_text, .int z_4.1, .int z_4.2.1, .int z_4.2.2]))]) hF hA hZ hK hP hD hS (c_X7_begin l D cI cB cZ a_tokens (.ref a_tokens_text) tokens_next tokens_place tokens_kind z_4 hc_4) rfl gX2_faultOfSaying_X7_begin hdX7_begin ⟨rfl, rfl⟩ (Nat.le_of_ble_eq_true rfl) (Nat.le_of_ble_eq_true rfl) 6 0 rfl rfl [1] [0, 2, 3, 4, 5, 6, 7, 8, 9, 10, 11] rfl rfl rfl rfl (by decide) rfl hl.1 rfl (Nat.le_of_ble_eq_true rfl) (Nat.zero_le _) (Nat.zero_le _) dX2_faultOfSaying_4 (fun H locs hP hD hS => ?_)
  refine lv_aload_n hx hb dX2_faultOfSaying_7 rfl (lv_at hl 0 rfl) ?_
  refine lv_iconst (v := 0) hx hb dX2_faultOfSaying_8 ic_0 ?_
  refine va_put (D := D) (ci := 2) (v := .int 0) (ty := .int) (C := RX2) (T := TX2) (N := 9) hx hb hts u_X2 tyX2 tyX2_ok nmX2 hown hK hP hD hS 0 rfl rfl 6 (by decide) k_f1 (fun _ h9 => h9) rfl (tyX2_ok 6 (by decide)) rfl rfl (Nat.le_of_ble_eq_true rfl) dX2_faultOfSaying_9 (fun H locs hP hD hS => ?_)
  have hP : va_P D vwCl [(a_o, .inr (2, [.ref a_tokens, .ref a_signs, w_o_values, .int o_choices, .ref a_termsLeft, .ref a_factorsLeft, .int 0, .int o_many, .int o_factorDue])), (a_tokens_text, .inr (5, [.ref a_tokens_text_bytes, .int tokens_text_size])), (a_tokens_text_bytes, .inl (cI, 200, .inl f_tokens_text_bytes)), (a_signs, .inr (4, [.ref a_signs_tongue, .ref a_signs_kept])), (a_signs_tongue, .inr (7, [.ref a_signs_tongue_values, .ref a_signs_tongue_left, .int signs_tongue_choices, .int signs_tongue_worlds])), (a_signs_tongue_values, .inl (cI, 3, .inl f_signs_tongue_values)), (a_signs_tongue_left, .inl (cI, 30, .inl f_signs_tongue_left)), (a_signs_kept, .inr (0, [w_signs_kept_left, w_signs_kept_signs, .ref a_signs_kept_wordSets, .int signs_kept_sayings, .int signs_kept_words, .int signs_kept_filled])), (a_signs_kept_wordSets, .inl (cI, 3, .inl f_signs_kept_wordSets)), (a_termsLeft, .inl (cI, 10, .inl f_termsLeft)), (a_factorsLeft, .inl (cI, 10, .inl f_factorsLeft)), (a_tokens, .inr (6, [.ref a_tokens_text, .int z_4.1, .int z_4.2.1, .int z_4.2.2]))] H := hP
  have hD : va_D A [(a_o, .inr (2, [.ref a_tokens, .ref a_signs, w_o_values, .int o_choices, .ref a_termsLeft, .ref a_factorsLeft, .int 0, .int o_many, .int o_factorDue])), (a_tokens_text, .inr (5, [.ref a_tokens_text_bytes, .int tokens_text_size])), (a_tokens_text_bytes, .inl (cI, 200, .inl f_tokens_text_bytes)), (a_signs, .inr (4, [.ref a_signs_tongue, .ref a_signs_kept])), (a_signs_tongue, .inr (7, [.ref a_signs_tongue_values, .ref a_signs_tongue_left, .int signs_tongue_choices, .int signs_tongue_worlds])), (a_signs_tongue_values, .inl (cI, 3, .inl f_signs_tongue_values)), (a_signs_tongue_left, .inl (cI, 30, .inl f_signs_tongue_left)), (a_signs_kept, .inr (0, [w_signs_kept_left, w_signs_kept_signs, .ref a_signs_kept_wordSets, .int signs_kept_sayings, .int signs_kept_words, .int signs_kept_filled])), (a_signs_kept_wordSets, .inl (cI, 3, .inl f_signs_kept_wordSets)), (a_termsLeft, .inl (cI, 10, .inl f_termsLeft)), (a_factorsLeft, .inl (cI, 10, .inl f_factorsLeft)), (a_tokens, .inr (6, [.ref a_tokens_text, .int z_4.1, .int z_4.2.1, .int z_4.2.2]))] := hD
  refine lv_aload_n hx hb dX2_faultOfSaying_12 rfl (lv_at hl 0 rfl) ?_
  refine lv_iconst (v := 0) hx hb dX2_faultOfSaying_13 ic_0 ?_
  refine va_put (D := D) (ci := 2) (v := .int 0) (ty := .int) (C := RX2) (T := TX2) (N := 9) hx hb hts u_X2 tyX2 tyX2_ok nmX2 hown hK hP hD hS 0 rfl rfl 7 (by decide) k_f2 (fun _ h9 => h9) rfl (tyX2_ok 7 (by decide)) rfl rfl (Nat.le_of_ble_eq_true rfl) dX2_faultOfSaying_14 (fun H locs hP hD hS => ?_)
  have hP : va_P D vwCl [(a_o, .inr (2, [.ref a_tokens, .ref a_signs, w_o_values, .int o_choices, .ref a_termsLeft, .ref a_factorsLeft, .int 0, .int 0, .int o_factorDue])), (a_tokens_text, .inr (5, [.ref a_tokens_text_bytes, .int tokens_text_size])), (a_tokens_text_bytes, .inl (cI, 200, .inl f_tokens_text_bytes)), (a_signs, .inr (4, [.ref a_signs_tongue, .ref a_signs_kept])), (a_signs_tongue, .inr (7, [.ref a_signs_tongue_values, .ref a_signs_tongue_left, .int signs_tongue_choices, .int signs_tongue_worlds])), (a_signs_tongue_values, .inl (cI, 3, .inl f_signs_tongue_values)), (a_signs_tongue_left, .inl (cI, 30, .inl f_signs_tongue_left)), (a_signs_kept, .inr (0, [w_signs_kept_left, w_signs_kept_signs, .ref a_signs_kept_wordSets, .int signs_kept_sayings, .int signs_kept_words, .int signs_kept_filled])), (a_signs_kept_wordSets, .inl (cI, 3, .inl f_signs_kept_wordSets)), (a_termsLeft, .inl (cI, 10, .inl f_termsLeft)), (a_factorsLeft, .inl (cI, 10, .inl f_factorsLeft)), (a_tokens, .inr (6, [.ref a_tokens_text, .int z_4.1, .int z_4.2.1, .int z_4.2.2]))] H := hP
  have hD : va_D A [(a_o, .inr (2, [.ref a_tokens, .ref a_signs, w_o_values, .int o_choices, .ref a_termsLeft, .ref a_factorsLeft, .int 0, .int 0, .int o_factorDue])), (a_tokens_text, .inr (5, [.ref a_tokens_text_bytes, .int tokens_text_size])), (a_tokens_text_bytes, .inl (cI, 200, .inl f_tokens_text_bytes)), (a_signs, .inr (4, [.ref a_signs_tongue, .ref a_signs_kept])), (a_signs_tongue, .inr (7, [.ref a_signs_tongue_values, .ref a_signs_tongue_left, .int signs_tongue_choices, .int signs_tongue_worlds])), (a_signs_tongue_values, .inl (cI, 3, .inl f_signs_tongue_values)), (a_signs_tongue_left, .inl (cI, 30, .inl f_signs_tongue_left)), (a_signs_kept, .inr (0, [w_signs_kept_left, w_signs_kept_signs, .ref a_signs_kept_wordSets, .int signs_kept_sayings, .int signs_kept_words, .int signs_kept_filled])), (a_signs_kept_wordSets, .inl (cI, 3, .inl f_signs_kept_wordSets)), (a_termsLeft, .inl (cI, 10, .inl f_termsLeft)), (a_factorsLeft, .inl (cI, 10, .inl f_factorsLeft)), (a_tokens, .inr (6, [.ref a_tokens_text, .int z_4.1, .int z_4.2.1, .int z_4.2.2]))] := hD
  refine lv_aload_n hx hb dX2_faultOfSaying_17 rfl (lv_at hl 0 rfl) ?_
  obtain ⟨z_18, hc_18, h⟩ := bd_e h
  refine q_vV (As := []) (rest := []) (wF := [(a_tokens_text, .inr (5, [.ref a_tokens_text_bytes, .int tokens_text_size])), (a_tokens_text_bytes, .inl (cI, 200, .inl f_tokens_text_bytes)), (a_signs_tongue_values, .inl (cI, 3, .inl f_signs_tongue_values)), (a_signs_tongue_left, .inl (cI, 30, .inl f_signs_tongue_left)), (a_signs_kept, .inr (0, [w_signs_kept_left, w_signs_kept_signs, .ref a_signs_kept_wordSets, .int signs_kept_sayings, .int signs_kept_words, .int signs_kept_filled])), (a_signs_kept_wordSets, .inl (cI, 3, .inl f_signs_kept_wordSets)), (a_tokens, .inr (6, [.ref a_tokens_text, .int z_4.1, .int z_4.2.1, .int z_4.2.2])), (a_o, .inr (2, [.ref a_tokens, .ref a_signs, w_o_values, .int o_choices, .ref a_termsLeft, .ref a_factorsLeft, .int 0, .int 0, .int z_18.1])), (a_signs, .inr (4, [.ref a_signs_tongue, .ref a_signs_kept])), (a_signs_tongue, .inr (7, [.ref a_signs_tongue_values, .ref a_signs_tongue_left, .int signs_tongue_choices, .int signs_tongue_worlds])), (a_termsLeft, .inl (cI, 10, .inl z_18.2.1)), (a_factorsLeft, .inl (cI, 10, .inl z_18.2.2))]) hF hA hZ hK hP hD hS (c_X2_openLevel l D cI cB cZ a_o (.ref a_tokens) w_o_values o_choices 0 0 o_factorDue a_signs (.ref a_signs_kept) a_signs_tongue (.ref a_signs_tongue_values) (.ref a_signs_tongue_left) signs_tongue_choices signs_tongue_worlds a_termsLeft f_termsLeft a_factorsLeft f_factorsLeft z_18 hc_18) rfl gX2_faultOfSaying_X2_openLevel hdX2_openLevel ⟨rfl, rfl⟩ (Nat.le_of_ble_eq_true rfl) (Nat.le_of_ble_eq_true rfl) 2 0 rfl rfl [0, 3, 4, 9, 10] [1, 2, 5, 6, 7, 8, 11] rfl rfl rfl rfl (by decide) rfl hl.1 rfl (Nat.le_of_ble_eq_true rfl) (Nat.zero_le _) (Nat.zero_le _) dX2_faultOfSaying_18 (fun H locs hP hD hS => ?_)
  refine lv_iconst (v := 0) hx hb dX2_faultOfSaying_21 ic_0 ?_
  refine lv_istore_n (lv' := [(1, .int 0), (0, .ref a_o)]) hx hb dX2_faultOfSaying_22 rfl hl (by decide) rfl (fun ls hl => ?_)
  obtain ⟨k101, hk101, h⟩ := jn_e h
  have Jk101 : ∀ (x101_o_depth : Int32) (x101_o_many : Int32) (x101_o_factorDue : Int32) (x101_tokens_next : Int32) (x101_tokens_place : Int32) (x101_tokens_kind : Int32) (x101_f_termsLeft : (Nat → Int32)) (x101_f_factorsLeft : (Nat → Int32)) (H : Heap) (locs : List Loc) (ls : Array Slot), k101 x101_o_depth x101_o_many x101_o_factorDue x101_tokens_next x101_tokens_place x101_tokens_kind x101_f_termsLeft x101_f_factorsLeft = some z → va_P D vwCl [(a_tokens_text, .inr (5, [.ref a_tokens_text_bytes, .int tokens_text_size])), (a_tokens_text_bytes, .inl (cI, 200, .inl f_tokens_text_bytes)), (a_signs_tongue_values, .inl (cI, 3, .inl f_signs_tongue_values)), (a_signs_tongue_left, .inl (cI, 30, .inl f_signs_tongue_left)), (a_signs_kept, .inr (0, [w_signs_kept_left, w_signs_kept_signs, .ref a_signs_kept_wordSets, .int signs_kept_sayings, .int signs_kept_words, .int signs_kept_filled])), (a_signs_kept_wordSets, .inl (cI, 3, .inl f_signs_kept_wordSets)), (a_tokens, .inr (6, [.ref a_tokens_text, .int x101_tokens_next, .int x101_tokens_place, .int x101_tokens_kind])), (a_o, .inr (2, [.ref a_tokens, .ref a_signs, w_o_values, .int o_choices, .ref a_termsLeft, .ref a_factorsLeft, .int x101_o_depth, .int x101_o_many, .int x101_o_factorDue])), (a_signs, .inr (4, [.ref a_signs_tongue, .ref a_signs_kept])), (a_signs_tongue, .inr (7, [.ref a_signs_tongue_values, .ref a_signs_tongue_left, .int signs_tongue_choices, .int signs_tongue_worlds])), (a_termsLeft, .inl (cI, 10, .inl x101_f_termsLeft)), (a_factorsLeft, .inl (cI, 10, .inl x101_f_factorsLeft))] H → va_D A [(a_tokens_text, .inr (5, [.ref a_tokens_text_bytes, .int tokens_text_size])), (a_tokens_text_bytes, .inl (cI, 200, .inl f_tokens_text_bytes)), (a_signs_tongue_values, .inl (cI, 3, .inl f_signs_tongue_values)), (a_signs_tongue_left, .inl (cI, 30, .inl f_signs_tongue_left)), (a_signs_kept, .inr (0, [w_signs_kept_left, w_signs_kept_signs, .ref a_signs_kept_wordSets, .int signs_kept_sayings, .int signs_kept_words, .int signs_kept_filled])), (a_signs_kept_wordSets, .inl (cI, 3, .inl f_signs_kept_wordSets)), (a_tokens, .inr (6, [.ref a_tokens_text, .int x101_tokens_next, .int x101_tokens_place, .int x101_tokens_kind])), (a_o, .inr (2, [.ref a_tokens, .ref a_signs, w_o_values, .int o_choices, .ref a_termsLeft, .ref a_factorsLeft, .int x101_o_depth, .int x101_o_many, .int x101_o_factorDue])), (a_signs, .inr (4, [.ref a_signs_tongue, .ref a_signs_kept])), (a_signs_tongue, .inr (7, [.ref a_signs_tongue_values, .ref a_signs_tongue_left, .int signs_tongue_choices, .int signs_tongue_worlds])), (a_termsLeft, .inl (cI, 10, .inl x101_f_termsLeft)), (a_factorsLeft, .inl (cI, 10, .inl x101_f_factorsLeft))] → va_S A s.heap H locs → lv_has ls 3 [(0, .ref a_o)] → W p l e rmX2_faultOfSaying s m args below meth c H locs 0 0 Q (F0 m 101 ls []) := by
    intro x101_o_depth x101_o_many x101_o_factorDue x101_tokens_next x101_tokens_place x101_tokens_kind x101_f_termsLeft x101_f_factorsLeft H locs ls h hP hD hS hl
    rw [hk101] at h
    refine lv_aload_n hx hb dX2_faultOfSaying_101 rfl (lv_at hl 0 rfl) ?_
    refine va_get (D := D) (ci := 2) (v := .ref a_tokens) (C := RX2) (T := TX2) (N := 9) hx hb hts u_X2 hown hK hP 7 rfl rfl 0 (by decide) k_f0 (fun _ h9 => h9) rfl dX2_faultOfSaying_102 ?_
    obtain ⟨z_105, hc_105, h⟩ := bd_e h
    refine q_iV (As := []) (rest := []) (wF := [(a_tokens_text, .inr (5, [.ref a_tokens_text_bytes, .int tokens_text_size])), (a_tokens_text_bytes, .inl (cI, 200, .inl f_tokens_text_bytes)), (a_signs_tongue_values, .inl (cI, 3, .inl f_signs_tongue_values)), (a_signs_tongue_left, .inl (cI, 30, .inl f_signs_tongue_left)), (a_signs_kept, .inr (0, [w_signs_kept_left, w_signs_kept_signs, .ref a_signs_kept_wordSets, .int signs_kept_sayings, .int signs_kept_words, .int signs_kept_filled])), (a_signs_kept_wordSets, .inl (cI, 3, .inl f_signs_kept_wordSets)), (a_o, .inr (2, [.ref a_tokens, .ref a_signs, w_o_values, .int o_choices, .ref a_termsLeft, .ref a_factorsLeft, .int x101_o_depth, .int x101_o_many, .int x101_o_factorDue])), (a_signs, .inr (4, [.ref a_signs_tongue, .ref a_signs_kept])), (a_signs_tongue, .inr (7, [.ref a_signs_tongue_values, .ref a_signs_tongue_left, .int signs_tongue_choices, .int signs_tongue_worlds])), (a_termsLeft, .inl (cI, 10, .inl x101_f_termsLeft)), (a_factorsLeft, .inl (cI, 10, .inl x101_f_factorsLeft)), (a_tokens, .inr (6, [.ref a_tokens_text, .int x101_tokens_next, .int x101_tokens_place, .int x101_tokens_kind]))]) hF hA hZ hK hP hD hS (c_X7_place l D cI cB cZ a_tokens (.ref a_tokens_text) x101_tokens_next x101_tokens_place x101_tokens_kind z_105 hc_105) rfl gX2_faultOfSaying_X7_place hdX7_place ⟨rfl, rfl⟩ (Nat.le_of_ble_eq_true rfl) (Nat.le_of_ble_eq_true rfl) 6 0 rfl rfl [6] [0, 1, 2, 3, 4, 5, 7, 8, 9, 10, 11] rfl rfl rfl rfl (by decide) rfl hl.1 rfl (Nat.le_of_ble_eq_true rfl) (Nat.zero_le _) (Nat.zero_le _) dX2_faultOfSaying_105 (fun H locs hP hD hS => ?_)
    have hz := Option.some.inj h
    subst hz
    exact hret H locs 108 ls (fun ty h => by cases h; rfl) (hP.sub [6, 11, 0, 1, 7, 8, 2, 3, 4, 5, 9, 10] rfl) (hD.sub [6, 11, 0, 1, 7, 8, 2, 3, 4, 5, 9, 10] (by decide) rfl) hS dX2_faultOfSaying_108
  obtain ⟨k87, hk87, h⟩ := jn_e h
  have Jk87 : ∀ (x87_o_depth : Int32) (x87_o_many : Int32) (x87_o_factorDue : Int32) (x87_tokens_next : Int32) (x87_tokens_place : Int32) (x87_tokens_kind : Int32) (x87_f_termsLeft : (Nat → Int32)) (x87_f_factorsLeft : (Nat → Int32)) (H : Heap) (locs : List Loc) (ls : Array Slot), k87 x87_o_depth x87_o_many x87_o_factorDue x87_tokens_next x87_tokens_place x87_tokens_kind x87_f_termsLeft x87_f_factorsLeft = some z → va_P D vwCl [(a_tokens_text, .inr (5, [.ref a_tokens_text_bytes, .int tokens_text_size])), (a_tokens_text_bytes, .inl (cI, 200, .inl f_tokens_text_bytes)), (a_signs_tongue_values, .inl (cI, 3, .inl f_signs_tongue_values)), (a_signs_tongue_left, .inl (cI, 30, .inl f_signs_tongue_left)), (a_signs_kept, .inr (0, [w_signs_kept_left, w_signs_kept_signs, .ref a_signs_kept_wordSets, .int signs_kept_sayings, .int signs_kept_words, .int signs_kept_filled])), (a_signs_kept_wordSets, .inl (cI, 3, .inl f_signs_kept_wordSets)), (a_tokens, .inr (6, [.ref a_tokens_text, .int x87_tokens_next, .int x87_tokens_place, .int x87_tokens_kind])), (a_o, .inr (2, [.ref a_tokens, .ref a_signs, w_o_values, .int o_choices, .ref a_termsLeft, .ref a_factorsLeft, .int x87_o_depth, .int x87_o_many, .int x87_o_factorDue])), (a_signs, .inr (4, [.ref a_signs_tongue, .ref a_signs_kept])), (a_signs_tongue, .inr (7, [.ref a_signs_tongue_values, .ref a_signs_tongue_left, .int signs_tongue_choices, .int signs_tongue_worlds])), (a_termsLeft, .inl (cI, 10, .inl x87_f_termsLeft)), (a_factorsLeft, .inl (cI, 10, .inl x87_f_factorsLeft))] H → va_D A [(a_tokens_text, .inr (5, [.ref a_tokens_text_bytes, .int tokens_text_size])), (a_tokens_text_bytes, .inl (cI, 200, .inl f_tokens_text_bytes)), (a_signs_tongue_values, .inl (cI, 3, .inl f_signs_tongue_values)), (a_signs_tongue_left, .inl (cI, 30, .inl f_signs_tongue_left)), (a_signs_kept, .inr (0, [w_signs_kept_left, w_signs_kept_signs, .ref a_signs_kept_wordSets, .int signs_kept_sayings, .int signs_kept_words, .int signs_kept_filled])), (a_signs_kept_wordSets, .inl (cI, 3, .inl f_signs_kept_wordSets)), (a_tokens, .inr (6, [.ref a_tokens_text, .int x87_tokens_next, .int x87_tokens_place, .int x87_tokens_kind])), (a_o, .inr (2, [.ref a_tokens, .ref a_signs, w_o_values, .int o_choices, .ref a_termsLeft, .ref a_factorsLeft, .int x87_o_depth, .int x87_o_many, .int x87_o_factorDue])), (a_signs, .inr (4, [.ref a_signs_tongue, .ref a_signs_kept])), (a_signs_tongue, .inr (7, [.ref a_signs_tongue_values, .ref a_signs_tongue_left, .int signs_tongue_choices, .int signs_tongue_worlds])), (a_termsLeft, .inl (cI, 10, .inl x87_f_termsLeft)), (a_factorsLeft, .inl (cI, 10, .inl x87_f_factorsLeft))] → va_S A s.heap H locs → lv_has ls 3 [(0, .ref a_o)] → W p l e rmX2_faultOfSaying s m args below meth c H locs 0 0 Q (F0 m 87 ls []) := by
    intro x87_o_depth x87_o_many x87_o_factorDue x87_tokens_next x87_tokens_place x87_tokens_kind x87_f_termsLeft x87_f_factorsLeft H locs ls h hP hD hS hl
    rw [hk87] at h
    refine lv_aload_n hx hb dX2_faultOfSaying_87 rfl (lv_at hl 0 rfl) ?_
    refine va_get (D := D) (ci := 2) (v := .ref a_tokens) (C := RX2) (T := TX2) (N := 9) hx hb hts u_X2 hown hK hP 7 rfl rfl 0 (by decide) k_f0 (fun _ h9 => h9) rfl dX2_faultOfSaying_88 ?_
    obtain ⟨z_91, hc_91, h⟩ := bd_e h
    refine q_iV (As := []) (rest := []) (wF := [(a_tokens_text, .inr (5, [.ref a_tokens_text_bytes, .int tokens_text_size])), (a_tokens_text_bytes, .inl (cI, 200, .inl f_tokens_text_bytes)), (a_signs_tongue_values, .inl (cI, 3, .inl f_signs_tongue_values)), (a_signs_tongue_left, .inl (cI, 30, .inl f_signs_tongue_left)), (a_signs_kept, .inr (0, [w_signs_kept_left, w_signs_kept_signs, .ref a_signs_kept_wordSets, .int signs_kept_sayings, .int signs_kept_words, .int signs_kept_filled])), (a_signs_kept_wordSets, .inl (cI, 3, .inl f_signs_kept_wordSets)), (a_o, .inr (2, [.ref a_tokens, .ref a_signs, w_o_values, .int o_choices, .ref a_termsLeft, .ref a_factorsLeft, .int x87_o_depth, .int x87_o_many, .int x87_o_factorDue])), (a_signs, .inr (4, [.ref a_signs_tongue, .ref a_signs_kept])), (a_signs_tongue, .inr (7, [.ref a_signs_tongue_values, .ref a_signs_tongue_left, .int signs_tongue_choices, .int signs_tongue_worlds])), (a_termsLeft, .inl (cI, 10, .inl x87_f_termsLeft)), (a_factorsLeft, .inl (cI, 10, .inl x87_f_factorsLeft)), (a_tokens, .inr (6, [.ref a_tokens_text, .int x87_tokens_next, .int x87_tokens_place, .int x87_tokens_kind]))]) hF hA hZ hK hP hD hS (c_X7_place l D cI cB cZ a_tokens (.ref a_tokens_text) x87_tokens_next x87_tokens_place x87_tokens_kind z_91 hc_91) rfl gX2_faultOfSaying_X7_place hdX7_place ⟨rfl, rfl⟩ (Nat.le_of_ble_eq_true rfl) (Nat.le_of_ble_eq_true rfl) 6 0 rfl rfl [6] [0, 1, 2, 3, 4, 5, 7, 8, 9, 10, 11] rfl rfl rfl rfl (by decide) rfl hl.1 rfl (Nat.le_of_ble_eq_true rfl) (Nat.zero_le _) (Nat.zero_le _) dX2_faultOfSaying_91 (fun H locs hP hD hS => ?_)
    have hz := Option.some.inj h
    subst hz
    exact hret H locs 94 ls (fun ty h => by cases h; rfl) (hP.sub [6, 11, 0, 1, 7, 8, 2, 3, 4, 5, 9, 10] rfl) (hD.sub [6, 11, 0, 1, 7, 8, 2, 3, 4, 5, 9, 10] (by decide) rfl) hS dX2_faultOfSaying_94
  have L23 : ∀ (n : Nat), ∀ (x23_l1 : Int32) (x23_o_depth : Int32) (x23_o_many : Int32) (x23_o_factorDue : Int32) (x23_tokens_next : Int32) (x23_tokens_place : Int32) (x23_tokens_kind : Int32) (x23_f_termsLeft : (Nat → Int32)) (x23_f_factorsLeft : (Nat → Int32)) (H : Heap) (locs : List Loc) (ls : Array Slot), P_X2_faultOfSaying_23 tokens_text_size f_tokens_text_bytes signs_tongue_choices signs_tongue_worlds f_signs_tongue_values f_signs_tongue_left signs_kept_words f_signs_kept_wordSets k101 k87 n x23_l1 x23_o_depth x23_o_many x23_o_factorDue x23_tokens_next x23_tokens_place x23_tokens_kind x23_f_termsLeft x23_f_factorsLeft = some z → va_P D vwCl [(a_tokens_text, .inr (5, [.ref a_tokens_text_bytes, .int tokens_text_size])), (a_tokens_text_bytes, .inl (cI, 200, .inl f_tokens_text_bytes)), (a_signs_tongue_values, .inl (cI, 3, .inl f_signs_tongue_values)), (a_signs_tongue_left, .inl (cI, 30, .inl f_signs_tongue_left)), (a_signs_kept, .inr (0, [w_signs_kept_left, w_signs_kept_signs, .ref a_signs_kept_wordSets, .int signs_kept_sayings, .int signs_kept_words, .int signs_kept_filled])), (a_signs_kept_wordSets, .inl (cI, 3, .inl f_signs_kept_wordSets)), (a_tokens, .inr (6, [.ref a_tokens_text, .int x23_tokens_next, .int x23_tokens_place, .int x23_tokens_kind])), (a_o, .inr (2, [.ref a_tokens, .ref a_signs, w_o_values, .int o_choices, .ref a_termsLeft, .ref a_factorsLeft, .int x23_o_depth, .int x23_o_many, .int x23_o_factorDue])), (a_signs, .inr (4, [.ref a_signs_tongue, .ref a_signs_kept])), (a_signs_tongue, .inr (7, [.ref a_signs_tongue_values, .ref a_signs_tongue_left, .int signs_tongue_choices, .int signs_tongue_worlds])), (a_termsLeft, .inl (cI, 10, .inl x23_f_termsLeft)), (a_factorsLeft, .inl (cI, 10, .inl x23_f_factorsLeft))] H → va_D A [(a_tokens_text, .inr (5, [.ref a_tokens_text_bytes, .int tokens_text_size])), (a_tokens_text_bytes, .inl (cI, 200, .inl f_tokens_text_bytes)), (a_signs_tongue_values, .inl (cI, 3, .inl f_signs_tongue_values)), (a_signs_tongue_left, .inl (cI, 30, .inl f_signs_tongue_left)), (a_signs_kept, .inr (0, [w_signs_kept_left, w_signs_kept_signs, .ref a_signs_kept_wordSets, .int signs_kept_sayings, .int signs_kept_words, .int signs_kept_filled])), (a_signs_kept_wordSets, .inl (cI, 3, .inl f_signs_kept_wordSets)), (a_tokens, .inr (6, [.ref a_tokens_text, .int x23_tokens_next, .int x23_tokens_place, .int x23_tokens_kind])), (a_o, .inr (2, [.ref a_tokens, .ref a_signs, w_o_values, .int o_choices, .ref a_termsLeft, .ref a_factorsLeft, .int x23_o_depth, .int x23_o_many, .int x23_o_factorDue])), (a_signs, .inr (4, [.ref a_signs_tongue, .ref a_signs_kept])), (a_signs_tongue, .inr (7, [.ref a_signs_tongue_values, .ref a_signs_tongue_left, .int signs_tongue_choices, .int signs_tongue_worlds])), (a_termsLeft, .inl (cI, 10, .inl x23_f_termsLeft)), (a_factorsLeft, .inl (cI, 10, .inl x23_f_factorsLeft))] → va_S A s.heap H locs → lv_has ls 3 [(0, .ref a_o), (1, .int x23_l1)] → W p l e rmX2_faultOfSaying s m args below meth c H locs 0 0 Q (F0 m 23 ls []) := by
    intro n
    induction n with
    | zero =>
      intro x23_l1 x23_o_depth x23_o_many x23_o_factorDue x23_tokens_next x23_tokens_place x23_tokens_kind x23_f_termsLeft x23_f_factorsLeft H locs ls h
      exact no_e h
    | succ n ih23 =>
      intro x23_l1 x23_o_depth x23_o_many x23_o_factorDue x23_tokens_next x23_tokens_place x23_tokens_kind x23_f_termsLeft x23_f_factorsLeft H locs ls h hP hD hS hl
      rw [P_X2_faultOfSaying_23] at h
      refine lv_iload_n hx hb dX2_faultOfSaying_23 rfl (lv_at hl 1 rfl) ?_
      refine lv_sipush (v := 200) hx hb dX2_faultOfSaying_24 sc_200 ?_
      refine lv_icmp_gt (tgt := 101) hx hb dX2_faultOfSaying_27 (by decide) (fun c_27 => ?_) (fun c_27 => ?_)
      · replace h := it_e c_27 h
        exact Jk101 x23_o_depth x23_o_many x23_o_factorDue x23_tokens_next x23_tokens_place x23_tokens_kind x23_f_termsLeft x23_f_factorsLeft H locs ls h hP hD hS (lv_sub hl [0] rfl)
      · replace h := if_e c_27 h
        refine lv_aload_n hx hb dX2_faultOfSaying_30 rfl (lv_at hl 0 rfl) ?_
        refine va_get (D := D) (ci := 2) (v := .ref a_tokens) (C := RX2) (T := TX2) (N := 9) hx hb hts u_X2 hown hK hP 7 rfl rfl 0 (by decide) k_f0 (fun _ h9 => h9) rfl dX2_faultOfSaying_31 ?_
        obtain ⟨z_34, hc_34, h⟩ := bd_e h
        refine q_vV (As := []) (rest := []) (wF := [(a_signs_tongue_values, .inl (cI, 3, .inl f_signs_tongue_values)), (a_signs_tongue_left, .inl (cI, 30, .inl f_signs_tongue_left)), (a_signs_kept, .inr (0, [w_signs_kept_left, w_signs_kept_signs, .ref a_signs_kept_wordSets, .int signs_kept_sayings, .int signs_kept_words, .int signs_kept_filled])), (a_signs_kept_wordSets, .inl (cI, 3, .inl f_signs_kept_wordSets)), (a_o, .inr (2, [.ref a_tokens, .ref a_signs, w_o_values, .int o_choices, .ref a_termsLeft, .ref a_factorsLeft, .int x23_o_depth, .int x23_o_many, .int x23_o_factorDue])), (a_signs, .inr (4, [.ref a_signs_tongue, .ref a_signs_kept])), (a_signs_tongue, .inr (7, [.ref a_signs_tongue_values, .ref a_signs_tongue_left, .int signs_tongue_choices, .int signs_tongue_worlds])), (a_termsLeft, .inl (cI, 10, .inl x23_f_termsLeft)), (a_factorsLeft, .inl (cI, 10, .inl x23_f_factorsLeft)), (a_tokens, .inr (6, [.ref a_tokens_text, .int z_34.1, .int z_34.2.1, .int z_34.2.2])), (a_tokens_text, .inr (5, [.ref a_tokens_text_bytes, .int tokens_text_size])), (a_tokens_text_bytes, .inl (cI, 200, .inl f_tokens_text_bytes))]) hF hA hZ hK hP hD hS (c_X7_step l D cI cB cZ a_tokens x23_tokens_next x23_tokens_place x23_tokens_kind a_tokens_text tokens_text_size a_tokens_text_bytes f_tokens_text_bytes z_34 hc_34) rfl gX2_faultOfSaying_X7_step hdX7_step ⟨rfl, rfl⟩ (Nat.le_of_ble_eq_true rfl) (Nat.le_of_ble_eq_true rfl) 6 0 rfl rfl [6, 0, 1] [2, 3, 4, 5, 7, 8, 9, 10, 11] rfl rfl rfl rfl (by decide) rfl hl.1 rfl (Nat.le_of_ble_eq_true rfl) (Nat.zero_le _) (Nat.zero_le _) dX2_faultOfSaying_34 (fun H locs hP hD hS => ?_)
        refine lv_aload_n hx hb dX2_faultOfSaying_37 rfl (lv_at hl 0 rfl) ?_
        refine va_get (D := D) (ci := 2) (v := .ref a_tokens) (C := RX2) (T := TX2) (N := 9) hx hb hts u_X2 hown hK hP 4 rfl rfl 0 (by decide) k_f0 (fun _ h9 => h9) rfl dX2_faultOfSaying_38 ?_
        refine lv_iconst (v := 0) hx hb dX2_faultOfSaying_41 ic_0 ?_
        obtain ⟨z_42, hc_42, h⟩ := bd_e h
        refine q_iV (As := [.int 0]) (rest := []) (wF := [(a_signs_tongue_values, .inl (cI, 3, .inl f_signs_tongue_values)), (a_signs_tongue_left, .inl (cI, 30, .inl f_signs_tongue_left)), (a_signs_kept, .inr (0, [w_signs_kept_left, w_signs_kept_signs, .ref a_signs_kept_wordSets, .int signs_kept_sayings, .int signs_kept_words, .int signs_kept_filled])), (a_signs_kept_wordSets, .inl (cI, 3, .inl f_signs_kept_wordSets)), (a_o, .inr (2, [.ref a_tokens, .ref a_signs, w_o_values, .int o_choices, .ref a_termsLeft, .ref a_factorsLeft, .int x23_o_depth, .int x23_o_many, .int x23_o_factorDue])), (a_signs, .inr (4, [.ref a_signs_tongue, .ref a_signs_kept])), (a_signs_tongue, .inr (7, [.ref a_signs_tongue_values, .ref a_signs_tongue_left, .int signs_tongue_choices, .int signs_tongue_worlds])), (a_termsLeft, .inl (cI, 10, .inl x23_f_termsLeft)), (a_factorsLeft, .inl (cI, 10, .inl x23_f_factorsLeft)), (a_tokens_text, .inr (5, [.ref a_tokens_text_bytes, .int tokens_text_size])), (a_tokens_text_bytes, .inl (cI, 200, .inl f_tokens_text_bytes)), (a_tokens, .inr (6, [.ref a_tokens_text, .int z_34.1, .int z_34.2.1, .int z_34.2.2]))]) hF hA hZ hK hP hD hS (c_X7_is l D cI cB cZ a_tokens (.ref a_tokens_text) z_34.1 z_34.2.1 z_34.2.2 0 z_42 hc_42) rfl gX2_faultOfSaying_X7_is hdX7_is ⟨rfl, rfl⟩ (Nat.le_of_ble_eq_true rfl) (Nat.le_of_ble_eq_true rfl) 6 0 rfl rfl [9] [0, 1, 2, 3, 4, 5, 6, 7, 8, 10, 11] rfl rfl rfl rfl (by decide) rfl hl.1 rfl (Nat.le_of_ble_eq_true rfl) (Nat.zero_le _) (Nat.zero_le _) dX2_faultOfSaying_42 (fun H locs hP hD hS => ?_)
        obtain ⟨j64, hj64, h⟩ := jn_e h
        have Jj64 : ∀ (H : Heap) (locs : List Loc) (ls : Array Slot), j64 () = some z → va_P D vwCl [(a_signs_tongue_values, .inl (cI, 3, .inl f_signs_tongue_values)), (a_signs_tongue_left, .inl (cI, 30, .inl f_signs_tongue_left)), (a_signs_kept, .inr (0, [w_signs_kept_left, w_signs_kept_signs, .ref a_signs_kept_wordSets, .int signs_kept_sayings, .int signs_kept_words, .int signs_kept_filled])), (a_signs_kept_wordSets, .inl (cI, 3, .inl f_signs_kept_wordSets)), (a_o, .inr (2, [.ref a_tokens, .ref a_signs, w_o_values, .int o_choices, .ref a_termsLeft, .ref a_factorsLeft, .int x23_o_depth, .int x23_o_many, .int x23_o_factorDue])), (a_signs, .inr (4, [.ref a_signs_tongue, .ref a_signs_kept])), (a_signs_tongue, .inr (7, [.ref a_signs_tongue_values, .ref a_signs_tongue_left, .int signs_tongue_choices, .int signs_tongue_worlds])), (a_termsLeft, .inl (cI, 10, .inl x23_f_termsLeft)), (a_factorsLeft, .inl (cI, 10, .inl x23_f_factorsLeft)), (a_tokens_text, .inr (5, [.ref a_tokens_text_bytes, .int tokens_text_size])), (a_tokens_text_bytes, .inl (cI, 200, .inl f_tokens_text_bytes)), (a_tokens, .inr (6, [.ref a_tokens_text, .int z_34.1, .int z_34.2.1, .int z_34.2.2]))] H → va_D A [(a_signs_tongue_values, .inl (cI, 3, .inl f_signs_tongue_values)), (a_signs_tongue_left, .inl (cI, 30, .inl f_signs_tongue_left)), (a_signs_kept, .inr (0, [w_signs_kept_left, w_signs_kept_signs, .ref a_signs_kept_wordSets, .int signs_kept_sayings, .int signs_kept_words, .int signs_kept_filled])), (a_signs_kept_wordSets, .inl (cI, 3, .inl f_signs_kept_wordSets)), (a_o, .inr (2, [.ref a_tokens, .ref a_signs, w_o_values, .int o_choices, .ref a_termsLeft, .ref a_factorsLeft, .int x23_o_depth, .int x23_o_many, .int x23_o_factorDue])), (a_signs, .inr (4, [.ref a_signs_tongue, .ref a_signs_kept])), (a_signs_tongue, .inr (7, [.ref a_signs_tongue_values, .ref a_signs_tongue_left, .int signs_tongue_choices, .int signs_tongue_worlds])), (a_termsLeft, .inl (cI, 10, .inl x23_f_termsLeft)), (a_factorsLeft, .inl (cI, 10, .inl x23_f_factorsLeft)), (a_tokens_text, .inr (5, [.ref a_tokens_text_bytes, .int tokens_text_size])), (a_tokens_text_bytes, .inl (cI, 200, .inl f_tokens_text_bytes)), (a_tokens, .inr (6, [.ref a_tokens_text, .int z_34.1, .int z_34.2.1, .int z_34.2.2]))] → va_S A s.heap H locs → lv_has ls 3 [(0, .ref a_o), (1, .int x23_l1)] → W p l e rmX2_faultOfSaying s m args below meth c H locs 0 0 Q (F0 m 64 ls []) := by
          intro H locs ls h hP hD hS hl
          rw [hj64] at h
          refine lv_aload_n hx hb dX2_faultOfSaying_64 rfl (lv_at hl 0 rfl) ?_
          refine va_get (D := D) (ci := 2) (v := .int x23_o_factorDue) (C := RX2) (T := TX2) (N := 9) hx hb hts u_X2 hown hK hP 4 rfl rfl 8 (by decide) k_f3 (fun _ h9 => h9) rfl dX2_faultOfSaying_65 ?_
          obtain ⟨j82, hj82, h⟩ := jn_e h
          have Jj82 : ∀ (x82_o_depth : Int32) (x82_o_many : Int32) (x82_o_factorDue : Int32) (x82_tokens_next : Int32) (x82_tokens_place : Int32) (x82_tokens_kind : Int32) (x82_f_termsLeft : (Nat → Int32)) (x82_f_factorsLeft : (Nat → Int32)) (x82_s0 : Int32) (H : Heap) (locs : List Loc) (ls : Array Slot), j82 x82_o_depth x82_o_many x82_o_factorDue x82_tokens_next x82_tokens_place x82_tokens_kind x82_f_termsLeft x82_f_factorsLeft x82_s0 = some z → va_P D vwCl [(a_signs_tongue_values, .inl (cI, 3, .inl f_signs_tongue_values)), (a_signs_tongue_left, .inl (cI, 30, .inl f_signs_tongue_left)), (a_signs_kept, .inr (0, [w_signs_kept_left, w_signs_kept_signs, .ref a_signs_kept_wordSets, .int signs_kept_sayings, .int signs_kept_words, .int signs_kept_filled])), (a_signs_kept_wordSets, .inl (cI, 3, .inl f_signs_kept_wordSets)), (a_o, .inr (2, [.ref a_tokens, .ref a_signs, w_o_values, .int o_choices, .ref a_termsLeft, .ref a_factorsLeft, .int x82_o_depth, .int x82_o_many, .int x82_o_factorDue])), (a_signs, .inr (4, [.ref a_signs_tongue, .ref a_signs_kept])), (a_signs_tongue, .inr (7, [.ref a_signs_tongue_values, .ref a_signs_tongue_left, .int signs_tongue_choices, .int signs_tongue_worlds])), (a_termsLeft, .inl (cI, 10, .inl x82_f_termsLeft)), (a_factorsLeft, .inl (cI, 10, .inl x82_f_factorsLeft)), (a_tokens_text, .inr (5, [.ref a_tokens_text_bytes, .int tokens_text_size])), (a_tokens_text_bytes, .inl (cI, 200, .inl f_tokens_text_bytes)), (a_tokens, .inr (6, [.ref a_tokens_text, .int x82_tokens_next, .int x82_tokens_place, .int x82_tokens_kind]))] H → va_D A [(a_signs_tongue_values, .inl (cI, 3, .inl f_signs_tongue_values)), (a_signs_tongue_left, .inl (cI, 30, .inl f_signs_tongue_left)), (a_signs_kept, .inr (0, [w_signs_kept_left, w_signs_kept_signs, .ref a_signs_kept_wordSets, .int signs_kept_sayings, .int signs_kept_words, .int signs_kept_filled])), (a_signs_kept_wordSets, .inl (cI, 3, .inl f_signs_kept_wordSets)), (a_o, .inr (2, [.ref a_tokens, .ref a_signs, w_o_values, .int o_choices, .ref a_termsLeft, .ref a_factorsLeft, .int x82_o_depth, .int x82_o_many, .int x82_o_factorDue])), (a_signs, .inr (4, [.ref a_signs_tongue, .ref a_signs_kept])), (a_signs_tongue, .inr (7, [.ref a_signs_tongue_values, .ref a_signs_tongue_left, .int signs_tongue_choices, .int signs_tongue_worlds])), (a_termsLeft, .inl (cI, 10, .inl x82_f_termsLeft)), (a_factorsLeft, .inl (cI, 10, .inl x82_f_factorsLeft)), (a_tokens_text, .inr (5, [.ref a_tokens_text_bytes, .int tokens_text_size])), (a_tokens_text_bytes, .inl (cI, 200, .inl f_tokens_text_bytes)), (a_tokens, .inr (6, [.ref a_tokens_text, .int x82_tokens_next, .int x82_tokens_place, .int x82_tokens_kind]))] → va_S A s.heap H locs → lv_has ls 3 [(0, .ref a_o), (1, .int x23_l1)] → W p l e rmX2_faultOfSaying s m args below meth c H locs 0 0 Q (F0 m 82 ls [.int x82_s0]) := by
            intro x82_o_depth x82_o_many x82_o_factorDue x82_tokens_next x82_tokens_place x82_tokens_kind x82_f_termsLeft x82_f_factorsLeft x82_s0 H locs ls h hP hD hS hl
            rw [hj82] at h
            refine lv_istore_n (lv' := [(2, .int x82_s0), (0, .ref a_o), (1, .int x23_l1)]) hx hb dX2_faultOfSaying_82 rfl hl (by decide) rfl (fun ls hl => ?_)
            refine lv_iload_n hx hb dX2_faultOfSaying_83 rfl (lv_at hl 0 rfl) ?_
            refine lv_if_ne (tgt := 95) hx hb dX2_faultOfSaying_84 (by decide) (fun c_84 => ?_) (fun c_84 => ?_)
            · replace h := if_e c_84 h
              refine lv_iinc (v := x23_l1 + 1) (lv' := [(1, .int (x23_l1 + 1)), (2, .int x82_s0), (0, .ref a_o)]) hx hb dX2_faultOfSaying_95 hl (k := 2) rfl (congrArg (x23_l1 + ·) ic_1) (by decide) rfl (fun ls hl => ?_)
              refine lv_goto (tgt := 23) hx hb dX2_faultOfSaying_98 (by decide) ?_
              exact ih23 (x23_l1 + 1) x82_o_depth x82_o_many x82_o_factorDue x82_tokens_next x82_tokens_place x82_tokens_kind x82_f_termsLeft x82_f_factorsLeft H locs ls h (hP.sub [9, 10, 0, 1, 2, 3, 11, 4, 5, 6, 7, 8] rfl) (hD.sub [9, 10, 0, 1, 2, 3, 11, 4, 5, 6, 7, 8] (by decide) rfl) hS (lv_sub hl [2, 0] rfl)
            · replace h := it_e c_84 h
              exact Jk87 x82_o_depth x82_o_many x82_o_factorDue x82_tokens_next x82_tokens_place x82_tokens_kind x82_f_termsLeft x82_f_factorsLeft H locs ls h (hP.sub [9, 10, 0, 1, 2, 3, 11, 4, 5, 6, 7, 8] rfl) (hD.sub [9, 10, 0, 1, 2, 3, 11, 4, 5, 6, 7, 8] (by decide) rfl) hS (lv_sub hl [1] rfl)
          refine lv_if_eq (tgt := 78) hx hb dX2_faultOfSaying_68 (by decide) (fun c_68 => ?_) (fun c_68 => ?_)
          · replace h := it_e c_68 h
            refine lv_aload_n hx hb dX2_faultOfSaying_78 rfl (lv_at hl 0 rfl) ?_
            obtain ⟨z_79, hc_79, h⟩ := bd_e h
            refine q_iV (As := []) (rest := []) (wF := [(a_signs_tongue_values, .inl (cI, 3, .inl f_signs_tongue_values)), (a_signs_tongue_left, .inl (cI, 30, .inl f_signs_tongue_left)), (a_signs_kept, .inr (0, [w_signs_kept_left, w_signs_kept_signs, .ref a_signs_kept_wordSets, .int signs_kept_sayings, .int signs_kept_words, .int signs_kept_filled])), (a_signs_kept_wordSets, .inl (cI, 3, .inl f_signs_kept_wordSets)), (a_tokens_text, .inr (5, [.ref a_tokens_text_bytes, .int tokens_text_size])), (a_tokens_text_bytes, .inl (cI, 200, .inl f_tokens_text_bytes)), (a_o, .inr (2, [.ref a_tokens, .ref a_signs, w_o_values, .int o_choices, .ref a_termsLeft, .ref a_factorsLeft, .int z_79.2.1, .int x23_o_many, .int z_79.2.2.1])), (a_tokens, .inr (6, [.ref a_tokens_text, .int z_34.1, .int z_34.2.1, .int z_34.2.2])), (a_signs, .inr (4, [.ref a_signs_tongue, .ref a_signs_kept])), (a_signs_tongue, .inr (7, [.ref a_signs_tongue_values, .ref a_signs_tongue_left, .int signs_tongue_choices, .int signs_tongue_worlds])), (a_termsLeft, .inl (cI, 10, .inl z_79.2.2.2.1)), (a_factorsLeft, .inl (cI, 10, .inl z_79.2.2.2.2))]) hF hA hZ hK hP hD hS (c_X2_readBehindFactor l D cI cB cZ a_o w_o_values o_choices x23_o_depth x23_o_many x23_o_factorDue a_tokens (.ref a_tokens_text) z_34.1 z_34.2.1 z_34.2.2 a_signs (.ref a_signs_kept) a_signs_tongue (.ref a_signs_tongue_values) (.ref a_signs_tongue_left) signs_tongue_choices signs_tongue_worlds a_termsLeft x23_f_termsLeft a_factorsLeft x23_f_factorsLeft z_79 hc_79) rfl gX2_faultOfSaying_X2_readBehindFactor hdX2_readBehindFactor ⟨rfl, rfl⟩ (Nat.le_of_ble_eq_true rfl) (Nat.le_of_ble_eq_true rfl) 2 0 rfl rfl [4, 11, 5, 6, 7, 8] [0, 1, 2, 3, 9, 10] rfl rfl rfl rfl (by decide) rfl hl.1 rfl (Nat.le_of_ble_eq_true rfl) (Nat.zero_le _) (Nat.zero_le _) dX2_faultOfSaying_79 (fun H locs hP hD hS => ?_)
            exact Jj82 z_79.2.1 x23_o_many z_79.2.2.1 z_34.1 z_34.2.1 z_34.2.2 z_79.2.2.2.1 z_79.2.2.2.2 z_79.1 H locs ls h (hP.sub [0, 1, 2, 3, 6, 8, 9, 10, 11, 4, 5, 7] rfl) (hD.sub [0, 1, 2, 3, 6, 8, 9, 10, 11, 4, 5, 7] (by decide) rfl) hS hl
          · replace h := if_e c_68 h
            refine lv_aload_n hx hb dX2_faultOfSaying_71 rfl (lv_at hl 0 rfl) ?_
            obtain ⟨z_72, hc_72, h⟩ := bd_e h
            refine q_iV (As := []) (rest := []) (wF := [(a_o, .inr (2, [.ref a_tokens, .ref a_signs, w_o_values, .int o_choices, .ref a_termsLeft, .ref a_factorsLeft, .int z_72.2.1, .int z_72.2.2.1, .int z_72.2.2.2.1])), (a_tokens, .inr (6, [.ref a_tokens_text, .int z_72.2.2.2.2.1, .int z_72.2.2.2.2.2.1, .int z_72.2.2.2.2.2.2.1])), (a_tokens_text, .inr (5, [.ref a_tokens_text_bytes, .int tokens_text_size])), (a_tokens_text_bytes, .inl (cI, 200, .inl f_tokens_text_bytes)), (a_signs, .inr (4, [.ref a_signs_tongue, .ref a_signs_kept])), (a_signs_tongue, .inr (7, [.ref a_signs_tongue_values, .ref a_signs_tongue_left, .int signs_tongue_choices, .int signs_tongue_worlds])), (a_signs_tongue_values, .inl (cI, 3, .inl f_signs_tongue_values)), (a_signs_tongue_left, .inl (cI, 30, .inl f_signs_tongue_left)), (a_signs_kept, .inr (0, [w_signs_kept_left, w_signs_kept_signs, .ref a_signs_kept_wordSets, .int signs_kept_sayings, .int signs_kept_words, .int signs_kept_filled])), (a_signs_kept_wordSets, .inl (cI, 3, .inl f_signs_kept_wordSets)), (a_termsLeft, .inl (cI, 10, .inl z_72.2.2.2.2.2.2.2.1)), (a_factorsLeft, .inl (cI, 10, .inl z_72.2.2.2.2.2.2.2.2))]) hF hA hZ hK hP hD hS (c_X2_readFactor l D cI cB cZ a_o w_o_values o_choices x23_o_depth x23_o_many x23_o_factorDue a_tokens z_34.1 z_34.2.1 z_34.2.2 a_tokens_text tokens_text_size a_tokens_text_bytes f_tokens_text_bytes a_signs a_signs_tongue signs_tongue_choices signs_tongue_worlds a_signs_tongue_values f_signs_tongue_values a_signs_tongue_left f_signs_tongue_left a_signs_kept w_signs_kept_left w_signs_kept_signs signs_kept_sayings signs_kept_words signs_kept_filled a_signs_kept_wordSets f_signs_kept_wordSets a_termsLeft x23_f_termsLeft a_factorsLeft x23_f_factorsLeft z_72 hc_72) rfl gX2_faultOfSaying_X2_readFactor hdX2_readFactor ⟨rfl, rfl⟩ (Nat.le_of_ble_eq_true rfl) (Nat.le_of_ble_eq_true rfl) 2 0 rfl rfl [4, 11, 9, 10, 5, 6, 0, 1, 2, 3, 7, 8] [] rfl rfl rfl rfl (by decide) rfl hl.1 rfl (Nat.le_of_ble_eq_true rfl) (Nat.zero_le _) (Nat.zero_le _) dX2_faultOfSaying_72 (fun H locs hP hD hS => ?_)
            refine lv_goto (tgt := 82) hx hb dX2_faultOfSaying_75 (by decide) ?_
            exact Jj82 z_72.2.1 z_72.2.2.1 z_72.2.2.2.1 z_72.2.2.2.2.1 z_72.2.2.2.2.2.1 z_72.2.2.2.2.2.2.1 z_72.2.2.2.2.2.2.2.1 z_72.2.2.2.2.2.2.2.2 z_72.1 H locs ls h (hP.sub [6, 7, 8, 9, 0, 4, 5, 10, 11, 2, 3, 1] rfl) (hD.sub [6, 7, 8, 9, 0, 4, 5, 10, 11, 2, 3, 1] (by decide) rfl) hS hl
        refine lv_if_eq (tgt := 64) hx hb dX2_faultOfSaying_45 (by decide) (fun c_45 => ?_) (fun c_45 => ?_)
        · replace h := it_e c_45 h
          exact Jj64  H locs ls h hP hD hS hl
        · replace h := if_e c_45 h
          refine lv_aload_n hx hb dX2_faultOfSaying_48 rfl (lv_at hl 0 rfl) ?_
          refine va_get (D := D) (ci := 2) (v := .int x23_o_factorDue) (C := RX2) (T := TX2) (N := 9) hx hb hts u_X2 hown hK hP 4 rfl rfl 8 (by decide) k_f3 (fun _ h9 => h9) rfl dX2_faultOfSaying_49 ?_
          refine lv_if_ne (tgt := 64) hx hb dX2_faultOfSaying_52 (by decide) (fun c_52 => ?_) (fun c_52 => ?_)
          · replace h := if_e c_52 h
            exact Jj64  H locs ls h hP hD hS hl
          · replace h := it_e c_52 h
            refine lv_aload_n hx hb dX2_faultOfSaying_55 rfl (lv_at hl 0 rfl) ?_
            refine va_get (D := D) (ci := 2) (v := .int x23_o_depth) (C := RX2) (T := TX2) (N := 9) hx hb hts u_X2 hown hK hP 4 rfl rfl 6 (by decide) k_f1 (fun _ h9 => h9) rfl dX2_faultOfSaying_56 ?_
            refine lv_if_ne (tgt := 64) hx hb dX2_faultOfSaying_59 (by decide) (fun c_59 => ?_) (fun c_59 => ?_)
            · replace h := if_e c_59 h
              exact Jj64  H locs ls h hP hD hS hl
            · replace h := it_e c_59 h
              refine lv_iconst (v := (-1)) hx hb dX2_faultOfSaying_62 ic_m1 ?_
              have hz := Option.some.inj h
              subst hz
              exact hret H locs 63 ls (fun ty h => by cases h; rfl) (hP.sub [4, 11, 9, 10, 5, 6, 0, 1, 2, 3, 7, 8] rfl) (hD.sub [4, 11, 9, 10, 5, 6, 0, 1, 2, 3, 7, 8] (by decide) rfl) hS dX2_faultOfSaying_63
  exact L23 QF 0 0 0 z_18.1 z_4.1 z_4.2.1 z_4.2.2 z_18.2.1 z_18.2.2 H locs ls h hP hD hS (lv_sub hl [1, 0] rfl)
abbrev rmX2_leftBySaying : Room := { frames := 2, cells := 0, slots := 0, locals := 41 }
theorem hdX2_leftBySaying : yX2_leftBySaying.cls = RX2 ∧ yX2_leftBySaying.cls ≠ "java/lang/invoke/MethodHandle" ∧ yX2_leftBySaying.cls ≠ "java/lang/invoke/VarHandle" ∧ (parseMethodDescriptor yX2_leftBySaying.desc).map (fun d => d.parameters.length) = some 0 := by decide +kernel
set_option maxRecDepth 100000 in
set_option maxHeartbeats 4000000 in
theorem c_X2_leftBySaying (l : Launch) (D : va_G) (cI cB cZ : ClassId) (a_o : Nat) (w_o_tokens : Value) (w_o_signs : Value) (w_o_values : Value) (o_choices : Int32) (o_depth : Int32) (o_many : Int32) (o_factorDue : Int32) (a_termsLeft : Nat) (f_termsLeft : Nat → Int32) (a_factorsLeft : Nat) (f_factorsLeft : Nat → Int32) (z : Int32) (h : P_X2_leftBySaying o_depth f_termsLeft f_factorsLeft = some z) : KI l yX2_leftBySaying wsX2_leftBySaying rmX2_leftBySaying D [(cI, .int), (cB, .byte), (cZ, .boolean)] [.ref a_o] [(a_o, .inr (2, [w_o_tokens, w_o_signs, w_o_values, .int o_choices, .ref a_termsLeft, .ref a_factorsLeft, .int o_depth, .int o_many, .int o_factorDue])), (a_termsLeft, .inl (cI, 10, .inl f_termsLeft)), (a_factorsLeft, .inl (cI, 10, .inl f_factorsLeft))] [(a_o, .inr (2, [w_o_tokens, w_o_signs, w_o_values, .int o_choices, .ref a_termsLeft, .ref a_factorsLeft, .int o_depth, .int o_many, .int o_factorDue])), (a_termsLeft, .inl (cI, 10, .inl f_termsLeft)), (a_factorsLeft, .inl (cI, 10, .inl f_factorsLeft))] z := by
  refine KI_of (own := RX2) (cc := cX2_leftBySaying) (maxL := 1) (ret := some .int) (by decide) rfl rfl (Nat.le_of_ble_eq_true rfl) (Or.inl rfl) ?_
  intro p e s m args below meth c A Q hx hb hml hown hts hA hZ hK hret H locs ls hP hD hS hl
  have hl : lv_has ls 1 [(0, .ref a_o)] := hl
  have hF : CallFix p m c cX2_leftBySaying 1 s args wsX2_leftBySaying RX2 := ⟨hx, hb, hml, hown, hts⟩
  unfold P_X2_leftBySaying at h
  refine lv_aload_n hx hb dX2_leftBySaying_0 rfl (lv_at hl 0 rfl) ?_
  obtain ⟨z_1, hc_1, h⟩ := bd_e h
  refine q_iV (As := []) (rest := []) (wF := [(a_o, .inr (2, [w_o_tokens, w_o_signs, w_o_values, .int o_choices, .ref a_termsLeft, .ref a_factorsLeft, .int o_depth, .int o_many, .int o_factorDue])), (a_termsLeft, .inl (cI, 10, .inl f_termsLeft)), (a_factorsLeft, .inl (cI, 10, .inl f_factorsLeft))]) hF hA hZ hK hP hD hS (c_X2_levelLeft l D cI cB cZ a_o w_o_tokens w_o_signs w_o_values o_choices o_depth o_many o_factorDue a_termsLeft f_termsLeft a_factorsLeft f_factorsLeft z_1 hc_1) rfl gX2_leftBySaying_X2_levelLeft hdX2_levelLeft ⟨rfl, rfl⟩ (Nat.le_of_ble_eq_true rfl) (Nat.le_of_ble_eq_true rfl) 2 0 rfl rfl [0, 1, 2] [] rfl rfl rfl rfl (by decide) rfl hl.1 rfl (Nat.le_of_ble_eq_true rfl) (Nat.zero_le _) (Nat.zero_le _) dX2_leftBySaying_1 (fun H locs hP hD hS => ?_)
  have hz := Option.some.inj h
  subst hz
  exact hret H locs 4 ls (fun ty h => by cases h; rfl) hP hD hS dX2_leftBySaying_4
abbrev rmX2_signsRead : Room := { frames := 0, cells := 0, slots := 0, locals := 0 }
theorem hdX2_signsRead : yX2_signsRead.cls = RX2 ∧ yX2_signsRead.cls ≠ "java/lang/invoke/MethodHandle" ∧ yX2_signsRead.cls ≠ "java/lang/invoke/VarHandle" ∧ (parseMethodDescriptor yX2_signsRead.desc).map (fun d => d.parameters.length) = some 0 := by decide +kernel
set_option maxRecDepth 100000 in
set_option maxHeartbeats 4000000 in
theorem c_X2_signsRead (l : Launch) (D : va_G) (cI cB cZ : ClassId) (a_o : Nat) (w_o_tokens : Value) (w_o_signs : Value) (w_o_values : Value) (o_choices : Int32) (w_o_termsLeft : Value) (w_o_factorsLeft : Value) (o_depth : Int32) (o_many : Int32) (o_factorDue : Int32) (z : Int32) (h : P_X2_signsRead o_many = some z) : KI l yX2_signsRead wsX2_signsRead rmX2_signsRead D [(cI, .int), (cB, .byte), (cZ, .boolean)] [.ref a_o] [(a_o, .inr (2, [w_o_tokens, w_o_signs, w_o_values, .int o_choices, w_o_termsLeft, w_o_factorsLeft, .int o_depth, .int o_many, .int o_factorDue]))] [(a_o, .inr (2, [w_o_tokens, w_o_signs, w_o_values, .int o_choices, w_o_termsLeft, w_o_factorsLeft, .int o_depth, .int o_many, .int o_factorDue]))] z := by
  refine KI_of (own := RX2) (cc := cX2_signsRead) (maxL := 1) (ret := some .int) (by decide) rfl rfl (Nat.le_of_ble_eq_true rfl) (Or.inl rfl) ?_
  intro p e s m args below meth c A Q hx hb hml hown hts hA hZ hK hret H locs ls hP hD hS hl
  have hl : lv_has ls 1 [(0, .ref a_o)] := hl
  have hF : CallFix p m c cX2_signsRead 1 s args wsX2_signsRead RX2 := ⟨hx, hb, hml, hown, hts⟩
  have u_X2 : ∀ w ∈ u_ws RX2 TX2 9, w ∈ wsX2_signsRead := by decide +kernel
  have k_f0 := hts (.fieldLink RX2 28 "NoWordNo$Reader" "many" "I") (by decide +kernel)
  unfold P_X2_signsRead at h
  refine lv_aload_n hx hb dX2_signsRead_0 rfl (lv_at hl 0 rfl) ?_
  refine va_get (D := D) (ci := 2) (v := .int o_many) (C := RX2) (T := TX2) (N := 9) hx hb hts u_X2 hown hK hP 0 rfl rfl 7 (by decide) k_f0 (fun _ h9 => h9) rfl dX2_signsRead_1 ?_
  have hz := Option.some.inj h
  subst hz
  exact hret H locs 4 ls (fun ty h => by cases h; rfl) hP hD hS dX2_signsRead_4
abbrev rmX0_addSaying : Room := { frames := 1, cells := 0, slots := 0, locals := 22 }
theorem hdX0_addSaying : yX0_addSaying.cls = RX0 ∧ yX0_addSaying.cls ≠ "java/lang/invoke/MethodHandle" ∧ yX0_addSaying.cls ≠ "java/lang/invoke/VarHandle" ∧ (parseMethodDescriptor yX0_addSaying.desc).map (fun d => d.parameters.length) = some 2 := by decide +kernel
set_option maxRecDepth 100000 in
set_option maxHeartbeats 4000000 in
theorem c_X0_addSaying (l : Launch) (D : va_G) (cI cB cZ : ClassId) (a_o : Nat) (w_o_wordSets : Value) (o_sayings : Int32) (o_words : Int32) (o_filled : Int32) (a_left : Nat) (f_left : Nat → Int32) (a_signs : Nat) (f_signs : Nat → Int32) (p1 : Int32) (p2 : Int32) (z : Int32 × (Nat → Int32) × (Nat → Int32)) (h : P_X0_addSaying p1 p2 o_sayings f_left f_signs = some z) : KV l yX0_addSaying wsX0_addSaying rmX0_addSaying D [(cI, .int), (cB, .byte), (cZ, .boolean)] [.ref a_o, .int p1, .int p2] [(a_o, .inr (0, [.ref a_left, .ref a_signs, w_o_wordSets, .int o_sayings, .int o_words, .int o_filled])), (a_left, .inl (cI, 8, .inl f_left)), (a_signs, .inl (cI, 8, .inl f_signs))] [(a_o, .inr (0, [.ref a_left, .ref a_signs, w_o_wordSets, .int z.1, .int o_words, .int o_filled])), (a_left, .inl (cI, 8, .inl z.2.1)), (a_signs, .inl (cI, 8, .inl z.2.2))] := by
  refine KV_of (own := RX0) (cc := cX0_addSaying) (maxL := 3) (by decide) rfl rfl (Nat.le_of_ble_eq_true rfl) ?_
  intro p e s m args below meth c A Q hx hb hml hown hts hA hZ hK hret H locs ls hP hD hS hl
  have hl : lv_has ls 3 [(0, .ref a_o), (1, .int p1), (2, .int p2)] := hl
  have hF : CallFix p m c cX0_addSaying 3 s args wsX0_addSaying RX0 := ⟨hx, hb, hml, hown, hts⟩
  have u_X0 : ∀ w ∈ u_ws RX0 TX0 6, w ∈ wsX0_addSaying := by decide +kernel
  have k_f0 := hts (.fieldLink RX0 9 "NoWordNo$Kept" "left" "[I") (by decide +kernel)
  have k_f1 := hts (.fieldLink RX0 19 "NoWordNo$Kept" "sayings" "I") (by decide +kernel)
  have k_f2 := hts (.fieldLink RX0 13 "NoWordNo$Kept" "signs" "[I") (by decide +kernel)
  unfold P_X0_addSaying at h
  refine lv_aload_n hx hb dX0_addSaying_0 rfl (lv_at hl 0 rfl) ?_
  refine va_get (D := D) (ci := 0) (v := .ref a_left) (C := RX0) (T := TX0) (N := 6) hx hb hts u_X0 hown hK hP 0 rfl rfl 0 (by decide) k_f0 (fun _ h9 => h9) rfl dX0_addSaying_1 ?_
  refine lv_aload_n hx hb dX0_addSaying_4 rfl (lv_at hl 0 rfl) ?_
  refine va_get (D := D) (ci := 0) (v := .int o_sayings) (C := RX0) (T := TX0) (N := 6) hx hb hts u_X0 hown hK hP 0 rfl rfl 3 (by decide) k_f1 (fun _ h9 => h9) rfl dX0_addSaying_5 ?_
  refine lv_iload_n hx hb dX0_addSaying_8 rfl (lv_at hl 1 rfl) ?_
  obtain ⟨z_9, hc_9, h⟩ := bd_e h
  refine q_vS (As := [.ref a_left, .int o_sayings, .int p1]) (rest := []) (wF := [(a_o, .inr (0, [.ref a_left, .ref a_signs, w_o_wordSets, .int o_sayings, .int o_words, .int o_filled])), (a_signs, .inl (cI, 8, .inl f_signs)), (a_left, .inl (cI, 8, .inl z_9))]) hF hA hZ hK hP hD hS (c_X4_put l D cI cB cZ a_left 8 f_left o_sayings p1 z_9 hc_9) rfl gX0_addSaying_X4_put hdX4_put ⟨rfl, rfl⟩ (Nat.le_of_ble_eq_true rfl) (Nat.le_of_ble_eq_true rfl) [1] [0, 2] rfl rfl rfl rfl (by decide) rfl hl.1 rfl (Nat.le_of_ble_eq_true rfl) (Nat.zero_le _) (Nat.zero_le _) dX0_addSaying_9 (fun H locs hP hD hS => ?_)
  refine lv_aload_n hx hb dX0_addSaying_12 rfl (lv_at hl 0 rfl) ?_
  refine va_get (D := D) (ci := 0) (v := .ref a_signs) (C := RX0) (T := TX0) (N := 6) hx hb hts u_X0 hown hK hP 0 rfl rfl 1 (by decide) k_f2 (fun _ h9 => h9) rfl dX0_addSaying_13 ?_
  refine lv_aload_n hx hb dX0_addSaying_16 rfl (lv_at hl 0 rfl) ?_
  refine va_get (D := D) (ci := 0) (v := .int o_sayings) (C := RX0) (T := TX0) (N := 6) hx hb hts u_X0 hown hK hP 0 rfl rfl 3 (by decide) k_f1 (fun _ h9 => h9) rfl dX0_addSaying_17 ?_
  refine lv_iload_n hx hb dX0_addSaying_20 rfl (lv_at hl 2 rfl) ?_
  obtain ⟨z_21, hc_21, h⟩ := bd_e h
  refine q_vS (As := [.ref a_signs, .int o_sayings, .int p2]) (rest := []) (wF := [(a_o, .inr (0, [.ref a_left, .ref a_signs, w_o_wordSets, .int o_sayings, .int o_words, .int o_filled])), (a_left, .inl (cI, 8, .inl z_9)), (a_signs, .inl (cI, 8, .inl z_21))]) hF hA hZ hK hP hD hS (c_X4_put l D cI cB cZ a_signs 8 f_signs o_sayings p2 z_21 hc_21) rfl gX0_addSaying_X4_put hdX4_put ⟨rfl, rfl⟩ (Nat.le_of_ble_eq_true rfl) (Nat.le_of_ble_eq_true rfl) [1] [0, 2] rfl rfl rfl rfl (by decide) rfl hl.1 rfl (Nat.le_of_ble_eq_true rfl) (Nat.zero_le _) (Nat.zero_le _) dX0_addSaying_21 (fun H locs hP hD hS => ?_)
  refine lv_aload_n hx hb dX0_addSaying_24 rfl (lv_at hl 0 rfl) ?_
  refine lv_dup hx hb dX0_addSaying_25 rfl ?_
  refine va_get (D := D) (ci := 0) (v := .int o_sayings) (C := RX0) (T := TX0) (N := 6) hx hb hts u_X0 hown hK hP 0 rfl rfl 3 (by decide) k_f1 (fun _ h9 => h9) rfl dX0_addSaying_26 ?_
  refine lv_iconst (v := 1) hx hb dX0_addSaying_29 ic_1 ?_
  refine lv_iadd hx hb dX0_addSaying_30 ?_
  refine va_put (D := D) (ci := 0) (v := .int (o_sayings + 1)) (ty := .int) (C := RX0) (T := TX0) (N := 6) hx hb hts u_X0 tyX0 tyX0_ok nmX0 hown hK hP hD hS 0 rfl rfl 3 (by decide) k_f1 (fun _ h9 => h9) rfl (tyX0_ok 3 (by decide)) rfl rfl (Nat.le_of_ble_eq_true rfl) dX0_addSaying_31 (fun H locs hP hD hS => ?_)
  have hP : va_P D vwCl [(a_o, .inr (0, [.ref a_left, .ref a_signs, w_o_wordSets, .int (o_sayings + 1), .int o_words, .int o_filled])), (a_left, .inl (cI, 8, .inl z_9)), (a_signs, .inl (cI, 8, .inl z_21))] H := hP
  have hD : va_D A [(a_o, .inr (0, [.ref a_left, .ref a_signs, w_o_wordSets, .int (o_sayings + 1), .int o_words, .int o_filled])), (a_left, .inl (cI, 8, .inl z_9)), (a_signs, .inl (cI, 8, .inl z_21))] := hD
  have hz := Option.some.inj h
  subst hz
  exact hret H locs 34 ls hP hD hS dX0_addSaying_34
abbrev rmX10_say : Room := { frames := 6, cells := 0, slots := 0, locals := 127 }
theorem hdX10_say : yX10_say.cls = RX10 ∧ yX10_say.cls ≠ "java/lang/invoke/MethodHandle" ∧ yX10_say.cls ≠ "java/lang/invoke/VarHandle" ∧ (parseMethodDescriptor yX10_say.desc).map (fun d => d.parameters.length) = some 0 := by decide +kernel
set_option maxRecDepth 100000 in
set_option maxHeartbeats 4000000 in
theorem c_X10_say (l : Launch) (D : va_G) (cI cB cZ : ClassId) (a_o : Nat) (w_o_image0 : Value) (w_o_image1 : Value) (w_o_lengths : Value) (w_o_refusals : Value) (w_o_two : Value) (o_measured : Int32) (o_traced : Int64) (a_text : Nat) (text_size : Int32) (a_text_bytes : Nat) (f_text_bytes : Nat → Int32) (a_speech : Nat) (speech_choices : Int32) (speech_worlds : Int32) (a_speech_values : Nat) (f_speech_values : Nat → Int32) (a_speech_left : Nat) (f_speech_left : Nat → Int32) (a_now : Nat) (now_sayings : Int32) (now_words : Int32) (now_filled : Int32) (a_now_left : Nat) (f_now_left : Nat → Int32) (a_now_signs : Nat) (f_now_signs : Nat → Int32) (a_now_wordSets : Nat) (f_now_wordSets : Nat → Int32) (a_signs : Nat) (a_reader : Nat) (w_reader_values : Value) (reader_choices : Int32) (reader_depth : Int32) (reader_many : Int32) (reader_factorDue : Int32) (a_reader_tokens : Nat) (reader_tokens_next : Int32) (reader_tokens_place : Int32) (reader_tokens_kind : Int32) (a_reader_termsLeft : Nat) (f_reader_termsLeft : Nat → Int32) (a_reader_factorsLeft : Nat) (f_reader_factorsLeft : Nat → Int32) (z : Int32 × Int32 × Int32 × (Nat → Int32) × (Nat → Int32) × Int32 × Int32 × Int32 × Int32 × Int32 × Int32 × (Nat → Int32) × (Nat → Int32)) (h : P_X10_say text_size f_text_bytes speech_choices speech_worlds f_speech_values f_speech_left now_sayings now_words f_now_left f_now_signs f_now_wordSets reader_depth reader_many reader_factorDue reader_tokens_next reader_tokens_place reader_tokens_kind f_reader_termsLeft f_reader_factorsLeft = some z) : KI l yX10_say wsX10_say rmX10_say D [(cI, .int), (cB, .byte), (cZ, .boolean)] [.ref a_o] [(a_o, .inr (9, [.ref a_text, .ref a_speech, .ref a_now, w_o_image0, w_o_image1, .ref a_signs, .ref a_reader, w_o_lengths, w_o_refusals, w_o_two, .int o_measured, .long o_traced])), (a_text, .inr (5, [.ref a_text_bytes, .int text_size])), (a_text_bytes, .inl (cI, 200, .inl f_text_bytes)), (a_speech, .inr (7, [.ref a_speech_values, .ref a_speech_left, .int speech_choices, .int speech_worlds])), (a_speech_values, .inl (cI, 3, .inl f_speech_values)), (a_speech_left, .inl (cI, 30, .inl f_speech_left)), (a_now, .inr (0, [.ref a_now_left, .ref a_now_signs, .ref a_now_wordSets, .int now_sayings, .int now_words, .int now_filled])), (a_now_left, .inl (cI, 8, .inl f_now_left)), (a_now_signs, .inl (cI, 8, .inl f_now_signs)), (a_now_wordSets, .inl (cI, 3, .inl f_now_wordSets)), (a_signs, .inr (4, [.ref a_speech, .ref a_now])), (a_reader, .inr (2, [.ref a_reader_tokens, .ref a_signs, w_reader_values, .int reader_choices, .ref a_reader_termsLeft, .ref a_reader_factorsLeft, .int reader_depth, .int reader_many, .int reader_factorDue])), (a_reader_tokens, .inr (6, [.ref a_text, .int reader_tokens_next, .int reader_tokens_place, .int reader_tokens_kind])), (a_reader_termsLeft, .inl (cI, 10, .inl f_reader_termsLeft)), (a_reader_factorsLeft, .inl (cI, 10, .inl f_reader_factorsLeft))] [(a_o, .inr (9, [.ref a_text, .ref a_speech, .ref a_now, w_o_image0, w_o_image1, .ref a_signs, .ref a_reader, w_o_lengths, w_o_refusals, w_o_two, .int o_measured, .long o_traced])), (a_text, .inr (5, [.ref a_text_bytes, .int z.2.1])), (a_text_bytes, .inl (cI, 200, .inl f_text_bytes)), (a_speech, .inr (7, [.ref a_speech_values, .ref a_speech_left, .int speech_choices, .int speech_worlds])), (a_speech_values, .inl (cI, 3, .inl f_speech_values)), (a_speech_left, .inl (cI, 30, .inl f_speech_left)), (a_now, .inr (0, [.ref a_now_left, .ref a_now_signs, .ref a_now_wordSets, .int z.2.2.1, .int now_words, .int now_filled])), (a_now_left, .inl (cI, 8, .inl z.2.2.2.1)), (a_now_signs, .inl (cI, 8, .inl z.2.2.2.2.1)), (a_now_wordSets, .inl (cI, 3, .inl f_now_wordSets)), (a_signs, .inr (4, [.ref a_speech, .ref a_now])), (a_reader, .inr (2, [.ref a_reader_tokens, .ref a_signs, w_reader_values, .int reader_choices, .ref a_reader_termsLeft, .ref a_reader_factorsLeft, .int z.2.2.2.2.2.1, .int z.2.2.2.2.2.2.1, .int z.2.2.2.2.2.2.2.1])), (a_reader_tokens, .inr (6, [.ref a_text, .int z.2.2.2.2.2.2.2.2.1, .int z.2.2.2.2.2.2.2.2.2.1, .int z.2.2.2.2.2.2.2.2.2.2.1])), (a_reader_termsLeft, .inl (cI, 10, .inl z.2.2.2.2.2.2.2.2.2.2.2.1)), (a_reader_factorsLeft, .inl (cI, 10, .inl z.2.2.2.2.2.2.2.2.2.2.2.2))] z.1 := by
  refine KI_of (own := RX10) (cc := cX10_say) (maxL := 2) (ret := some .int) (by decide) rfl rfl (Nat.le_of_ble_eq_true rfl) (Or.inl rfl) ?_
  intro p e s m args below meth c A Q hx hb hml hown hts hA hZ hK hret H locs ls hP hD hS hl
  have hl : lv_has ls 2 [(0, .ref a_o)] := hl
  have hF : CallFix p m c cX10_say 2 s args wsX10_say RX10 := ⟨hx, hb, hml, hown, hts⟩
  have u_X10 : ∀ w ∈ u_ws RX10 TX10 12, w ∈ wsX10_say := by decide +kernel
  have k_f0 := hts (.fieldLink RX10 26 "NoWordNo" "now" "LNoWordNo$Kept;") (by decide +kernel)
  have k_f1 := hts (.fieldLink RX10 50 "NoWordNo" "reader" "LNoWordNo$Reader;") (by decide +kernel)
  have k_f2 := hts (.fieldLink RX10 10 "NoWordNo" "text" "LNoWordNo$Text;") (by decide +kernel)
  unfold P_X10_say at h
  refine lv_aload_n hx hb dX10_say_0 rfl (lv_at hl 0 rfl) ?_
  refine va_get (D := D) (ci := 9) (v := .ref a_now) (C := RX10) (T := TX10) (N := 12) hx hb hts u_X10 hown hK hP 0 rfl rfl 2 (by decide) k_f0 (fun _ h9 => h9) rfl dX10_say_1 ?_
  obtain ⟨z_4, hc_4, h⟩ := bd_e h
  refine q_iV (As := []) (rest := []) (wF := [(a_o, .inr (9, [.ref a_text, .ref a_speech, .ref a_now, w_o_image0, w_o_image1, .ref a_signs, .ref a_reader, w_o_lengths, w_o_refusals, w_o_two, .int o_measured, .long o_traced])), (a_text, .inr (5, [.ref a_text_bytes, .int text_size])), (a_text_bytes, .inl (cI, 200, .inl f_text_bytes)), (a_speech, .inr (7, [.ref a_speech_values, .ref a_speech_left, .int speech_choices, .int speech_worlds])), (a_speech_values, .inl (cI, 3, .inl f_speech_values)), (a_speech_left, .inl (cI, 30, .inl f_speech_left)), (a_now_left, .inl (cI, 8, .inl f_now_left)), (a_now_signs, .inl (cI, 8, .inl f_now_signs)), (a_now_wordSets, .inl (cI, 3, .inl f_now_wordSets)), (a_signs, .inr (4, [.ref a_speech, .ref a_now])), (a_reader, .inr (2, [.ref a_reader_tokens, .ref a_signs, w_reader_values, .int reader_choices, .ref a_reader_termsLeft, .ref a_reader_factorsLeft, .int reader_depth, .int reader_many, .int reader_factorDue])), (a_reader_tokens, .inr (6, [.ref a_text, .int reader_tokens_next, .int reader_tokens_place, .int reader_tokens_kind])), (a_reader_termsLeft, .inl (cI, 10, .inl f_reader_termsLeft)), (a_reader_factorsLeft, .inl (cI, 10, .inl f_reader_factorsLeft)), (a_now, .inr (0, [.ref a_now_left, .ref a_now_signs, .ref a_now_wordSets, .int now_sayings, .int now_words, .int now_filled]))]) hF hA hZ hK hP hD hS (c_X0_sayings l D cI cB cZ a_now (.ref a_now_left) (.ref a_now_signs) (.ref a_now_wordSets) now_sayings now_words now_filled z_4 hc_4) rfl gX10_say_X0_sayings hdX0_sayings ⟨rfl, rfl⟩ (Nat.le_of_ble_eq_true rfl) (Nat.le_of_ble_eq_true rfl) 0 0 rfl rfl [6] [0, 1, 2, 3, 4, 5, 7, 8, 9, 10, 11, 12, 13, 14] rfl rfl rfl rfl (by decide) rfl hl.1 rfl (Nat.le_of_ble_eq_true rfl) (Nat.zero_le _) (Nat.zero_le _) dX10_say_4 (fun H locs hP hD hS => ?_)
  refine lv_bipush (v := 8) hx hb dX10_say_7 bc_8 ?_
  refine lv_icmp_lt (tgt := 15) hx hb dX10_say_9 (by decide) (fun c_9 => ?_) (fun c_9 => ?_)
  · replace h := it_e c_9 h
    refine lv_aload_n hx hb dX10_say_15 rfl (lv_at hl 0 rfl) ?_
    refine va_get (D := D) (ci := 9) (v := .ref a_reader) (C := RX10) (T := TX10) (N := 12) hx hb hts u_X10 hown hK hP 0 rfl rfl 6 (by decide) k_f1 (fun _ h9 => h9) rfl dX10_say_16 ?_
    obtain ⟨z_19, hc_19, h⟩ := bd_e h
    refine q_iV (As := []) (rest := []) (wF := [(a_o, .inr (9, [.ref a_text, .ref a_speech, .ref a_now, w_o_image0, w_o_image1, .ref a_signs, .ref a_reader, w_o_lengths, w_o_refusals, w_o_two, .int o_measured, .long o_traced])), (a_now_left, .inl (cI, 8, .inl f_now_left)), (a_now_signs, .inl (cI, 8, .inl f_now_signs)), (a_reader, .inr (2, [.ref a_reader_tokens, .ref a_signs, w_reader_values, .int reader_choices, .ref a_reader_termsLeft, .ref a_reader_factorsLeft, .int z_19.2.1, .int z_19.2.2.1, .int z_19.2.2.2.1])), (a_reader_tokens, .inr (6, [.ref a_text, .int z_19.2.2.2.2.1, .int z_19.2.2.2.2.2.1, .int z_19.2.2.2.2.2.2.1])), (a_text, .inr (5, [.ref a_text_bytes, .int text_size])), (a_text_bytes, .inl (cI, 200, .inl f_text_bytes)), (a_signs, .inr (4, [.ref a_speech, .ref a_now])), (a_speech, .inr (7, [.ref a_speech_values, .ref a_speech_left, .int speech_choices, .int speech_worlds])), (a_speech_values, .inl (cI, 3, .inl f_speech_values)), (a_speech_left, .inl (cI, 30, .inl f_speech_left)), (a_now, .inr (0, [.ref a_now_left, .ref a_now_signs, .ref a_now_wordSets, .int now_sayings, .int now_words, .int now_filled])), (a_now_wordSets, .inl (cI, 3, .inl f_now_wordSets)), (a_reader_termsLeft, .inl (cI, 10, .inl z_19.2.2.2.2.2.2.2.1)), (a_reader_factorsLeft, .inl (cI, 10, .inl z_19.2.2.2.2.2.2.2.2))]) hF hA hZ hK hP hD hS (c_X2_faultOfSaying l D cI cB cZ a_reader w_reader_values reader_choices reader_depth reader_many reader_factorDue a_reader_tokens reader_tokens_next reader_tokens_place reader_tokens_kind a_text text_size a_text_bytes f_text_bytes a_signs a_speech speech_choices speech_worlds a_speech_values f_speech_values a_speech_left f_speech_left a_now (.ref a_now_left) (.ref a_now_signs) now_sayings now_words now_filled a_now_wordSets f_now_wordSets a_reader_termsLeft f_reader_termsLeft a_reader_factorsLeft f_reader_factorsLeft z_19 hc_19) rfl gX10_say_X2_faultOfSaying hdX2_faultOfSaying ⟨rfl, rfl⟩ (Nat.le_of_ble_eq_true rfl) (Nat.le_of_ble_eq_true rfl) 2 0 rfl rfl [10, 11, 1, 2, 9, 3, 4, 5, 14, 8, 12, 13] [0, 6, 7] rfl rfl rfl rfl (by decide) rfl hl.1 rfl (Nat.le_of_ble_eq_true rfl) (Nat.zero_le _) (Nat.zero_le _) dX10_say_19 (fun H locs hP hD hS => ?_)
    refine lv_istore_n (lv' := [(1, .int z_19.1), (0, .ref a_o)]) hx hb dX10_say_22 rfl hl (by decide) rfl (fun ls hl => ?_)
    refine lv_iload_n hx hb dX10_say_23 rfl (lv_at hl 0 rfl) ?_
    refine lv_iconst (v := (-1)) hx hb dX10_say_24 ic_m1 ?_
    refine lv_icmp_eq (tgt := 33) hx hb dX10_say_25 (by decide) (fun c_25 => ?_) (fun c_25 => ?_)
    · replace h := it_e c_25 h
      refine lv_aload_n hx hb dX10_say_33 rfl (lv_at hl 1 rfl) ?_
      refine va_get (D := D) (ci := 9) (v := .ref a_now) (C := RX10) (T := TX10) (N := 12) hx hb hts u_X10 hown hK hP 0 rfl rfl 2 (by decide) k_f0 (fun _ h9 => h9) rfl dX10_say_34 ?_
      refine lv_aload_n hx hb dX10_say_37 rfl (lv_at hl 1 rfl) ?_
      refine va_get (D := D) (ci := 9) (v := .ref a_reader) (C := RX10) (T := TX10) (N := 12) hx hb hts u_X10 hown hK hP 0 rfl rfl 6 (by decide) k_f1 (fun _ h9 => h9) rfl dX10_say_38 ?_
      obtain ⟨z_41, hc_41, h⟩ := bd_e h
      refine q_iV (As := []) (rest := [.ref a_now]) (wF := [(a_o, .inr (9, [.ref a_text, .ref a_speech, .ref a_now, w_o_image0, w_o_image1, .ref a_signs, .ref a_reader, w_o_lengths, w_o_refusals, w_o_two, .int o_measured, .long o_traced])), (a_now_left, .inl (cI, 8, .inl f_now_left)), (a_now_signs, .inl (cI, 8, .inl f_now_signs)), (a_reader_tokens, .inr (6, [.ref a_text, .int z_19.2.2.2.2.1, .int z_19.2.2.2.2.2.1, .int z_19.2.2.2.2.2.2.1])), (a_text, .inr (5, [.ref a_text_bytes, .int text_size])), (a_text_bytes, .inl (cI, 200, .inl f_text_bytes)), (a_signs, .inr (4, [.ref a_speech, .ref a_now])), (a_speech, .inr (7, [.ref a_speech_values, .ref a_speech_left, .int speech_choices, .int speech_worlds])), (a_speech_values, .inl (cI, 3, .inl f_speech_values)), (a_speech_left, .inl (cI, 30, .inl f_speech_left)), (a_now, .inr (0, [.ref a_now_left, .ref a_now_signs, .ref a_now_wordSets, .int now_sayings, .int now_words, .int now_filled])), (a_now_wordSets, .inl (cI, 3, .inl f_now_wordSets)), (a_reader, .inr (2, [.ref a_reader_tokens, .ref a_signs, w_reader_values, .int reader_choices, .ref a_reader_termsLeft, .ref a_reader_factorsLeft, .int z_19.2.1, .int z_19.2.2.1, .int z_19.2.2.2.1])), (a_reader_termsLeft, .inl (cI, 10, .inl z_19.2.2.2.2.2.2.2.1)), (a_reader_factorsLeft, .inl (cI, 10, .inl z_19.2.2.2.2.2.2.2.2))]) hF hA hZ hK hP hD hS (c_X2_leftBySaying l D cI cB cZ a_reader (.ref a_reader_tokens) (.ref a_signs) w_reader_values reader_choices z_19.2.1 z_19.2.2.1 z_19.2.2.2.1 a_reader_termsLeft z_19.2.2.2.2.2.2.2.1 a_reader_factorsLeft z_19.2.2.2.2.2.2.2.2 z_41 hc_41) rfl gX10_say_X2_leftBySaying hdX2_leftBySaying ⟨rfl, rfl⟩ (Nat.le_of_ble_eq_true rfl) (Nat.le_of_ble_eq_true rfl) 2 0 rfl rfl [3, 13, 14] [0, 1, 2, 4, 5, 6, 7, 8, 9, 10, 11, 12] rfl rfl rfl rfl (by decide) rfl hl.1 rfl (Nat.le_of_ble_eq_true rfl) (Nat.zero_le _) (Nat.zero_le _) dX10_say_41 (fun H locs hP hD hS => ?_)
      refine lv_aload_n hx hb dX10_say_44 rfl (lv_at hl 1 rfl) ?_
      refine va_get (D := D) (ci := 9) (v := .ref a_reader) (C := RX10) (T := TX10) (N := 12) hx hb hts u_X10 hown hK hP 0 rfl rfl 6 (by decide) k_f1 (fun _ h9 => h9) rfl dX10_say_45 ?_
      obtain ⟨z_48, hc_48, h⟩ := bd_e h
      refine q_iV (As := []) (rest := [.int z_41, .ref a_now]) (wF := [(a_o, .inr (9, [.ref a_text, .ref a_speech, .ref a_now, w_o_image0, w_o_image1, .ref a_signs, .ref a_reader, w_o_lengths, w_o_refusals, w_o_two, .int o_measured, .long o_traced])), (a_now_left, .inl (cI, 8, .inl f_now_left)), (a_now_signs, .inl (cI, 8, .inl f_now_signs)), (a_reader_tokens, .inr (6, [.ref a_text, .int z_19.2.2.2.2.1, .int z_19.2.2.2.2.2.1, .int z_19.2.2.2.2.2.2.1])), (a_text, .inr (5, [.ref a_text_bytes, .int text_size])), (a_text_bytes, .inl (cI, 200, .inl f_text_bytes)), (a_signs, .inr (4, [.ref a_speech, .ref a_now])), (a_speech, .inr (7, [.ref a_speech_values, .ref a_speech_left, .int speech_choices, .int speech_worlds])), (a_speech_values, .inl (cI, 3, .inl f_speech_values)), (a_speech_left, .inl (cI, 30, .inl f_speech_left)), (a_now, .inr (0, [.ref a_now_left, .ref a_now_signs, .ref a_now_wordSets, .int now_sayings, .int now_words, .int now_filled])), (a_now_wordSets, .inl (cI, 3, .inl f_now_wordSets)), (a_reader_termsLeft, .inl (cI, 10, .inl z_19.2.2.2.2.2.2.2.1)), (a_reader_factorsLeft, .inl (cI, 10, .inl z_19.2.2.2.2.2.2.2.2)), (a_reader, .inr (2, [.ref a_reader_tokens, .ref a_signs, w_reader_values, .int reader_choices, .ref a_reader_termsLeft, .ref a_reader_factorsLeft, .int z_19.2.1, .int z_19.2.2.1, .int z_19.2.2.2.1]))]) hF hA hZ hK hP hD hS (c_X2_signsRead l D cI cB cZ a_reader (.ref a_reader_tokens) (.ref a_signs) w_reader_values reader_choices (.ref a_reader_termsLeft) (.ref a_reader_factorsLeft) z_19.2.1 z_19.2.2.1 z_19.2.2.2.1 z_48 hc_48) rfl gX10_say_X2_signsRead hdX2_signsRead ⟨rfl, rfl⟩ (Nat.le_of_ble_eq_true rfl) (Nat.le_of_ble_eq_true rfl) 2 0 rfl rfl [12] [0, 1, 2, 3, 4, 5, 6, 7, 8, 9, 10, 11, 13, 14] rfl rfl rfl rfl (by decide) rfl hl.1 rfl (Nat.le_of_ble_eq_true rfl) (Nat.zero_le _) (Nat.zero_le _) dX10_say_48 (fun H locs hP hD hS => ?_)
      obtain ⟨z_51, hc_51, h⟩ := bd_e h
      refine q_vV (As := [.int z_41, .int z_48]) (rest := []) (wF := [(a_o, .inr (9, [.ref a_text, .ref a_speech, .ref a_now, w_o_image0, w_o_image1, .ref a_signs, .ref a_reader, w_o_lengths, w_o_refusals, w_o_two, .int o_measured, .long o_traced])), (a_reader_tokens, .inr (6, [.ref a_text, .int z_19.2.2.2.2.1, .int z_19.2.2.2.2.2.1, .int z_19.2.2.2.2.2.2.1])), (a_text, .inr (5, [.ref a_text_bytes, .int text_size])), (a_text_bytes, .inl (cI, 200, .inl f_text_bytes)), (a_signs, .inr (4, [.ref a_speech, .ref a_now])), (a_speech, .inr (7, [.ref a_speech_values, .ref a_speech_left, .int speech_choices, .int speech_worlds])), (a_speech_values, .inl (cI, 3, .inl f_speech_values)), (a_speech_left, .inl (cI, 30, .inl f_speech_left)), (a_now_wordSets, .inl (cI, 3, .inl f_now_wordSets)), (a_reader_termsLeft, .inl (cI, 10, .inl z_19.2.2.2.2.2.2.2.1)), (a_reader_factorsLeft, .inl (cI, 10, .inl z_19.2.2.2.2.2.2.2.2)), (a_reader, .inr (2, [.ref a_reader_tokens, .ref a_signs, w_reader_values, .int reader_choices, .ref a_reader_termsLeft, .ref a_reader_factorsLeft, .int z_19.2.1, .int z_19.2.2.1, .int z_19.2.2.2.1])), (a_now, .inr (0, [.ref a_now_left, .ref a_now_signs, .ref a_now_wordSets, .int z_51.1, .int now_words, .int now_filled])), (a_now_left, .inl (cI, 8, .inl z_51.2.1)), (a_now_signs, .inl (cI, 8, .inl z_51.2.2))]) hF hA hZ hK hP hD hS (c_X0_addSaying l D cI cB cZ a_now (.ref a_now_wordSets) now_sayings now_words now_filled a_now_left f_now_left a_now_signs f_now_signs z_41 z_48 z_51 hc_51) rfl gX10_say_X0_addSaying hdX0_addSaying ⟨rfl, rfl⟩ (Nat.le_of_ble_eq_true rfl) (Nat.le_of_ble_eq_true rfl) 0 0 rfl rfl [10, 1, 2] [0, 3, 4, 5, 6, 7, 8, 9, 11, 12, 13, 14] rfl rfl rfl rfl (by decide) rfl hl.1 rfl (Nat.le_of_ble_eq_true rfl) (Nat.zero_le _) (Nat.zero_le _) dX10_say_51 (fun H locs hP hD hS => ?_)
      refine lv_aload_n hx hb dX10_say_54 rfl (lv_at hl 1 rfl) ?_
      refine va_get (D := D) (ci := 9) (v := .ref a_text) (C := RX10) (T := TX10) (N := 12) hx hb hts u_X10 hown hK hP 0 rfl rfl 0 (by decide) k_f2 (fun _ h9 => h9) rfl dX10_say_55 ?_
      obtain ⟨z_58, hc_58, h⟩ := bd_e h
      refine q_iV (As := []) (rest := []) (wF := [(a_o, .inr (9, [.ref a_text, .ref a_speech, .ref a_now, w_o_image0, w_o_image1, .ref a_signs, .ref a_reader, w_o_lengths, w_o_refusals, w_o_two, .int o_measured, .long o_traced])), (a_reader_tokens, .inr (6, [.ref a_text, .int z_19.2.2.2.2.1, .int z_19.2.2.2.2.2.1, .int z_19.2.2.2.2.2.2.1])), (a_text_bytes, .inl (cI, 200, .inl f_text_bytes)), (a_signs, .inr (4, [.ref a_speech, .ref a_now])), (a_speech, .inr (7, [.ref a_speech_values, .ref a_speech_left, .int speech_choices, .int speech_worlds])), (a_speech_values, .inl (cI, 3, .inl f_speech_values)), (a_speech_left, .inl (cI, 30, .inl f_speech_left)), (a_now_wordSets, .inl (cI, 3, .inl f_now_wordSets)), (a_reader_termsLeft, .inl (cI, 10, .inl z_19.2.2.2.2.2.2.2.1)), (a_reader_factorsLeft, .inl (cI, 10, .inl z_19.2.2.2.2.2.2.2.2)), (a_reader, .inr (2, [.ref a_reader_tokens, .ref a_signs, w_reader_values, .int reader_choices, .ref a_reader_termsLeft, .ref a_reader_factorsLeft, .int z_19.2.1, .int z_19.2.2.1, .int z_19.2.2.2.1])), (a_now, .inr (0, [.ref a_now_left, .ref a_now_signs, .ref a_now_wordSets, .int z_51.1, .int now_words, .int now_filled])), (a_now_left, .inl (cI, 8, .inl z_51.2.1)), (a_now_signs, .inl (cI, 8, .inl z_51.2.2)), (a_text, .inr (5, [.ref a_text_bytes, .int z_58.2]))]) hF hA hZ hK hP hD hS (c_X6_drop l D cI cB cZ a_text (.ref a_text_bytes) text_size z_58 hc_58) rfl gX10_say_X6_drop hdX6_drop ⟨rfl, rfl⟩ (Nat.le_of_ble_eq_true rfl) (Nat.le_of_ble_eq_true rfl) 5 0 rfl rfl [2] [0, 1, 3, 4, 5, 6, 7, 8, 9, 10, 11, 12, 13, 14] rfl rfl rfl rfl (by decide) rfl hl.1 rfl (Nat.le_of_ble_eq_true rfl) (Nat.zero_le _) (Nat.zero_le _) dX10_say_58 (fun H locs hP hD hS => ?_)
      refine lv_pop hx hb dX10_say_61 rfl ?_
      refine lv_aload_n hx hb dX10_say_62 rfl (lv_at hl 1 rfl) ?_
      refine va_get (D := D) (ci := 9) (v := .ref a_now) (C := RX10) (T := TX10) (N := 12) hx hb hts u_X10 hown hK hP 0 rfl rfl 2 (by decide) k_f0 (fun _ h9 => h9) rfl dX10_say_63 ?_
      obtain ⟨z_66, hc_66, h⟩ := bd_e h
      refine q_iV (As := []) (rest := []) (wF := [(a_o, .inr (9, [.ref a_text, .ref a_speech, .ref a_now, w_o_image0, w_o_image1, .ref a_signs, .ref a_reader, w_o_lengths, w_o_refusals, w_o_two, .int o_measured, .long o_traced])), (a_reader_tokens, .inr (6, [.ref a_text, .int z_19.2.2.2.2.1, .int z_19.2.2.2.2.2.1, .int z_19.2.2.2.2.2.2.1])), (a_text_bytes, .inl (cI, 200, .inl f_text_bytes)), (a_signs, .inr (4, [.ref a_speech, .ref a_now])), (a_speech, .inr (7, [.ref a_speech_values, .ref a_speech_left, .int speech_choices, .int speech_worlds])), (a_speech_values, .inl (cI, 3, .inl f_speech_values)), (a_speech_left, .inl (cI, 30, .inl f_speech_left)), (a_now_wordSets, .inl (cI, 3, .inl f_now_wordSets)), (a_reader_termsLeft, .inl (cI, 10, .inl z_19.2.2.2.2.2.2.2.1)), (a_reader_factorsLeft, .inl (cI, 10, .inl z_19.2.2.2.2.2.2.2.2)), (a_reader, .inr (2, [.ref a_reader_tokens, .ref a_signs, w_reader_values, .int reader_choices, .ref a_reader_termsLeft, .ref a_reader_factorsLeft, .int z_19.2.1, .int z_19.2.2.1, .int z_19.2.2.2.1])), (a_now_left, .inl (cI, 8, .inl z_51.2.1)), (a_now_signs, .inl (cI, 8, .inl z_51.2.2)), (a_text, .inr (5, [.ref a_text_bytes, .int z_58.2])), (a_now, .inr (0, [.ref a_now_left, .ref a_now_signs, .ref a_now_wordSets, .int z_51.1, .int now_words, .int now_filled]))]) hF hA hZ hK hP hD hS (c_X0_sayings l D cI cB cZ a_now (.ref a_now_left) (.ref a_now_signs) (.ref a_now_wordSets) z_51.1 now_words now_filled z_66 hc_66) rfl gX10_say_X0_sayings hdX0_sayings ⟨rfl, rfl⟩ (Nat.le_of_ble_eq_true rfl) (Nat.le_of_ble_eq_true rfl) 0 0 rfl rfl [11] [0, 1, 2, 3, 4, 5, 6, 7, 8, 9, 10, 12, 13, 14] rfl rfl rfl rfl (by decide) rfl hl.1 rfl (Nat.le_of_ble_eq_true rfl) (Nat.zero_le _) (Nat.zero_le _) dX10_say_66 (fun H locs hP hD hS => ?_)
      have hz := Option.some.inj h
      subst hz
      exact hret H locs 69 ls (fun ty h => by cases h; rfl) (hP.sub [0, 13, 2, 4, 5, 6, 14, 11, 12, 7, 3, 10, 1, 8, 9] rfl) (hD.sub [0, 13, 2, 4, 5, 6, 14, 11, 12, 7, 3, 10, 1, 8, 9] (by decide) rfl) hS dX10_say_69
    · replace h := if_e c_25 h
      refine lv_bipush (v := (-10)) hx hb dX10_say_28 bc_m10 ?_
      refine lv_iload_n hx hb dX10_say_30 rfl (lv_at hl 0 rfl) ?_
      refine lv_isub hx hb dX10_say_31 ?_
      have hz := Option.some.inj h
      subst hz
      exact hret H locs 32 ls (fun ty h => by cases h; rfl) (hP.sub [0, 5, 6, 8, 9, 10, 11, 1, 2, 12, 7, 3, 4, 13, 14] rfl) (hD.sub [0, 5, 6, 8, 9, 10, 11, 1, 2, 12, 7, 3, 4, 13, 14] (by decide) rfl) hS dX10_say_32
  · replace h := if_e c_9 h
    refine lv_bipush (v := (-3)) hx hb dX10_say_12 bc_m3 ?_
    have hz := Option.some.inj h
    subst hz
    exact hret H locs 14 ls (fun ty h => by cases h; rfl) (hP.sub [0, 1, 2, 3, 4, 5, 14, 6, 7, 8, 9, 10, 11, 12, 13] rfl) (hD.sub [0, 1, 2, 3, 4, 5, 14, 6, 7, 8, 9, 10, 11, 12, 13] (by decide) rfl) hS dX10_say_14
abbrev rmX0_dropSaying : Room := { frames := 0, cells := 0, slots := 0, locals := 0 }
theorem hdX0_dropSaying : yX0_dropSaying.cls = RX0 ∧ yX0_dropSaying.cls ≠ "java/lang/invoke/MethodHandle" ∧ yX0_dropSaying.cls ≠ "java/lang/invoke/VarHandle" ∧ (parseMethodDescriptor yX0_dropSaying.desc).map (fun d => d.parameters.length) = some 0 := by decide +kernel
set_option maxRecDepth 100000 in
set_option maxHeartbeats 4000000 in
theorem c_X0_dropSaying (l : Launch) (D : va_G) (cI cB cZ : ClassId) (a_o : Nat) (w_o_left : Value) (w_o_signs : Value) (w_o_wordSets : Value) (o_sayings : Int32) (o_words : Int32) (o_filled : Int32) (z : Int32) (h : P_X0_dropSaying o_sayings = some z) : KV l yX0_dropSaying wsX0_dropSaying rmX0_dropSaying D [(cI, .int), (cB, .byte), (cZ, .boolean)] [.ref a_o] [(a_o, .inr (0, [w_o_left, w_o_signs, w_o_wordSets, .int o_sayings, .int o_words, .int o_filled]))] [(a_o, .inr (0, [w_o_left, w_o_signs, w_o_wordSets, .int z, .int o_words, .int o_filled]))] := by
  refine KV_of (own := RX0) (cc := cX0_dropSaying) (maxL := 1) (by decide) rfl rfl (Nat.le_of_ble_eq_true rfl) ?_
  intro p e s m args below meth c A Q hx hb hml hown hts hA hZ hK hret H locs ls hP hD hS hl
  have hl : lv_has ls 1 [(0, .ref a_o)] := hl
  have hF : CallFix p m c cX0_dropSaying 1 s args wsX0_dropSaying RX0 := ⟨hx, hb, hml, hown, hts⟩
  have u_X0 : ∀ w ∈ u_ws RX0 TX0 6, w ∈ wsX0_dropSaying := by decide +kernel
  have k_f0 := hts (.fieldLink RX0 19 "NoWordNo$Kept" "sayings" "I") (by decide +kernel)
  unfold P_X0_dropSaying at h
  refine lv_aload_n hx hb dX0_dropSaying_0 rfl (lv_at hl 0 rfl) ?_
  refine lv_dup hx hb dX0_dropSaying_1 rfl ?_
  refine va_get (D := D) (ci := 0) (v := .int o_sayings) (C := RX0) (T := TX0) (N := 6) hx hb hts u_X0 hown hK hP 0 rfl rfl 3 (by decide) k_f0 (fun _ h9 => h9) rfl dX0_dropSaying_2 ?_
  refine lv_iconst (v := 1) hx hb dX0_dropSaying_5 ic_1 ?_
  refine lv_isub hx hb dX0_dropSaying_6 ?_
  refine va_put (D := D) (ci := 0) (v := .int (o_sayings - 1)) (ty := .int) (C := RX0) (T := TX0) (N := 6) hx hb hts u_X0 tyX0 tyX0_ok nmX0 hown hK hP hD hS 0 rfl rfl 3 (by decide) k_f0 (fun _ h9 => h9) rfl (tyX0_ok 3 (by decide)) rfl rfl (Nat.le_of_ble_eq_true rfl) dX0_dropSaying_7 (fun H locs hP hD hS => ?_)
  have hP : va_P D vwCl [(a_o, .inr (0, [w_o_left, w_o_signs, w_o_wordSets, .int (o_sayings - 1), .int o_words, .int o_filled]))] H := hP
  have hD : va_D A [(a_o, .inr (0, [w_o_left, w_o_signs, w_o_wordSets, .int (o_sayings - 1), .int o_words, .int o_filled]))] := hD
  have hz := Option.some.inj h
  subst hz
  exact hret H locs 10 ls hP hD hS dX0_dropSaying_10
abbrev rmX10_unsay : Room := { frames := 1, cells := 0, slots := 0, locals := 20 }
theorem hdX10_unsay : yX10_unsay.cls = RX10 ∧ yX10_unsay.cls ≠ "java/lang/invoke/MethodHandle" ∧ yX10_unsay.cls ≠ "java/lang/invoke/VarHandle" ∧ (parseMethodDescriptor yX10_unsay.desc).map (fun d => d.parameters.length) = some 0 := by decide +kernel
set_option maxRecDepth 100000 in
set_option maxHeartbeats 4000000 in
theorem c_X10_unsay (l : Launch) (D : va_G) (cI cB cZ : ClassId) (a_o : Nat) (w_o_text : Value) (w_o_speech : Value) (w_o_image0 : Value) (w_o_image1 : Value) (w_o_signs : Value) (w_o_reader : Value) (w_o_lengths : Value) (w_o_refusals : Value) (w_o_two : Value) (o_measured : Int32) (o_traced : Int64) (a_now : Nat) (w_now_left : Value) (w_now_signs : Value) (w_now_wordSets : Value) (now_sayings : Int32) (now_words : Int32) (now_filled : Int32) (z : Int32 × Int32) (h : P_X10_unsay now_sayings = some z) : KI l yX10_unsay wsX10_unsay rmX10_unsay D [(cI, .int), (cB, .byte), (cZ, .boolean)] [.ref a_o] [(a_o, .inr (9, [w_o_text, w_o_speech, .ref a_now, w_o_image0, w_o_image1, w_o_signs, w_o_reader, w_o_lengths, w_o_refusals, w_o_two, .int o_measured, .long o_traced])), (a_now, .inr (0, [w_now_left, w_now_signs, w_now_wordSets, .int now_sayings, .int now_words, .int now_filled]))] [(a_o, .inr (9, [w_o_text, w_o_speech, .ref a_now, w_o_image0, w_o_image1, w_o_signs, w_o_reader, w_o_lengths, w_o_refusals, w_o_two, .int o_measured, .long o_traced])), (a_now, .inr (0, [w_now_left, w_now_signs, w_now_wordSets, .int z.2, .int now_words, .int now_filled]))] z.1 := by
  refine KI_of (own := RX10) (cc := cX10_unsay) (maxL := 1) (ret := some .int) (by decide) rfl rfl (Nat.le_of_ble_eq_true rfl) (Or.inl rfl) ?_
  intro p e s m args below meth c A Q hx hb hml hown hts hA hZ hK hret H locs ls hP hD hS hl
  have hl : lv_has ls 1 [(0, .ref a_o)] := hl
  have hF : CallFix p m c cX10_unsay 1 s args wsX10_unsay RX10 := ⟨hx, hb, hml, hown, hts⟩
  have u_X10 : ∀ w ∈ u_ws RX10 TX10 12, w ∈ wsX10_unsay := by decide +kernel
  have k_f0 := hts (.fieldLink RX10 26 "NoWordNo" "now" "LNoWordNo$Kept;") (by decide +kernel)
  unfold P_X10_unsay at h
  refine lv_aload_n hx hb dX10_unsay_0 rfl (lv_at hl 0 rfl) ?_
  refine va_get (D := D) (ci := 9) (v := .ref a_now) (C := RX10) (T := TX10) (N := 12) hx hb hts u_X10 hown hK hP 0 rfl rfl 2 (by decide) k_f0 (fun _ h9 => h9) rfl dX10_unsay_1 ?_
  obtain ⟨z_4, hc_4, h⟩ := bd_e h
  refine q_iV (As := []) (rest := []) (wF := [(a_o, .inr (9, [w_o_text, w_o_speech, .ref a_now, w_o_image0, w_o_image1, w_o_signs, w_o_reader, w_o_lengths, w_o_refusals, w_o_two, .int o_measured, .long o_traced])), (a_now, .inr (0, [w_now_left, w_now_signs, w_now_wordSets, .int now_sayings, .int now_words, .int now_filled]))]) hF hA hZ hK hP hD hS (c_X0_sayings l D cI cB cZ a_now w_now_left w_now_signs w_now_wordSets now_sayings now_words now_filled z_4 hc_4) rfl gX10_unsay_X0_sayings hdX0_sayings ⟨rfl, rfl⟩ (Nat.le_of_ble_eq_true rfl) (Nat.le_of_ble_eq_true rfl) 0 0 rfl rfl [1] [0] rfl rfl rfl rfl (by decide) rfl hl.1 rfl (Nat.le_of_ble_eq_true rfl) (Nat.zero_le _) (Nat.zero_le _) dX10_unsay_4 (fun H locs hP hD hS => ?_)
  refine lv_if_ne (tgt := 13) hx hb dX10_unsay_7 (by decide) (fun c_7 => ?_) (fun c_7 => ?_)
  · replace h := if_e c_7 h
    refine lv_aload_n hx hb dX10_unsay_13 rfl (lv_at hl 0 rfl) ?_
    refine va_get (D := D) (ci := 9) (v := .ref a_now) (C := RX10) (T := TX10) (N := 12) hx hb hts u_X10 hown hK hP 0 rfl rfl 2 (by decide) k_f0 (fun _ h9 => h9) rfl dX10_unsay_14 ?_
    obtain ⟨z_17, hc_17, h⟩ := bd_e h
    refine q_vV (As := []) (rest := []) (wF := [(a_o, .inr (9, [w_o_text, w_o_speech, .ref a_now, w_o_image0, w_o_image1, w_o_signs, w_o_reader, w_o_lengths, w_o_refusals, w_o_two, .int o_measured, .long o_traced])), (a_now, .inr (0, [w_now_left, w_now_signs, w_now_wordSets, .int z_17, .int now_words, .int now_filled]))]) hF hA hZ hK hP hD hS (c_X0_dropSaying l D cI cB cZ a_now w_now_left w_now_signs w_now_wordSets now_sayings now_words now_filled z_17 hc_17) rfl gX10_unsay_X0_dropSaying hdX0_dropSaying ⟨rfl, rfl⟩ (Nat.le_of_ble_eq_true rfl) (Nat.le_of_ble_eq_true rfl) 0 0 rfl rfl [1] [0] rfl rfl rfl rfl (by decide) rfl hl.1 rfl (Nat.le_of_ble_eq_true rfl) (Nat.zero_le _) (Nat.zero_le _) dX10_unsay_17 (fun H locs hP hD hS => ?_)
    refine lv_aload_n hx hb dX10_unsay_20 rfl (lv_at hl 0 rfl) ?_
    refine va_get (D := D) (ci := 9) (v := .ref a_now) (C := RX10) (T := TX10) (N := 12) hx hb hts u_X10 hown hK hP 0 rfl rfl 2 (by decide) k_f0 (fun _ h9 => h9) rfl dX10_unsay_21 ?_
    obtain ⟨z_24, hc_24, h⟩ := bd_e h
    refine q_iV (As := []) (rest := []) (wF := [(a_o, .inr (9, [w_o_text, w_o_speech, .ref a_now, w_o_image0, w_o_image1, w_o_signs, w_o_reader, w_o_lengths, w_o_refusals, w_o_two, .int o_measured, .long o_traced])), (a_now, .inr (0, [w_now_left, w_now_signs, w_now_wordSets, .int z_17, .int now_words, .int now_filled]))]) hF hA hZ hK hP hD hS (c_X0_sayings l D cI cB cZ a_now w_now_left w_now_signs w_now_wordSets z_17 now_words now_filled z_24 hc_24) rfl gX10_unsay_X0_sayings hdX0_sayings ⟨rfl, rfl⟩ (Nat.le_of_ble_eq_true rfl) (Nat.le_of_ble_eq_true rfl) 0 0 rfl rfl [1] [0] rfl rfl rfl rfl (by decide) rfl hl.1 rfl (Nat.le_of_ble_eq_true rfl) (Nat.zero_le _) (Nat.zero_le _) dX10_unsay_24 (fun H locs hP hD hS => ?_)
    have hz := Option.some.inj h
    subst hz
    exact hret H locs 27 ls (fun ty h => by cases h; rfl) hP hD hS dX10_unsay_27
  · replace h := it_e c_7 h
    refine lv_bipush (v := (-2)) hx hb dX10_unsay_10 bc_m2 ?_
    have hz := Option.some.inj h
    subst hz
    exact hret H locs 12 ls (fun ty h => by cases h; rfl) hP hD hS dX10_unsay_12
abbrev rmX8_isSet : Room := { frames := 1, cells := 0, slots := 0, locals := 20 }
theorem hdX8_isSet : yX8_isSet.cls = RX8 ∧ yX8_isSet.cls ≠ "java/lang/invoke/MethodHandle" ∧ yX8_isSet.cls ≠ "java/lang/invoke/VarHandle" ∧ (parseMethodDescriptor yX8_isSet.desc).map (fun d => d.parameters.length) = some 1 := by decide +kernel
set_option maxRecDepth 100000 in
set_option maxHeartbeats 4000000 in
theorem c_X8_isSet (l : Launch) (D : va_G) (cI cB cZ : ClassId) (a_o : Nat) (w_o_values : Value) (w_o_left : Value) (o_choices : Int32) (o_worlds : Int32) (p1 : Int32) (z : Int32) (h : P_X8_isSet p1 o_worlds = some z) : KI l yX8_isSet wsX8_isSet rmX8_isSet D [(cI, .int), (cB, .byte), (cZ, .boolean)] [.ref a_o, .int p1] [(a_o, .inr (7, [w_o_values, w_o_left, .int o_choices, .int o_worlds]))] [(a_o, .inr (7, [w_o_values, w_o_left, .int o_choices, .int o_worlds]))] z := by
  refine KI_of (own := RX8) (cc := cX8_isSet) (maxL := 2) (ret := some .boolean) (by decide) rfl rfl (Nat.le_of_ble_eq_true rfl) (Or.inr rfl) ?_
  intro p e s m args below meth c A Q hx hb hml hown hts hA hZ hK hret H locs ls hP hD hS hl
  have hl : lv_has ls 2 [(0, .ref a_o), (1, .int p1)] := hl
  have hF : CallFix p m c cX8_isSet 2 s args wsX8_isSet RX8 := ⟨hx, hb, hml, hown, hts⟩
  unfold P_X8_isSet at h
  refine lv_iload_n hx hb dX8_isSet_0 rfl (lv_at hl 1 rfl) ?_
  refine lv_if_lt (tgt := 16) hx hb dX8_isSet_1 (by decide) (fun c_1 => ?_) (fun c_1 => ?_)
  · replace h := it_e c_1 h
    refine lv_iconst (v := 0) hx hb dX8_isSet_16 ic_0 ?_
    have hz := Option.some.inj h
    subst hz
    exact hret H locs 17 ls (fun ty h => by cases h; exact nar_0) hP hD hS dX8_isSet_17
  · replace h := if_e c_1 h
    refine lv_iload_n hx hb dX8_isSet_4 rfl (lv_at hl 1 rfl) ?_
    refine lv_aload_n hx hb dX8_isSet_5 rfl (lv_at hl 0 rfl) ?_
    obtain ⟨z_6, hc_6, h⟩ := bd_e h
    refine q_iV (As := []) (rest := [.int p1]) (wF := [(a_o, .inr (7, [w_o_values, w_o_left, .int o_choices, .int o_worlds]))]) hF hA hZ hK hP hD hS (c_X8_all l D cI cB cZ a_o w_o_values w_o_left o_choices o_worlds z_6 hc_6) rfl gX8_isSet_X8_all hdX8_all ⟨rfl, rfl⟩ (Nat.le_of_ble_eq_true rfl) (Nat.le_of_ble_eq_true rfl) 7 0 rfl rfl [0] [] rfl rfl rfl rfl (by decide) rfl hl.1 rfl (Nat.le_of_ble_eq_true rfl) (Nat.zero_le _) (Nat.zero_le _) dX8_isSet_6 (fun H locs hP hD hS => ?_)
    refine lv_icmp_gt (tgt := 16) hx hb dX8_isSet_9 (by decide) (fun c_9 => ?_) (fun c_9 => ?_)
    · replace h := it_e c_9 h
      refine lv_iconst (v := 0) hx hb dX8_isSet_16 ic_0 ?_
      have hz := Option.some.inj h
      subst hz
      exact hret H locs 17 ls (fun ty h => by cases h; exact nar_0) hP hD hS dX8_isSet_17
    · replace h := if_e c_9 h
      refine lv_iconst (v := 1) hx hb dX8_isSet_12 ic_1 ?_
      refine lv_goto (tgt := 17) hx hb dX8_isSet_13 (by decide) ?_
      have hz := Option.some.inj h
      subst hz
      exact hret H locs 17 ls (fun ty h => by cases h; exact nar_1) hP hD hS dX8_isSet_17
abbrev rmX0_addWord : Room := { frames := 1, cells := 0, slots := 0, locals := 22 }
theorem hdX0_addWord : yX0_addWord.cls = RX0 ∧ yX0_addWord.cls ≠ "java/lang/invoke/MethodHandle" ∧ yX0_addWord.cls ≠ "java/lang/invoke/VarHandle" ∧ (parseMethodDescriptor yX0_addWord.desc).map (fun d => d.parameters.length) = some 1 := by decide +kernel
set_option maxRecDepth 100000 in
set_option maxHeartbeats 4000000 in
theorem c_X0_addWord (l : Launch) (D : va_G) (cI cB cZ : ClassId) (a_o : Nat) (w_o_left : Value) (w_o_signs : Value) (o_sayings : Int32) (o_words : Int32) (o_filled : Int32) (a_wordSets : Nat) (f_wordSets : Nat → Int32) (p1 : Int32) (z : Int32 × (Nat → Int32)) (h : P_X0_addWord p1 o_words f_wordSets = some z) : KV l yX0_addWord wsX0_addWord rmX0_addWord D [(cI, .int), (cB, .byte), (cZ, .boolean)] [.ref a_o, .int p1] [(a_o, .inr (0, [w_o_left, w_o_signs, .ref a_wordSets, .int o_sayings, .int o_words, .int o_filled])), (a_wordSets, .inl (cI, 3, .inl f_wordSets))] [(a_o, .inr (0, [w_o_left, w_o_signs, .ref a_wordSets, .int o_sayings, .int z.1, .int o_filled])), (a_wordSets, .inl (cI, 3, .inl z.2))] := by
  refine KV_of (own := RX0) (cc := cX0_addWord) (maxL := 2) (by decide) rfl rfl (Nat.le_of_ble_eq_true rfl) ?_
  intro p e s m args below meth c A Q hx hb hml hown hts hA hZ hK hret H locs ls hP hD hS hl
  have hl : lv_has ls 2 [(0, .ref a_o), (1, .int p1)] := hl
  have hF : CallFix p m c cX0_addWord 2 s args wsX0_addWord RX0 := ⟨hx, hb, hml, hown, hts⟩
  have u_X0 : ∀ w ∈ u_ws RX0 TX0 6, w ∈ wsX0_addWord := by decide +kernel
  have k_f0 := hts (.fieldLink RX0 16 "NoWordNo$Kept" "wordSets" "[I") (by decide +kernel)
  have k_f1 := hts (.fieldLink RX0 23 "NoWordNo$Kept" "words" "I") (by decide +kernel)
  unfold P_X0_addWord at h
  refine lv_aload_n hx hb dX0_addWord_0 rfl (lv_at hl 0 rfl) ?_
  refine va_get (D := D) (ci := 0) (v := .ref a_wordSets) (C := RX0) (T := TX0) (N := 6) hx hb hts u_X0 hown hK hP 0 rfl rfl 2 (by decide) k_f0 (fun _ h9 => h9) rfl dX0_addWord_1 ?_
  refine lv_aload_n hx hb dX0_addWord_4 rfl (lv_at hl 0 rfl) ?_
  refine va_get (D := D) (ci := 0) (v := .int o_words) (C := RX0) (T := TX0) (N := 6) hx hb hts u_X0 hown hK hP 0 rfl rfl 4 (by decide) k_f1 (fun _ h9 => h9) rfl dX0_addWord_5 ?_
  refine lv_iload_n hx hb dX0_addWord_8 rfl (lv_at hl 1 rfl) ?_
  obtain ⟨z_9, hc_9, h⟩ := bd_e h
  refine q_vS (As := [.ref a_wordSets, .int o_words, .int p1]) (rest := []) (wF := [(a_o, .inr (0, [w_o_left, w_o_signs, .ref a_wordSets, .int o_sayings, .int o_words, .int o_filled])), (a_wordSets, .inl (cI, 3, .inl z_9))]) hF hA hZ hK hP hD hS (c_X4_put l D cI cB cZ a_wordSets 3 f_wordSets o_words p1 z_9 hc_9) rfl gX0_addWord_X4_put hdX4_put ⟨rfl, rfl⟩ (Nat.le_of_ble_eq_true rfl) (Nat.le_of_ble_eq_true rfl) [1] [0] rfl rfl rfl rfl (by decide) rfl hl.1 rfl (Nat.le_of_ble_eq_true rfl) (Nat.zero_le _) (Nat.zero_le _) dX0_addWord_9 (fun H locs hP hD hS => ?_)
  refine lv_aload_n hx hb dX0_addWord_12 rfl (lv_at hl 0 rfl) ?_
  refine lv_dup hx hb dX0_addWord_13 rfl ?_
  refine va_get (D := D) (ci := 0) (v := .int o_words) (C := RX0) (T := TX0) (N := 6) hx hb hts u_X0 hown hK hP 0 rfl rfl 4 (by decide) k_f1 (fun _ h9 => h9) rfl dX0_addWord_14 ?_
  refine lv_iconst (v := 1) hx hb dX0_addWord_17 ic_1 ?_
  refine lv_iadd hx hb dX0_addWord_18 ?_
  refine va_put (D := D) (ci := 0) (v := .int (o_words + 1)) (ty := .int) (C := RX0) (T := TX0) (N := 6) hx hb hts u_X0 tyX0 tyX0_ok nmX0 hown hK hP hD hS 0 rfl rfl 4 (by decide) k_f1 (fun _ h9 => h9) rfl (tyX0_ok 4 (by decide)) rfl rfl (Nat.le_of_ble_eq_true rfl) dX0_addWord_19 (fun H locs hP hD hS => ?_)
  have hP : va_P D vwCl [(a_o, .inr (0, [w_o_left, w_o_signs, .ref a_wordSets, .int o_sayings, .int (o_words + 1), .int o_filled])), (a_wordSets, .inl (cI, 3, .inl z_9))] H := hP
  have hD : va_D A [(a_o, .inr (0, [w_o_left, w_o_signs, .ref a_wordSets, .int o_sayings, .int (o_words + 1), .int o_filled])), (a_wordSets, .inl (cI, 3, .inl z_9))] := hD
  have hz := Option.some.inj h
  subst hz
  exact hret H locs 22 ls hP hD hS dX0_addWord_22
abbrev rmX10_word : Room := { frames := 2, cells := 0, slots := 0, locals := 43 }
theorem hdX10_word : yX10_word.cls = RX10 ∧ yX10_word.cls ≠ "java/lang/invoke/MethodHandle" ∧ yX10_word.cls ≠ "java/lang/invoke/VarHandle" ∧ (parseMethodDescriptor yX10_word.desc).map (fun d => d.parameters.length) = some 1 := by decide +kernel
set_option maxRecDepth 100000 in
set_option maxHeartbeats 4000000 in
theorem c_X10_word (l : Launch) (D : va_G) (cI cB cZ : ClassId) (a_o : Nat) (w_o_text : Value) (w_o_image0 : Value) (w_o_image1 : Value) (w_o_signs : Value) (w_o_reader : Value) (w_o_lengths : Value) (w_o_two : Value) (o_measured : Int32) (o_traced : Int64) (a_speech : Nat) (w_speech_values : Value) (w_speech_left : Value) (speech_choices : Int32) (speech_worlds : Int32) (a_now : Nat) (w_now_left : Value) (w_now_signs : Value) (now_sayings : Int32) (now_words : Int32) (now_filled : Int32) (a_now_wordSets : Nat) (f_now_wordSets : Nat → Int32) (a_refusals : Nat) (w_refusals_tried : Value) (refusals_sign : Int32) (refusals_sum : Int32) (refusals_known : Int32) (p1 : Int32) (z : Int32 × Int32 × Int32 × (Nat → Int32) × Int32) (h : P_X10_word p1 o_measured speech_worlds now_words f_now_wordSets refusals_known = some z) : KI l yX10_word wsX10_word rmX10_word D [(cI, .int), (cB, .byte), (cZ, .boolean)] [.ref a_o, .int p1] [(a_o, .inr (9, [w_o_text, .ref a_speech, .ref a_now, w_o_image0, w_o_image1, w_o_signs, w_o_reader, w_o_lengths, .ref a_refusals, w_o_two, .int o_measured, .long o_traced])), (a_speech, .inr (7, [w_speech_values, w_speech_left, .int speech_choices, .int speech_worlds])), (a_now, .inr (0, [w_now_left, w_now_signs, .ref a_now_wordSets, .int now_sayings, .int now_words, .int now_filled])), (a_now_wordSets, .inl (cI, 3, .inl f_now_wordSets)), (a_refusals, .inr (3, [.ref a_speech, w_refusals_tried, .int refusals_sign, .int refusals_sum, .int refusals_known]))] [(a_o, .inr (9, [w_o_text, .ref a_speech, .ref a_now, w_o_image0, w_o_image1, w_o_signs, w_o_reader, w_o_lengths, .ref a_refusals, w_o_two, .int z.2.1, .long o_traced])), (a_speech, .inr (7, [w_speech_values, w_speech_left, .int speech_choices, .int speech_worlds])), (a_now, .inr (0, [w_now_left, w_now_signs, .ref a_now_wordSets, .int now_sayings, .int z.2.2.1, .int now_filled])), (a_now_wordSets, .inl (cI, 3, .inl z.2.2.2.1)), (a_refusals, .inr (3, [.ref a_speech, w_refusals_tried, .int refusals_sign, .int refusals_sum, .int z.2.2.2.2]))] z.1 := by
  refine KI_of (own := RX10) (cc := cX10_word) (maxL := 2) (ret := some .int) (by decide) rfl rfl (Nat.le_of_ble_eq_true rfl) (Or.inl rfl) ?_
  intro p e s m args below meth c A Q hx hb hml hown hts hA hZ hK hret H locs ls hP hD hS hl
  have hl : lv_has ls 2 [(0, .ref a_o), (1, .int p1)] := hl
  have hF : CallFix p m c cX10_word 2 s args wsX10_word RX10 := ⟨hx, hb, hml, hown, hts⟩
  have u_X10 : ∀ w ∈ u_ws RX10 TX10 12, w ∈ wsX10_word := by decide +kernel
  have k_f0 := hts (.fieldLink RX10 19 "NoWordNo" "speech" "LNoWordNo$Tongue;") (by decide +kernel)
  have k_f1 := hts (.fieldLink RX10 26 "NoWordNo" "now" "LNoWordNo$Kept;") (by decide +kernel)
  unfold P_X10_word at h
  refine lv_aload_n hx hb dX10_word_0 rfl (lv_at hl 0 rfl) ?_
  refine va_get (D := D) (ci := 9) (v := .ref a_speech) (C := RX10) (T := TX10) (N := 12) hx hb hts u_X10 hown hK hP 0 rfl rfl 1 (by decide) k_f0 (fun _ h9 => h9) rfl dX10_word_1 ?_
  refine lv_iload_n hx hb dX10_word_4 rfl (lv_at hl 1 rfl) ?_
  obtain ⟨z_5, hc_5, h⟩ := bd_e h
  refine q_iV (As := [.int p1]) (rest := []) (wF := [(a_o, .inr (9, [w_o_text, .ref a_speech, .ref a_now, w_o_image0, w_o_image1, w_o_signs, w_o_reader, w_o_lengths, .ref a_refusals, w_o_two, .int o_measured, .long o_traced])), (a_now, .inr (0, [w_now_left, w_now_signs, .ref a_now_wordSets, .int now_sayings, .int now_words, .int now_filled])), (a_now_wordSets, .inl (cI, 3, .inl f_now_wordSets)), (a_refusals, .inr (3, [.ref a_speech, w_refusals_tried, .int refusals_sign, .int refusals_sum, .int refusals_known])), (a_speech, .inr (7, [w_speech_values, w_speech_left, .int speech_choices, .int speech_worlds]))]) hF hA hZ hK hP hD hS (c_X8_isSet l D cI cB cZ a_speech w_speech_values w_speech_left speech_choices speech_worlds p1 z_5 hc_5) rfl gX10_word_X8_isSet hdX8_isSet ⟨rfl, rfl⟩ (Nat.le_of_ble_eq_true rfl) (Nat.le_of_ble_eq_true rfl) 7 0 rfl rfl [1] [0, 2, 3, 4] rfl rfl rfl rfl (by decide) rfl hl.1 rfl (Nat.le_of_ble_eq_true rfl) (Nat.zero_le _) (Nat.zero_le _) dX10_word_5 (fun H locs hP hD hS => ?_)
  refine lv_if_ne (tgt := 13) hx hb dX10_word_8 (by decide) (fun c_8 => ?_) (fun c_8 => ?_)
  · replace h := if_e c_8 h
    refine lv_aload_n hx hb dX10_word_13 rfl (lv_at hl 0 rfl) ?_
    refine va_get (D := D) (ci := 9) (v := .ref a_now) (C := RX10) (T := TX10) (N := 12) hx hb hts u_X10 hown hK hP 0 rfl rfl 2 (by decide) k_f1 (fun _ h9 => h9) rfl dX10_word_14 ?_
    obtain ⟨z_17, hc_17, h⟩ := bd_e h
    refine q_iV (As := []) (rest := []) (wF := [(a_o, .inr (9, [w_o_text, .ref a_speech, .ref a_now, w_o_image0, w_o_image1, w_o_signs, w_o_reader, w_o_lengths, .ref a_refusals, w_o_two, .int o_measured, .long o_traced])), (a_now_wordSets, .inl (cI, 3, .inl f_now_wordSets)), (a_refusals, .inr (3, [.ref a_speech, w_refusals_tried, .int refusals_sign, .int refusals_sum, .int refusals_known])), (a_speech, .inr (7, [w_speech_values, w_speech_left, .int speech_choices, .int speech_worlds])), (a_now, .inr (0, [w_now_left, w_now_signs, .ref a_now_wordSets, .int now_sayings, .int now_words, .int now_filled]))]) hF hA hZ hK hP hD hS (c_X0_words l D cI cB cZ a_now w_now_left w_now_signs (.ref a_now_wordSets) now_sayings now_words now_filled z_17 hc_17) rfl gX10_word_X0_words hdX0_words ⟨rfl, rfl⟩ (Nat.le_of_ble_eq_true rfl) (Nat.le_of_ble_eq_true rfl) 0 0 rfl rfl [1] [0, 2, 3, 4] rfl rfl rfl rfl (by decide) rfl hl.1 rfl (Nat.le_of_ble_eq_true rfl) (Nat.zero_le _) (Nat.zero_le _) dX10_word_17 (fun H locs hP hD hS => ?_)
    refine lv_iconst (v := 3) hx hb dX10_word_20 ic_3 ?_
    refine lv_icmp_lt (tgt := 27) hx hb dX10_word_21 (by decide) (fun c_21 => ?_) (fun c_21 => ?_)
    · replace h := it_e c_21 h
      refine lv_aload_n hx hb dX10_word_27 rfl (lv_at hl 0 rfl) ?_
      refine va_get (D := D) (ci := 9) (v := .ref a_now) (C := RX10) (T := TX10) (N := 12) hx hb hts u_X10 hown hK hP 0 rfl rfl 2 (by decide) k_f1 (fun _ h9 => h9) rfl dX10_word_28 ?_
      refine lv_iload_n hx hb dX10_word_31 rfl (lv_at hl 1 rfl) ?_
      obtain ⟨z_32, hc_32, h⟩ := bd_e h
      refine q_vV (As := [.int p1]) (rest := []) (wF := [(a_o, .inr (9, [w_o_text, .ref a_speech, .ref a_now, w_o_image0, w_o_image1, w_o_signs, w_o_reader, w_o_lengths, .ref a_refusals, w_o_two, .int o_measured, .long o_traced])), (a_refusals, .inr (3, [.ref a_speech, w_refusals_tried, .int refusals_sign, .int refusals_sum, .int refusals_known])), (a_speech, .inr (7, [w_speech_values, w_speech_left, .int speech_choices, .int speech_worlds])), (a_now, .inr (0, [w_now_left, w_now_signs, .ref a_now_wordSets, .int now_sayings, .int z_32.1, .int now_filled])), (a_now_wordSets, .inl (cI, 3, .inl z_32.2))]) hF hA hZ hK hP hD hS (c_X0_addWord l D cI cB cZ a_now w_now_left w_now_signs now_sayings now_words now_filled a_now_wordSets f_now_wordSets p1 z_32 hc_32) rfl gX10_word_X0_addWord hdX0_addWord ⟨rfl, rfl⟩ (Nat.le_of_ble_eq_true rfl) (Nat.le_of_ble_eq_true rfl) 0 0 rfl rfl [4, 1] [0, 2, 3] rfl rfl rfl rfl (by decide) rfl hl.1 rfl (Nat.le_of_ble_eq_true rfl) (Nat.zero_le _) (Nat.zero_le _) dX10_word_32 (fun H locs hP hD hS => ?_)
      refine lv_aload_n hx hb dX10_word_35 rfl (lv_at hl 0 rfl) ?_
      obtain ⟨z_36, hc_36, h⟩ := bd_e h
      refine q_vV (As := []) (rest := []) (wF := [(a_speech, .inr (7, [w_speech_values, w_speech_left, .int speech_choices, .int speech_worlds])), (a_now, .inr (0, [w_now_left, w_now_signs, .ref a_now_wordSets, .int now_sayings, .int z_32.1, .int now_filled])), (a_now_wordSets, .inl (cI, 3, .inl z_32.2)), (a_o, .inr (9, [w_o_text, .ref a_speech, .ref a_now, w_o_image0, w_o_image1, w_o_signs, w_o_reader, w_o_lengths, .ref a_refusals, w_o_two, .int z_36.1, .long o_traced])), (a_refusals, .inr (3, [.ref a_speech, w_refusals_tried, .int refusals_sign, .int refusals_sum, .int z_36.2]))]) hF hA hZ hK hP hD hS (c_X10_signsChanged l D cI cB cZ a_o w_o_text (.ref a_speech) (.ref a_now) w_o_image0 w_o_image1 w_o_signs w_o_reader w_o_lengths w_o_two o_measured o_traced a_refusals (.ref a_speech) w_refusals_tried refusals_sign refusals_sum refusals_known z_36 hc_36) rfl gX10_word_X10_signsChanged hdX10_signsChanged ⟨rfl, rfl⟩ (Nat.le_of_ble_eq_true rfl) (Nat.le_of_ble_eq_true rfl) 9 0 rfl rfl [0, 1] [2, 3, 4] rfl rfl rfl rfl (by decide) rfl hl.1 rfl (Nat.le_of_ble_eq_true rfl) (Nat.zero_le _) (Nat.zero_le _) dX10_word_36 (fun H locs hP hD hS => ?_)
      refine lv_aload_n hx hb dX10_word_39 rfl (lv_at hl 0 rfl) ?_
      refine va_get (D := D) (ci := 9) (v := .ref a_now) (C := RX10) (T := TX10) (N := 12) hx hb hts u_X10 hown hK hP 3 rfl rfl 2 (by decide) k_f1 (fun _ h9 => h9) rfl dX10_word_40 ?_
      obtain ⟨z_43, hc_43, h⟩ := bd_e h
      refine q_iV (As := []) (rest := []) (wF := [(a_speech, .inr (7, [w_speech_values, w_speech_left, .int speech_choices, .int speech_worlds])), (a_now_wordSets, .inl (cI, 3, .inl z_32.2)), (a_o, .inr (9, [w_o_text, .ref a_speech, .ref a_now, w_o_image0, w_o_image1, w_o_signs, w_o_reader, w_o_lengths, .ref a_refusals, w_o_two, .int z_36.1, .long o_traced])), (a_refusals, .inr (3, [.ref a_speech, w_refusals_tried, .int refusals_sign, .int refusals_sum, .int z_36.2])), (a_now, .inr (0, [w_now_left, w_now_signs, .ref a_now_wordSets, .int now_sayings, .int z_32.1, .int now_filled]))]) hF hA hZ hK hP hD hS (c_X0_words l D cI cB cZ a_now w_now_left w_now_signs (.ref a_now_wordSets) now_sayings z_32.1 now_filled z_43 hc_43) rfl gX10_word_X0_words hdX0_words ⟨rfl, rfl⟩ (Nat.le_of_ble_eq_true rfl) (Nat.le_of_ble_eq_true rfl) 0 0 rfl rfl [1] [0, 2, 3, 4] rfl rfl rfl rfl (by decide) rfl hl.1 rfl (Nat.le_of_ble_eq_true rfl) (Nat.zero_le _) (Nat.zero_le _) dX10_word_43 (fun H locs hP hD hS => ?_)
      have hz := Option.some.inj h
      subst hz
      exact hret H locs 46 ls (fun ty h => by cases h; rfl) (hP.sub [2, 0, 4, 1, 3] rfl) (hD.sub [2, 0, 4, 1, 3] (by decide) rfl) hS dX10_word_46
    · replace h := if_e c_21 h
      refine lv_bipush (v := (-3)) hx hb dX10_word_24 bc_m3 ?_
      have hz := Option.some.inj h
      subst hz
      exact hret H locs 26 ls (fun ty h => by cases h; rfl) (hP.sub [0, 3, 4, 1, 2] rfl) (hD.sub [0, 3, 4, 1, 2] (by decide) rfl) hS dX10_word_26
  · replace h := it_e c_8 h
    refine lv_iconst (v := (-1)) hx hb dX10_word_11 ic_m1 ?_
    have hz := Option.some.inj h
    subst hz
    exact hret H locs 12 ls (fun ty h => by cases h; rfl) (hP.sub [0, 4, 1, 2, 3] rfl) (hD.sub [0, 4, 1, 2, 3] (by decide) rfl) hS dX10_word_12
abbrev rmX0_dropWords : Room := { frames := 0, cells := 0, slots := 0, locals := 0 }
theorem hdX0_dropWords : yX0_dropWords.cls = RX0 ∧ yX0_dropWords.cls ≠ "java/lang/invoke/MethodHandle" ∧ yX0_dropWords.cls ≠ "java/lang/invoke/VarHandle" ∧ (parseMethodDescriptor yX0_dropWords.desc).map (fun d => d.parameters.length) = some 0 := by decide +kernel
set_option maxRecDepth 100000 in
set_option maxHeartbeats 4000000 in
theorem c_X0_dropWords (l : Launch) (D : va_G) (cI cB cZ : ClassId) (a_o : Nat) (w_o_left : Value) (w_o_signs : Value) (w_o_wordSets : Value) (o_sayings : Int32) (o_words : Int32) (o_filled : Int32) (z : Int32) (h : P_X0_dropWords o_words = some z) : KV l yX0_dropWords wsX0_dropWords rmX0_dropWords D [(cI, .int), (cB, .byte), (cZ, .boolean)] [.ref a_o] [(a_o, .inr (0, [w_o_left, w_o_signs, w_o_wordSets, .int o_sayings, .int o_words, .int o_filled]))] [(a_o, .inr (0, [w_o_left, w_o_signs, w_o_wordSets, .int o_sayings, .int z, .int o_filled]))] := by
  refine KV_of (own := RX0) (cc := cX0_dropWords) (maxL := 1) (by decide) rfl rfl (Nat.le_of_ble_eq_true rfl) ?_
  intro p e s m args below meth c A Q hx hb hml hown hts hA hZ hK hret H locs ls hP hD hS hl
  have hl : lv_has ls 1 [(0, .ref a_o)] := hl
  have hF : CallFix p m c cX0_dropWords 1 s args wsX0_dropWords RX0 := ⟨hx, hb, hml, hown, hts⟩
  have u_X0 : ∀ w ∈ u_ws RX0 TX0 6, w ∈ wsX0_dropWords := by decide +kernel
  have k_f0 := hts (.fieldLink RX0 23 "NoWordNo$Kept" "words" "I") (by decide +kernel)
  unfold P_X0_dropWords at h
  refine lv_aload_n hx hb dX0_dropWords_0 rfl (lv_at hl 0 rfl) ?_
  refine lv_iconst (v := 0) hx hb dX0_dropWords_1 ic_0 ?_
  refine va_put (D := D) (ci := 0) (v := .int 0) (ty := .int) (C := RX0) (T := TX0) (N := 6) hx hb hts u_X0 tyX0 tyX0_ok nmX0 hown hK hP hD hS 0 rfl rfl 4 (by decide) k_f0 (fun _ h9 => h9) rfl (tyX0_ok 4 (by decide)) rfl rfl (Nat.le_of_ble_eq_true rfl) dX0_dropWords_2 (fun H locs hP hD hS => ?_)
  have hP : va_P D vwCl [(a_o, .inr (0, [w_o_left, w_o_signs, w_o_wordSets, .int o_sayings, .int 0, .int o_filled]))] H := hP
  have hD : va_D A [(a_o, .inr (0, [w_o_left, w_o_signs, w_o_wordSets, .int o_sayings, .int 0, .int o_filled]))] := hD
  have hz := Option.some.inj h
  subst hz
  exact hret H locs 5 ls hP hD hS dX0_dropWords_5
abbrev rmX10_unword : Room := { frames := 2, cells := 0, slots := 0, locals := 40 }
theorem hdX10_unword : yX10_unword.cls = RX10 ∧ yX10_unword.cls ≠ "java/lang/invoke/MethodHandle" ∧ yX10_unword.cls ≠ "java/lang/invoke/VarHandle" ∧ (parseMethodDescriptor yX10_unword.desc).map (fun d => d.parameters.length) = some 0 := by decide +kernel
set_option maxRecDepth 100000 in
set_option maxHeartbeats 4000000 in
theorem c_X10_unword (l : Launch) (D : va_G) (cI cB cZ : ClassId) (a_o : Nat) (w_o_text : Value) (w_o_speech : Value) (w_o_image0 : Value) (w_o_image1 : Value) (w_o_signs : Value) (w_o_reader : Value) (w_o_lengths : Value) (w_o_two : Value) (o_measured : Int32) (o_traced : Int64) (a_now : Nat) (w_now_left : Value) (w_now_signs : Value) (w_now_wordSets : Value) (now_sayings : Int32) (now_words : Int32) (now_filled : Int32) (a_refusals : Nat) (w_refusals_tongue : Value) (w_refusals_tried : Value) (refusals_sign : Int32) (refusals_sum : Int32) (refusals_known : Int32) (z : Int32 × Int32 × Int32 × Int32) (h : P_X10_unword o_measured now_words refusals_known = some z) : KI l yX10_unword wsX10_unword rmX10_unword D [(cI, .int), (cB, .byte), (cZ, .boolean)] [.ref a_o] [(a_o, .inr (9, [w_o_text, w_o_speech, .ref a_now, w_o_image0, w_o_image1, w_o_signs, w_o_reader, w_o_lengths, .ref a_refusals, w_o_two, .int o_measured, .long o_traced])), (a_now, .inr (0, [w_now_left, w_now_signs, w_now_wordSets, .int now_sayings, .int now_words, .int now_filled])), (a_refusals, .inr (3, [w_refusals_tongue, w_refusals_tried, .int refusals_sign, .int refusals_sum, .int refusals_known]))] [(a_o, .inr (9, [w_o_text, w_o_speech, .ref a_now, w_o_image0, w_o_image1, w_o_signs, w_o_reader, w_o_lengths, .ref a_refusals, w_o_two, .int z.2.1, .long o_traced])), (a_now, .inr (0, [w_now_left, w_now_signs, w_now_wordSets, .int now_sayings, .int z.2.2.1, .int now_filled])), (a_refusals, .inr (3, [w_refusals_tongue, w_refusals_tried, .int refusals_sign, .int refusals_sum, .int z.2.2.2]))] z.1 := by
  refine KI_of (own := RX10) (cc := cX10_unword) (maxL := 2) (ret := some .int) (by decide) rfl rfl (Nat.le_of_ble_eq_true rfl) (Or.inl rfl) ?_
  intro p e s m args below meth c A Q hx hb hml hown hts hA hZ hK hret H locs ls hP hD hS hl
  have hl : lv_has ls 2 [(0, .ref a_o)] := hl
  have hF : CallFix p m c cX10_unword 2 s args wsX10_unword RX10 := ⟨hx, hb, hml, hown, hts⟩
  have u_X10 : ∀ w ∈ u_ws RX10 TX10 12, w ∈ wsX10_unword := by decide +kernel
  have k_f0 := hts (.fieldLink RX10 26 "NoWordNo" "now" "LNoWordNo$Kept;") (by decide +kernel)
  unfold P_X10_unword at h
  refine lv_aload_n hx hb dX10_unword_0 rfl (lv_at hl 0 rfl) ?_
  refine va_get (D := D) (ci := 9) (v := .ref a_now) (C := RX10) (T := TX10) (N := 12) hx hb hts u_X10 hown hK hP 0 rfl rfl 2 (by decide) k_f0 (fun _ h9 => h9) rfl dX10_unword_1 ?_
  obtain ⟨z_4, hc_4, h⟩ := bd_e h
  refine q_iV (As := []) (rest := []) (wF := [(a_o, .inr (9, [w_o_text, w_o_speech, .ref a_now, w_o_image0, w_o_image1, w_o_signs, w_o_reader, w_o_lengths, .ref a_refusals, w_o_two, .int o_measured, .long o_traced])), (a_refusals, .inr (3, [w_refusals_tongue, w_refusals_tried, .int refusals_sign, .int refusals_sum, .int refusals_known])), (a_now, .inr (0, [w_now_left, w_now_signs, w_now_wordSets, .int now_sayings, .int now_words, .int now_filled]))]) hF hA hZ hK hP hD hS (c_X0_words l D cI cB cZ a_now w_now_left w_now_signs w_now_wordSets now_sayings now_words now_filled z_4 hc_4) rfl gX10_unword_X0_words hdX0_words ⟨rfl, rfl⟩ (Nat.le_of_ble_eq_true rfl) (Nat.le_of_ble_eq_true rfl) 0 0 rfl rfl [1] [0, 2] rfl rfl rfl rfl (by decide) rfl hl.1 rfl (Nat.le_of_ble_eq_true rfl) (Nat.zero_le _) (Nat.zero_le _) dX10_unword_4 (fun H locs hP hD hS => ?_)
  refine lv_istore_n (lv' := [(1, .int z_4), (0, .ref a_o)]) hx hb dX10_unword_7 rfl hl (by decide) rfl (fun ls hl => ?_)
  refine lv_aload_n hx hb dX10_unword_8 rfl (lv_at hl 1 rfl) ?_
  refine va_get (D := D) (ci := 9) (v := .ref a_now) (C := RX10) (T := TX10) (N := 12) hx hb hts u_X10 hown hK hP 0 rfl rfl 2 (by decide) k_f0 (fun _ h9 => h9) rfl dX10_unword_9 ?_
  obtain ⟨z_12, hc_12, h⟩ := bd_e h
  refine q_vV (As := []) (rest := []) (wF := [(a_o, .inr (9, [w_o_text, w_o_speech, .ref a_now, w_o_image0, w_o_image1, w_o_signs, w_o_reader, w_o_lengths, .ref a_refusals, w_o_two, .int o_measured, .long o_traced])), (a_refusals, .inr (3, [w_refusals_tongue, w_refusals_tried, .int refusals_sign, .int refusals_sum, .int refusals_known])), (a_now, .inr (0, [w_now_left, w_now_signs, w_now_wordSets, .int now_sayings, .int z_12, .int now_filled]))]) hF hA hZ hK hP hD hS (c_X0_dropWords l D cI cB cZ a_now w_now_left w_now_signs w_now_wordSets now_sayings now_words now_filled z_12 hc_12) rfl gX10_unword_X0_dropWords hdX0_dropWords ⟨rfl, rfl⟩ (Nat.le_of_ble_eq_true rfl) (Nat.le_of_ble_eq_true rfl) 0 0 rfl rfl [2] [0, 1] rfl rfl rfl rfl (by decide) rfl hl.1 rfl (Nat.le_of_ble_eq_true rfl) (Nat.zero_le _) (Nat.zero_le _) dX10_unword_12 (fun H locs hP hD hS => ?_)
  refine lv_aload_n hx hb dX10_unword_15 rfl (lv_at hl 1 rfl) ?_
  obtain ⟨z_16, hc_16, h⟩ := bd_e h
  refine q_vV (As := []) (rest := []) (wF := [(a_now, .inr (0, [w_now_left, w_now_signs, w_now_wordSets, .int now_sayings, .int z_12, .int now_filled])), (a_o, .inr (9, [w_o_text, w_o_speech, .ref a_now, w_o_image0, w_o_image1, w_o_signs, w_o_reader, w_o_lengths, .ref a_refusals, w_o_two, .int z_16.1, .long o_traced])), (a_refusals, .inr (3, [w_refusals_tongue, w_refusals_tried, .int refusals_sign, .int refusals_sum, .int z_16.2]))]) hF hA hZ hK hP hD hS (c_X10_signsChanged l D cI cB cZ a_o w_o_text w_o_speech (.ref a_now) w_o_image0 w_o_image1 w_o_signs w_o_reader w_o_lengths w_o_two o_measured o_traced a_refusals w_refusals_tongue w_refusals_tried refusals_sign refusals_sum refusals_known z_16 hc_16) rfl gX10_unword_X10_signsChanged hdX10_signsChanged ⟨rfl, rfl⟩ (Nat.le_of_ble_eq_true rfl) (Nat.le_of_ble_eq_true rfl) 9 0 rfl rfl [0, 1] [2] rfl rfl rfl rfl (by decide) rfl hl.1 rfl (Nat.le_of_ble_eq_true rfl) (Nat.zero_le _) (Nat.zero_le _) dX10_unword_16 (fun H locs hP hD hS => ?_)
  refine lv_iload_n hx hb dX10_unword_19 rfl (lv_at hl 0 rfl) ?_
  have hz := Option.some.inj h
  subst hz
  exact hret H locs 20 ls (fun ty h => by cases h; rfl) (hP.sub [1, 0, 2] rfl) (hD.sub [1, 0, 2] (by decide) rfl) hS dX10_unword_20
abbrev rmX8_isWorld : Room := { frames := 0, cells := 0, slots := 0, locals := 0 }
theorem hdX8_isWorld : yX8_isWorld.cls = RX8 ∧ yX8_isWorld.cls ≠ "java/lang/invoke/MethodHandle" ∧ yX8_isWorld.cls ≠ "java/lang/invoke/VarHandle" ∧ (parseMethodDescriptor yX8_isWorld.desc).map (fun d => d.parameters.length) = some 1 := by decide +kernel
set_option maxRecDepth 100000 in
set_option maxHeartbeats 4000000 in
theorem c_X8_isWorld (l : Launch) (D : va_G) (cI cB cZ : ClassId) (a_o : Nat) (w_o_values : Value) (w_o_left : Value) (o_choices : Int32) (o_worlds : Int32) (p1 : Int32) (z : Int32) (h : P_X8_isWorld p1 o_worlds = some z) : KI l yX8_isWorld wsX8_isWorld rmX8_isWorld D [(cI, .int), (cB, .byte), (cZ, .boolean)] [.ref a_o, .int p1] [(a_o, .inr (7, [w_o_values, w_o_left, .int o_choices, .int o_worlds]))] [(a_o, .inr (7, [w_o_values, w_o_left, .int o_choices, .int o_worlds]))] z := by
  refine KI_of (own := RX8) (cc := cX8_isWorld) (maxL := 2) (ret := some .boolean) (by decide) rfl rfl (Nat.le_of_ble_eq_true rfl) (Or.inr rfl) ?_
  intro p e s m args below meth c A Q hx hb hml hown hts hA hZ hK hret H locs ls hP hD hS hl
  have hl : lv_has ls 2 [(0, .ref a_o), (1, .int p1)] := hl
  have hF : CallFix p m c cX8_isWorld 2 s args wsX8_isWorld RX8 := ⟨hx, hb, hml, hown, hts⟩
  have u_X8 : ∀ w ∈ u_ws RX8 TX8 4, w ∈ wsX8_isWorld := by decide +kernel
  have k_f0 := hts (.fieldLink RX8 20 "NoWordNo$Tongue" "worlds" "I") (by decide +kernel)
  unfold P_X8_isWorld at h
  refine lv_iload_n hx hb dX8_isWorld_0 rfl (lv_at hl 1 rfl) ?_
  refine lv_if_lt (tgt := 16) hx hb dX8_isWorld_1 (by decide) (fun c_1 => ?_) (fun c_1 => ?_)
  · replace h := it_e c_1 h
    refine lv_iconst (v := 0) hx hb dX8_isWorld_16 ic_0 ?_
    have hz := Option.some.inj h
    subst hz
    exact hret H locs 17 ls (fun ty h => by cases h; exact nar_0) hP hD hS dX8_isWorld_17
  · replace h := if_e c_1 h
    refine lv_iload_n hx hb dX8_isWorld_4 rfl (lv_at hl 1 rfl) ?_
    refine lv_aload_n hx hb dX8_isWorld_5 rfl (lv_at hl 0 rfl) ?_
    refine va_get (D := D) (ci := 7) (v := .int o_worlds) (C := RX8) (T := TX8) (N := 4) hx hb hts u_X8 hown hK hP 0 rfl rfl 3 (by decide) k_f0 (fun _ h9 => h9) rfl dX8_isWorld_6 ?_
    refine lv_icmp_ge (tgt := 16) hx hb dX8_isWorld_9 (by decide) (fun c_9 => ?_) (fun c_9 => ?_)
    · replace h := it_e c_9 h
      refine lv_iconst (v := 0) hx hb dX8_isWorld_16 ic_0 ?_
      have hz := Option.some.inj h
      subst hz
      exact hret H locs 17 ls (fun ty h => by cases h; exact nar_0) hP hD hS dX8_isWorld_17
    · replace h := if_e c_9 h
      refine lv_iconst (v := 1) hx hb dX8_isWorld_12 ic_1 ?_
      refine lv_goto (tgt := 17) hx hb dX8_isWorld_13 (by decide) ?_
      have hz := Option.some.inj h
      subst hz
      exact hret H locs 17 ls (fun ty h => by cases h; exact nar_1) hP hD hS dX8_isWorld_17
abbrev rmX8_fixedIn : Room := { frames := 2, cells := 0, slots := 0, locals := 43 }
theorem hdX8_fixedIn : yX8_fixedIn.cls = RX8 ∧ yX8_fixedIn.cls ≠ "java/lang/invoke/MethodHandle" ∧ yX8_fixedIn.cls ≠ "java/lang/invoke/VarHandle" ∧ (parseMethodDescriptor yX8_fixedIn.desc).map (fun d => d.parameters.length) = some 2 := by decide +kernel
set_option maxRecDepth 100000 in
set_option maxHeartbeats 4000000 in
theorem c_X8_fixedIn (l : Launch) (D : va_G) (cI cB cZ : ClassId) (a_o : Nat) (o_choices : Int32) (o_worlds : Int32) (a_values : Nat) (f_values : Nat → Int32) (a_left : Nat) (f_left : Nat → Int32) (p1 : Int32) (p2 : Int32) (z : Int32) (h : P_X8_fixedIn p1 p2 o_choices f_values f_left = some z) : KI l yX8_fixedIn wsX8_fixedIn rmX8_fixedIn D [(cI, .int), (cB, .byte), (cZ, .boolean)] [.ref a_o, .int p1, .int p2] [(a_o, .inr (7, [.ref a_values, .ref a_left, .int o_choices, .int o_worlds])), (a_values, .inl (cI, 3, .inl f_values)), (a_left, .inl (cI, 30, .inl f_left))] [(a_o, .inr (7, [.ref a_values, .ref a_left, .int o_choices, .int o_worlds])), (a_values, .inl (cI, 3, .inl f_values)), (a_left, .inl (cI, 30, .inl f_left))] z := by
  refine KI_of (own := RX8) (cc := cX8_fixedIn) (maxL := 4) (ret := some .int) (by decide) rfl rfl (Nat.le_of_ble_eq_true rfl) (Or.inl rfl) ?_
  intro p e s m args below meth c A Q hx hb hml hown hts hA hZ hK hret H locs ls hP hD hS hl
  have hl : lv_has ls 4 [(0, .ref a_o), (1, .int p1), (2, .int p2)] := hl
  have hF : CallFix p m c cX8_fixedIn 4 s args wsX8_fixedIn RX8 := ⟨hx, hb, hml, hown, hts⟩
  unfold P_X8_fixedIn at h
  refine lv_iconst (v := 0) hx hb dX8_fixedIn_0 ic_0 ?_
  refine lv_istore_n (lv' := [(3, .int 0), (0, .ref a_o), (1, .int p1), (2, .int p2)]) hx hb dX8_fixedIn_1 rfl hl (by decide) rfl (fun ls hl => ?_)
  have L2 : ∀ (n : Nat), ∀ (x2_l3 : Int32) (H : Heap) (locs : List Loc) (ls : Array Slot), P_X8_fixedIn_2 p1 p2 o_choices f_values f_left n x2_l3 = some z → va_P D vwCl [(a_o, .inr (7, [.ref a_values, .ref a_left, .int o_choices, .int o_worlds])), (a_values, .inl (cI, 3, .inl f_values)), (a_left, .inl (cI, 30, .inl f_left))] H → va_D A [(a_o, .inr (7, [.ref a_values, .ref a_left, .int o_choices, .int o_worlds])), (a_values, .inl (cI, 3, .inl f_values)), (a_left, .inl (cI, 30, .inl f_left))] → va_S A s.heap H locs → lv_has ls 4 [(0, .ref a_o), (1, .int p1), (2, .int p2), (3, .int x2_l3)] → W p l e rmX8_fixedIn s m args below meth c H locs 0 0 Q (F0 m 2 ls []) := by
    intro n
    induction n with
    | zero =>
      intro x2_l3 H locs ls h
      exact no_e h
    | succ n ih2 =>
      intro x2_l3 H locs ls h hP hD hS hl
      rw [P_X8_fixedIn_2] at h
      refine lv_iload_n hx hb dX8_fixedIn_2 rfl (lv_at hl 3 rfl) ?_
      refine lv_aload_n hx hb dX8_fixedIn_3 rfl (lv_at hl 0 rfl) ?_
      refine lv_iload_n hx hb dX8_fixedIn_4 rfl (lv_at hl 2 rfl) ?_
      obtain ⟨z_5, hc_5, h⟩ := bd_e h
      refine q_iV (As := [.int p2]) (rest := [.int x2_l3]) (wF := [(a_left, .inl (cI, 30, .inl f_left)), (a_o, .inr (7, [.ref a_values, .ref a_left, .int o_choices, .int o_worlds])), (a_values, .inl (cI, 3, .inl f_values))]) hF hA hZ hK hP hD hS (c_X8_valuesOf l D cI cB cZ a_o (.ref a_left) o_choices o_worlds a_values f_values p2 z_5 hc_5) rfl gX8_fixedIn_X8_valuesOf hdX8_valuesOf ⟨rfl, rfl⟩ (Nat.le_of_ble_eq_true rfl) (Nat.le_of_ble_eq_true rfl) 7 0 rfl rfl [0, 1] [2] rfl rfl rfl rfl (by decide) rfl hl.1 rfl (Nat.le_of_ble_eq_true rfl) (Nat.zero_le _) (Nat.zero_le _) dX8_fixedIn_5 (fun H locs hP hD hS => ?_)
      refine lv_icmp_ge (tgt := 32) hx hb dX8_fixedIn_8 (by decide) (fun c_8 => ?_) (fun c_8 => ?_)
      · replace h := it_e c_8 h
        refine lv_iconst (v := (-1)) hx hb dX8_fixedIn_32 ic_m1 ?_
        have hz := Option.some.inj h
        subst hz
        exact hret H locs 33 ls (fun ty h => by cases h; rfl) (hP.sub [1, 2, 0] rfl) (hD.sub [1, 2, 0] (by decide) rfl) hS dX8_fixedIn_33
      · replace h := if_e c_8 h
        refine lv_iload_n hx hb dX8_fixedIn_11 rfl (lv_at hl 1 rfl) ?_
        refine lv_aload_n hx hb dX8_fixedIn_12 rfl (lv_at hl 0 rfl) ?_
        refine lv_iload_n hx hb dX8_fixedIn_13 rfl (lv_at hl 2 rfl) ?_
        refine lv_iload_n hx hb dX8_fixedIn_14 rfl (lv_at hl 3 rfl) ?_
        obtain ⟨z_15, hc_15, h⟩ := bd_e h
        refine q_iV (As := [.int p2, .int x2_l3]) (rest := [.int p1]) (wF := [(a_values, .inl (cI, 3, .inl f_values)), (a_o, .inr (7, [.ref a_values, .ref a_left, .int o_choices, .int o_worlds])), (a_left, .inl (cI, 30, .inl f_left))]) hF hA hZ hK hP hD hS (c_X8_leftBy l D cI cB cZ a_o (.ref a_values) o_choices o_worlds a_left f_left p2 x2_l3 z_15 hc_15) rfl gX8_fixedIn_X8_leftBy hdX8_leftBy ⟨rfl, rfl⟩ (Nat.le_of_ble_eq_true rfl) (Nat.le_of_ble_eq_true rfl) 7 0 rfl rfl [1, 0] [2] rfl rfl rfl rfl (by decide) rfl hl.1 rfl (Nat.le_of_ble_eq_true rfl) (Nat.zero_le _) (Nat.zero_le _) dX8_fixedIn_15 (fun H locs hP hD hS => ?_)
        refine lv_iconst (v := (-1)) hx hb dX8_fixedIn_18 ic_m1 ?_
        refine lv_ixor hx hb dX8_fixedIn_19 ?_
        refine lv_iand hx hb dX8_fixedIn_20 ?_
        refine lv_if_ne (tgt := 26) hx hb dX8_fixedIn_21 (by decide) (fun c_21 => ?_) (fun c_21 => ?_)
        · replace h := if_e c_21 h
          refine lv_iinc (v := x2_l3 + 1) (lv' := [(3, .int (x2_l3 + 1)), (0, .ref a_o), (1, .int p1), (2, .int p2)]) hx hb dX8_fixedIn_26 hl (k := 3) rfl (congrArg (x2_l3 + ·) ic_1) (by decide) rfl (fun ls hl => ?_)
          refine lv_goto (tgt := 2) hx hb dX8_fixedIn_29 (by decide) ?_
          exact ih2 (x2_l3 + 1) H locs ls h (hP.sub [1, 0, 2] rfl) (hD.sub [1, 0, 2] (by decide) rfl) hS (lv_sub hl [1, 2, 3, 0] rfl)
        · replace h := it_e c_21 h
          refine lv_iload_n hx hb dX8_fixedIn_24 rfl (lv_at hl 3 rfl) ?_
          have hz := Option.some.inj h
          subst hz
          exact hret H locs 25 ls (fun ty h => by cases h; rfl) (hP.sub [1, 0, 2] rfl) (hD.sub [1, 0, 2] (by decide) rfl) hS dX8_fixedIn_25
  exact L2 QF 0 H locs ls h hP hD hS (lv_sub hl [1, 2, 3, 0] rfl)
abbrev rmX8_valueIn : Room := { frames := 3, cells := 0, slots := 0, locals := 66 }
theorem hdX8_valueIn : yX8_valueIn.cls = RX8 ∧ yX8_valueIn.cls ≠ "java/lang/invoke/MethodHandle" ∧ yX8_valueIn.cls ≠ "java/lang/invoke/VarHandle" ∧ (parseMethodDescriptor yX8_valueIn.desc).map (fun d => d.parameters.length) = some 2 := by decide +kernel
set_option maxRecDepth 100000 in
set_option maxHeartbeats 4000000 in
theorem c_X8_valueIn (l : Launch) (D : va_G) (cI cB cZ : ClassId) (a_o : Nat) (o_choices : Int32) (o_worlds : Int32) (a_values : Nat) (f_values : Nat → Int32) (a_left : Nat) (f_left : Nat → Int32) (p1 : Int32) (p2 : Int32) (z : Int32) (h : P_X8_valueIn p1 p2 o_choices f_values f_left = some z) : KI l yX8_valueIn wsX8_valueIn rmX8_valueIn D [(cI, .int), (cB, .byte), (cZ, .boolean)] [.ref a_o, .int p1, .int p2] [(a_o, .inr (7, [.ref a_values, .ref a_left, .int o_choices, .int o_worlds])), (a_values, .inl (cI, 3, .inl f_values)), (a_left, .inl (cI, 30, .inl f_left))] [(a_o, .inr (7, [.ref a_values, .ref a_left, .int o_choices, .int o_worlds])), (a_values, .inl (cI, 3, .inl f_values)), (a_left, .inl (cI, 30, .inl f_left))] z := by
  refine KI_of (own := RX8) (cc := cX8_valueIn) (maxL := 3) (ret := some .int) (by decide) rfl rfl (Nat.le_of_ble_eq_true rfl) (Or.inl rfl) ?_
  intro p e s m args below meth c A Q hx hb hml hown hts hA hZ hK hret H locs ls hP hD hS hl
  have hl : lv_has ls 3 [(0, .ref a_o), (1, .int p1), (2, .int p2)] := hl
  have hF : CallFix p m c cX8_valueIn 3 s args wsX8_valueIn RX8 := ⟨hx, hb, hml, hown, hts⟩
  unfold P_X8_valueIn at h
  refine lv_aload_n hx hb dX8_valueIn_0 rfl (lv_at hl 0 rfl) ?_
  refine lv_iconst (v := 1) hx hb dX8_valueIn_1 ic_1 ?_
  refine lv_iload_n hx hb dX8_valueIn_2 rfl (lv_at hl 1 rfl) ?_
  refine lv_ishl hx hb dX8_valueIn_3 ?_
  refine lv_iload_n hx hb dX8_valueIn_4 rfl (lv_at hl 2 rfl) ?_
  obtain ⟨z_5, hc_5, h⟩ := bd_e h
  refine q_iV (As := [.int (1 <<< (p1 &&& 31)), .int p2]) (rest := []) (wF := [(a_o, .inr (7, [.ref a_values, .ref a_left, .int o_choices, .int o_worlds])), (a_values, .inl (cI, 3, .inl f_values)), (a_left, .inl (cI, 30, .inl f_left))]) hF hA hZ hK hP hD hS (c_X8_fixedIn l D cI cB cZ a_o o_choices o_worlds a_values f_values a_left f_left (1 <<< (p1 &&& 31)) p2 z_5 hc_5) rfl gX8_valueIn_X8_fixedIn hdX8_fixedIn ⟨rfl, rfl⟩ (Nat.le_of_ble_eq_true rfl) (Nat.le_of_ble_eq_true rfl) 7 0 rfl rfl [0, 1, 2] [] rfl rfl rfl rfl (by decide) rfl hl.1 rfl (Nat.le_of_ble_eq_true rfl) (Nat.zero_le _) (Nat.zero_le _) dX8_valueIn_5 (fun H locs hP hD hS => ?_)
  have hz := Option.some.inj h
  subst hz
  exact hret H locs 8 ls (fun ty h => by cases h; rfl) hP hD hS dX8_valueIn_8
abbrev rmX10_value : Room := { frames := 4, cells := 0, slots := 0, locals := 88 }
theorem hdX10_value : yX10_value.cls = RX10 ∧ yX10_value.cls ≠ "java/lang/invoke/MethodHandle" ∧ yX10_value.cls ≠ "java/lang/invoke/VarHandle" ∧ (parseMethodDescriptor yX10_value.desc).map (fun d => d.parameters.length) = some 2 := by decide +kernel
set_option maxRecDepth 100000 in
set_option maxHeartbeats 4000000 in
theorem c_X10_value (l : Launch) (D : va_G) (cI cB cZ : ClassId) (a_o : Nat) (w_o_text : Value) (w_o_now : Value) (w_o_image0 : Value) (w_o_image1 : Value) (w_o_signs : Value) (w_o_reader : Value) (w_o_lengths : Value) (w_o_refusals : Value) (w_o_two : Value) (o_measured : Int32) (o_traced : Int64) (a_speech : Nat) (speech_choices : Int32) (speech_worlds : Int32) (a_speech_values : Nat) (f_speech_values : Nat → Int32) (a_speech_left : Nat) (f_speech_left : Nat → Int32) (p1 : Int32) (p2 : Int32) (z : Int32) (h : P_X10_value p1 p2 speech_choices speech_worlds f_speech_values f_speech_left = some z) : KI l yX10_value wsX10_value rmX10_value D [(cI, .int), (cB, .byte), (cZ, .boolean)] [.ref a_o, .int p1, .int p2] [(a_o, .inr (9, [w_o_text, .ref a_speech, w_o_now, w_o_image0, w_o_image1, w_o_signs, w_o_reader, w_o_lengths, w_o_refusals, w_o_two, .int o_measured, .long o_traced])), (a_speech, .inr (7, [.ref a_speech_values, .ref a_speech_left, .int speech_choices, .int speech_worlds])), (a_speech_values, .inl (cI, 3, .inl f_speech_values)), (a_speech_left, .inl (cI, 30, .inl f_speech_left))] [(a_o, .inr (9, [w_o_text, .ref a_speech, w_o_now, w_o_image0, w_o_image1, w_o_signs, w_o_reader, w_o_lengths, w_o_refusals, w_o_two, .int o_measured, .long o_traced])), (a_speech, .inr (7, [.ref a_speech_values, .ref a_speech_left, .int speech_choices, .int speech_worlds])), (a_speech_values, .inl (cI, 3, .inl f_speech_values)), (a_speech_left, .inl (cI, 30, .inl f_speech_left))] z := by
  refine KI_of (own := RX10) (cc := cX10_value) (maxL := 3) (ret := some .int) (by decide) rfl rfl (Nat.le_of_ble_eq_true rfl) (Or.inl rfl) ?_
  intro p e s m args below meth c A Q hx hb hml hown hts hA hZ hK hret H locs ls hP hD hS hl
  have hl : lv_has ls 3 [(0, .ref a_o), (1, .int p1), (2, .int p2)] := hl
  have hF : CallFix p m c cX10_value 3 s args wsX10_value RX10 := ⟨hx, hb, hml, hown, hts⟩
  have u_X10 : ∀ w ∈ u_ws RX10 TX10 12, w ∈ wsX10_value := by decide +kernel
  have k_f0 := hts (.fieldLink RX10 19 "NoWordNo" "speech" "LNoWordNo$Tongue;") (by decide +kernel)
  unfold P_X10_value at h
  refine lv_aload_n hx hb dX10_value_0 rfl (lv_at hl 0 rfl) ?_
  refine va_get (D := D) (ci := 9) (v := .ref a_speech) (C := RX10) (T := TX10) (N := 12) hx hb hts u_X10 hown hK hP 0 rfl rfl 1 (by decide) k_f0 (fun _ h9 => h9) rfl dX10_value_1 ?_
  refine lv_iload_n hx hb dX10_value_4 rfl (lv_at hl 1 rfl) ?_
  obtain ⟨z_5, hc_5, h⟩ := bd_e h
  refine q_iV (As := [.int p1]) (rest := []) (wF := [(a_o, .inr (9, [w_o_text, .ref a_speech, w_o_now, w_o_image0, w_o_image1, w_o_signs, w_o_reader, w_o_lengths, w_o_refusals, w_o_two, .int o_measured, .long o_traced])), (a_speech_values, .inl (cI, 3, .inl f_speech_values)), (a_speech_left, .inl (cI, 30, .inl f_speech_left)), (a_speech, .inr (7, [.ref a_speech_values, .ref a_speech_left, .int speech_choices, .int speech_worlds]))]) hF hA hZ hK hP hD hS (c_X8_isWorld l D cI cB cZ a_speech (.ref a_speech_values) (.ref a_speech_left) speech_choices speech_worlds p1 z_5 hc_5) rfl gX10_value_X8_isWorld hdX8_isWorld ⟨rfl, rfl⟩ (Nat.le_of_ble_eq_true rfl) (Nat.le_of_ble_eq_true rfl) 7 0 rfl rfl [1] [0, 2, 3] rfl rfl rfl rfl (by decide) rfl hl.1 rfl (Nat.le_of_ble_eq_true rfl) (Nat.zero_le _) (Nat.zero_le _) dX10_value_5 (fun H locs hP hD hS => ?_)
  refine lv_if_eq (tgt := 22) hx hb dX10_value_8 (by decide) (fun c_8 => ?_) (fun c_8 => ?_)
  · replace h := it_e c_8 h
    refine lv_iconst (v := (-1)) hx hb dX10_value_22 ic_m1 ?_
    have hz := Option.some.inj h
    subst hz
    exact hret H locs 23 ls (fun ty h => by cases h; rfl) (hP.sub [0, 3, 1, 2] rfl) (hD.sub [0, 3, 1, 2] (by decide) rfl) hS dX10_value_23
  · replace h := if_e c_8 h
    refine lv_aload_n hx hb dX10_value_11 rfl (lv_at hl 0 rfl) ?_
    refine va_get (D := D) (ci := 9) (v := .ref a_speech) (C := RX10) (T := TX10) (N := 12) hx hb hts u_X10 hown hK hP 0 rfl rfl 1 (by decide) k_f0 (fun _ h9 => h9) rfl dX10_value_12 ?_
    refine lv_iload_n hx hb dX10_value_15 rfl (lv_at hl 2 rfl) ?_
    obtain ⟨z_16, hc_16, h⟩ := bd_e h
    refine q_iV (As := [.int p2]) (rest := []) (wF := [(a_o, .inr (9, [w_o_text, .ref a_speech, w_o_now, w_o_image0, w_o_image1, w_o_signs, w_o_reader, w_o_lengths, w_o_refusals, w_o_two, .int o_measured, .long o_traced])), (a_speech_values, .inl (cI, 3, .inl f_speech_values)), (a_speech_left, .inl (cI, 30, .inl f_speech_left)), (a_speech, .inr (7, [.ref a_speech_values, .ref a_speech_left, .int speech_choices, .int speech_worlds]))]) hF hA hZ hK hP hD hS (c_X8_isChoice l D cI cB cZ a_speech (.ref a_speech_values) (.ref a_speech_left) speech_choices speech_worlds p2 z_16 hc_16) rfl gX10_value_X8_isChoice hdX8_isChoice ⟨rfl, rfl⟩ (Nat.le_of_ble_eq_true rfl) (Nat.le_of_ble_eq_true rfl) 7 0 rfl rfl [3] [0, 1, 2] rfl rfl rfl rfl (by decide) rfl hl.1 rfl (Nat.le_of_ble_eq_true rfl) (Nat.zero_le _) (Nat.zero_le _) dX10_value_16 (fun H locs hP hD hS => ?_)
    refine lv_if_ne (tgt := 24) hx hb dX10_value_19 (by decide) (fun c_19 => ?_) (fun c_19 => ?_)
    · replace h := if_e c_19 h
      refine lv_aload_n hx hb dX10_value_24 rfl (lv_at hl 0 rfl) ?_
      refine va_get (D := D) (ci := 9) (v := .ref a_speech) (C := RX10) (T := TX10) (N := 12) hx hb hts u_X10 hown hK hP 0 rfl rfl 1 (by decide) k_f0 (fun _ h9 => h9) rfl dX10_value_25 ?_
      refine lv_iload_n hx hb dX10_value_28 rfl (lv_at hl 1 rfl) ?_
      refine lv_iload_n hx hb dX10_value_29 rfl (lv_at hl 2 rfl) ?_
      obtain ⟨z_30, hc_30, h⟩ := bd_e h
      refine q_iV (As := [.int p1, .int p2]) (rest := []) (wF := [(a_o, .inr (9, [w_o_text, .ref a_speech, w_o_now, w_o_image0, w_o_image1, w_o_signs, w_o_reader, w_o_lengths, w_o_refusals, w_o_two, .int o_measured, .long o_traced])), (a_speech, .inr (7, [.ref a_speech_values, .ref a_speech_left, .int speech_choices, .int speech_worlds])), (a_speech_values, .inl (cI, 3, .inl f_speech_values)), (a_speech_left, .inl (cI, 30, .inl f_speech_left))]) hF hA hZ hK hP hD hS (c_X8_valueIn l D cI cB cZ a_speech speech_choices speech_worlds a_speech_values f_speech_values a_speech_left f_speech_left p1 p2 z_30 hc_30) rfl gX10_value_X8_valueIn hdX8_valueIn ⟨rfl, rfl⟩ (Nat.le_of_ble_eq_true rfl) (Nat.le_of_ble_eq_true rfl) 7 0 rfl rfl [3, 1, 2] [0] rfl rfl rfl rfl (by decide) rfl hl.1 rfl (Nat.le_of_ble_eq_true rfl) (Nat.zero_le _) (Nat.zero_le _) dX10_value_30 (fun H locs hP hD hS => ?_)
      have hz := Option.some.inj h
      subst hz
      exact hret H locs 33 ls (fun ty h => by cases h; rfl) hP hD hS dX10_value_33
    · replace h := it_e c_19 h
      refine lv_iconst (v := (-1)) hx hb dX10_value_22 ic_m1 ?_
      have hz := Option.some.inj h
      subst hz
      exact hret H locs 23 ls (fun ty h => by cases h; rfl) (hP.sub [0, 3, 1, 2] rfl) (hD.sub [0, 3, 1, 2] (by decide) rfl) hS dX10_value_23
abbrev rmX0_isSaying : Room := { frames := 0, cells := 0, slots := 0, locals := 0 }
theorem hdX0_isSaying : yX0_isSaying.cls = RX0 ∧ yX0_isSaying.cls ≠ "java/lang/invoke/MethodHandle" ∧ yX0_isSaying.cls ≠ "java/lang/invoke/VarHandle" ∧ (parseMethodDescriptor yX0_isSaying.desc).map (fun d => d.parameters.length) = some 1 := by decide +kernel
set_option maxRecDepth 100000 in
set_option maxHeartbeats 4000000 in
theorem c_X0_isSaying (l : Launch) (D : va_G) (cI cB cZ : ClassId) (a_o : Nat) (w_o_left : Value) (w_o_signs : Value) (w_o_wordSets : Value) (o_sayings : Int32) (o_words : Int32) (o_filled : Int32) (p1 : Int32) (z : Int32) (h : P_X0_isSaying p1 o_sayings = some z) : KI l yX0_isSaying wsX0_isSaying rmX0_isSaying D [(cI, .int), (cB, .byte), (cZ, .boolean)] [.ref a_o, .int p1] [(a_o, .inr (0, [w_o_left, w_o_signs, w_o_wordSets, .int o_sayings, .int o_words, .int o_filled]))] [(a_o, .inr (0, [w_o_left, w_o_signs, w_o_wordSets, .int o_sayings, .int o_words, .int o_filled]))] z := by
  refine KI_of (own := RX0) (cc := cX0_isSaying) (maxL := 2) (ret := some .boolean) (by decide) rfl rfl (Nat.le_of_ble_eq_true rfl) (Or.inr rfl) ?_
  intro p e s m args below meth c A Q hx hb hml hown hts hA hZ hK hret H locs ls hP hD hS hl
  have hl : lv_has ls 2 [(0, .ref a_o), (1, .int p1)] := hl
  have hF : CallFix p m c cX0_isSaying 2 s args wsX0_isSaying RX0 := ⟨hx, hb, hml, hown, hts⟩
  have u_X0 : ∀ w ∈ u_ws RX0 TX0 6, w ∈ wsX0_isSaying := by decide +kernel
  have k_f0 := hts (.fieldLink RX0 19 "NoWordNo$Kept" "sayings" "I") (by decide +kernel)
  unfold P_X0_isSaying at h
  refine lv_iload_n hx hb dX0_isSaying_0 rfl (lv_at hl 1 rfl) ?_
  refine lv_if_lt (tgt := 16) hx hb dX0_isSaying_1 (by decide) (fun c_1 => ?_) (fun c_1 => ?_)
  · replace h := it_e c_1 h
    refine lv_iconst (v := 0) hx hb dX0_isSaying_16 ic_0 ?_
    have hz := Option.some.inj h
    subst hz
    exact hret H locs 17 ls (fun ty h => by cases h; exact nar_0) hP hD hS dX0_isSaying_17
  · replace h := if_e c_1 h
    refine lv_iload_n hx hb dX0_isSaying_4 rfl (lv_at hl 1 rfl) ?_
    refine lv_aload_n hx hb dX0_isSaying_5 rfl (lv_at hl 0 rfl) ?_
    refine va_get (D := D) (ci := 0) (v := .int o_sayings) (C := RX0) (T := TX0) (N := 6) hx hb hts u_X0 hown hK hP 0 rfl rfl 3 (by decide) k_f0 (fun _ h9 => h9) rfl dX0_isSaying_6 ?_
    refine lv_icmp_ge (tgt := 16) hx hb dX0_isSaying_9 (by decide) (fun c_9 => ?_) (fun c_9 => ?_)
    · replace h := it_e c_9 h
      refine lv_iconst (v := 0) hx hb dX0_isSaying_16 ic_0 ?_
      have hz := Option.some.inj h
      subst hz
      exact hret H locs 17 ls (fun ty h => by cases h; exact nar_0) hP hD hS dX0_isSaying_17
    · replace h := if_e c_9 h
      refine lv_iconst (v := 1) hx hb dX0_isSaying_12 ic_1 ?_
      refine lv_goto (tgt := 17) hx hb dX0_isSaying_13 (by decide) ?_
      have hz := Option.some.inj h
      subst hz
      exact hret H locs 17 ls (fun ty h => by cases h; exact nar_1) hP hD hS dX0_isSaying_17
abbrev rmX0_leftBy : Room := { frames := 1, cells := 0, slots := 0, locals := 21 }
theorem hdX0_leftBy : yX0_leftBy.cls = RX0 ∧ yX0_leftBy.cls ≠ "java/lang/invoke/MethodHandle" ∧ yX0_leftBy.cls ≠ "java/lang/invoke/VarHandle" ∧ (parseMethodDescriptor yX0_leftBy.desc).map (fun d => d.parameters.length) = some 1 := by decide +kernel
set_option maxRecDepth 100000 in
set_option maxHeartbeats 4000000 in
theorem c_X0_leftBy (l : Launch) (D : va_G) (cI cB cZ : ClassId) (a_o : Nat) (w_o_signs : Value) (w_o_wordSets : Value) (o_sayings : Int32) (o_words : Int32) (o_filled : Int32) (a_left : Nat) (f_left : Nat → Int32) (p1 : Int32) (z : Int32) (h : P_X0_leftBy p1 f_left = some z) : KI l yX0_leftBy wsX0_leftBy rmX0_leftBy D [(cI, .int), (cB, .byte), (cZ, .boolean)] [.ref a_o, .int p1] [(a_o, .inr (0, [.ref a_left, w_o_signs, w_o_wordSets, .int o_sayings, .int o_words, .int o_filled])), (a_left, .inl (cI, 8, .inl f_left))] [(a_o, .inr (0, [.ref a_left, w_o_signs, w_o_wordSets, .int o_sayings, .int o_words, .int o_filled])), (a_left, .inl (cI, 8, .inl f_left))] z := by
  refine KI_of (own := RX0) (cc := cX0_leftBy) (maxL := 2) (ret := some .int) (by decide) rfl rfl (Nat.le_of_ble_eq_true rfl) (Or.inl rfl) ?_
  intro p e s m args below meth c A Q hx hb hml hown hts hA hZ hK hret H locs ls hP hD hS hl
  have hl : lv_has ls 2 [(0, .ref a_o), (1, .int p1)] := hl
  have hF : CallFix p m c cX0_leftBy 2 s args wsX0_leftBy RX0 := ⟨hx, hb, hml, hown, hts⟩
  have u_X0 : ∀ w ∈ u_ws RX0 TX0 6, w ∈ wsX0_leftBy := by decide +kernel
  have k_f0 := hts (.fieldLink RX0 9 "NoWordNo$Kept" "left" "[I") (by decide +kernel)
  unfold P_X0_leftBy at h
  refine lv_aload_n hx hb dX0_leftBy_0 rfl (lv_at hl 0 rfl) ?_
  refine va_get (D := D) (ci := 0) (v := .ref a_left) (C := RX0) (T := TX0) (N := 6) hx hb hts u_X0 hown hK hP 0 rfl rfl 0 (by decide) k_f0 (fun _ h9 => h9) rfl dX0_leftBy_1 ?_
  refine lv_iload_n hx hb dX0_leftBy_4 rfl (lv_at hl 1 rfl) ?_
  obtain ⟨z_5, hc_5, h⟩ := bd_e h
  refine q_iS (As := [.ref a_left, .int p1]) (rest := []) (wF := [(a_o, .inr (0, [.ref a_left, w_o_signs, w_o_wordSets, .int o_sayings, .int o_words, .int o_filled])), (a_left, .inl (cI, 8, .inl f_left))]) hF hA hZ hK hP hD hS (c_X4_at l D cI cB cZ a_left 8 f_left p1 z_5 hc_5) rfl gX0_leftBy_X4_at hdX4_at ⟨rfl, rfl⟩ (Nat.le_of_ble_eq_true rfl) (Nat.le_of_ble_eq_true rfl) [1] [0] rfl rfl rfl rfl (by decide) rfl hl.1 rfl (Nat.le_of_ble_eq_true rfl) (Nat.zero_le _) (Nat.zero_le _) dX0_leftBy_5 (fun H locs hP hD hS => ?_)
  have hz := Option.some.inj h
  subst hz
  exact hret H locs 8 ls (fun ty h => by cases h; rfl) hP hD hS dX0_leftBy_8
abbrev rmX0_signsOf : Room := { frames := 1, cells := 0, slots := 0, locals := 21 }
theorem hdX0_signsOf : yX0_signsOf.cls = RX0 ∧ yX0_signsOf.cls ≠ "java/lang/invoke/MethodHandle" ∧ yX0_signsOf.cls ≠ "java/lang/invoke/VarHandle" ∧ (parseMethodDescriptor yX0_signsOf.desc).map (fun d => d.parameters.length) = some 1 := by decide +kernel
set_option maxRecDepth 100000 in
set_option maxHeartbeats 4000000 in
theorem c_X0_signsOf (l : Launch) (D : va_G) (cI cB cZ : ClassId) (a_o : Nat) (w_o_left : Value) (w_o_wordSets : Value) (o_sayings : Int32) (o_words : Int32) (o_filled : Int32) (a_signs : Nat) (f_signs : Nat → Int32) (p1 : Int32) (z : Int32) (h : P_X0_signsOf p1 f_signs = some z) : KI l yX0_signsOf wsX0_signsOf rmX0_signsOf D [(cI, .int), (cB, .byte), (cZ, .boolean)] [.ref a_o, .int p1] [(a_o, .inr (0, [w_o_left, .ref a_signs, w_o_wordSets, .int o_sayings, .int o_words, .int o_filled])), (a_signs, .inl (cI, 8, .inl f_signs))] [(a_o, .inr (0, [w_o_left, .ref a_signs, w_o_wordSets, .int o_sayings, .int o_words, .int o_filled])), (a_signs, .inl (cI, 8, .inl f_signs))] z := by
  refine KI_of (own := RX0) (cc := cX0_signsOf) (maxL := 2) (ret := some .int) (by decide) rfl rfl (Nat.le_of_ble_eq_true rfl) (Or.inl rfl) ?_
  intro p e s m args below meth c A Q hx hb hml hown hts hA hZ hK hret H locs ls hP hD hS hl
  have hl : lv_has ls 2 [(0, .ref a_o), (1, .int p1)] := hl
  have hF : CallFix p m c cX0_signsOf 2 s args wsX0_signsOf RX0 := ⟨hx, hb, hml, hown, hts⟩
  have u_X0 : ∀ w ∈ u_ws RX0 TX0 6, w ∈ wsX0_signsOf := by decide +kernel
  have k_f0 := hts (.fieldLink RX0 13 "NoWordNo$Kept" "signs" "[I") (by decide +kernel)
  unfold P_X0_signsOf at h
  refine lv_aload_n hx hb dX0_signsOf_0 rfl (lv_at hl 0 rfl) ?_
  refine va_get (D := D) (ci := 0) (v := .ref a_signs) (C := RX0) (T := TX0) (N := 6) hx hb hts u_X0 hown hK hP 0 rfl rfl 1 (by decide) k_f0 (fun _ h9 => h9) rfl dX0_signsOf_1 ?_
  refine lv_iload_n hx hb dX0_signsOf_4 rfl (lv_at hl 1 rfl) ?_
  obtain ⟨z_5, hc_5, h⟩ := bd_e h
  refine q_iS (As := [.ref a_signs, .int p1]) (rest := []) (wF := [(a_o, .inr (0, [w_o_left, .ref a_signs, w_o_wordSets, .int o_sayings, .int o_words, .int o_filled])), (a_signs, .inl (cI, 8, .inl f_signs))]) hF hA hZ hK hP hD hS (c_X4_at l D cI cB cZ a_signs 8 f_signs p1 z_5 hc_5) rfl gX0_signsOf_X4_at hdX4_at ⟨rfl, rfl⟩ (Nat.le_of_ble_eq_true rfl) (Nat.le_of_ble_eq_true rfl) [1] [0] rfl rfl rfl rfl (by decide) rfl hl.1 rfl (Nat.le_of_ble_eq_true rfl) (Nat.zero_le _) (Nat.zero_le _) dX0_signsOf_5 (fun H locs hP hD hS => ?_)
  have hz := Option.some.inj h
  subst hz
  exact hret H locs 8 ls (fun ty h => by cases h; rfl) hP hD hS dX0_signsOf_8
abbrev rmX10_saying : Room := { frames := 2, cells := 0, slots := 0, locals := 42 }
theorem hdX10_saying : yX10_saying.cls = RX10 ∧ yX10_saying.cls ≠ "java/lang/invoke/MethodHandle" ∧ yX10_saying.cls ≠ "java/lang/invoke/VarHandle" ∧ (parseMethodDescriptor yX10_saying.desc).map (fun d => d.parameters.length) = some 2 := by decide +kernel
set_option maxRecDepth 100000 in
set_option maxHeartbeats 4000000 in
theorem c_X10_saying (l : Launch) (D : va_G) (cI cB cZ : ClassId) (a_o : Nat) (w_o_text : Value) (w_o_speech : Value) (w_o_image0 : Value) (w_o_image1 : Value) (w_o_signs : Value) (w_o_reader : Value) (w_o_lengths : Value) (w_o_refusals : Value) (w_o_two : Value) (o_measured : Int32) (o_traced : Int64) (a_now : Nat) (w_now_wordSets : Value) (now_sayings : Int32) (now_words : Int32) (now_filled : Int32) (a_now_left : Nat) (f_now_left : Nat → Int32) (a_now_signs : Nat) (f_now_signs : Nat → Int32) (p1 : Int32) (p2 : Int32) (z : Int32) (h : P_X10_saying p1 p2 now_sayings f_now_left f_now_signs = some z) : KI l yX10_saying wsX10_saying rmX10_saying D [(cI, .int), (cB, .byte), (cZ, .boolean)] [.ref a_o, .int p1, .int p2] [(a_o, .inr (9, [w_o_text, w_o_speech, .ref a_now, w_o_image0, w_o_image1, w_o_signs, w_o_reader, w_o_lengths, w_o_refusals, w_o_two, .int o_measured, .long o_traced])), (a_now, .inr (0, [.ref a_now_left, .ref a_now_signs, w_now_wordSets, .int now_sayings, .int now_words, .int now_filled])), (a_now_left, .inl (cI, 8, .inl f_now_left)), (a_now_signs, .inl (cI, 8, .inl f_now_signs))] [(a_o, .inr (9, [w_o_text, w_o_speech, .ref a_now, w_o_image0, w_o_image1, w_o_signs, w_o_reader, w_o_lengths, w_o_refusals, w_o_two, .int o_measured, .long o_traced])), (a_now, .inr (0, [.ref a_now_left, .ref a_now_signs, w_now_wordSets, .int now_sayings, .int now_words, .int now_filled])), (a_now_left, .inl (cI, 8, .inl f_now_left)), (a_now_signs, .inl (cI, 8, .inl f_now_signs))] z := by
  refine KI_of (own := RX10) (cc := cX10_saying) (maxL := 3) (ret := some .int) (by decide) rfl rfl (Nat.le_of_ble_eq_true rfl) (Or.inl rfl) ?_
  intro p e s m args below meth c A Q hx hb hml hown hts hA hZ hK hret H locs ls hP hD hS hl
  have hl : lv_has ls 3 [(0, .ref a_o), (1, .int p1), (2, .int p2)] := hl
  have hF : CallFix p m c cX10_saying 3 s args wsX10_saying RX10 := ⟨hx, hb, hml, hown, hts⟩
  have u_X10 : ∀ w ∈ u_ws RX10 TX10 12, w ∈ wsX10_saying := by decide +kernel
  have k_f0 := hts (.fieldLink RX10 26 "NoWordNo" "now" "LNoWordNo$Kept;") (by decide +kernel)
  unfold P_X10_saying at h
  refine lv_aload_n hx hb dX10_saying_0 rfl (lv_at hl 0 rfl) ?_
  refine va_get (D := D) (ci := 9) (v := .ref a_now) (C := RX10) (T := TX10) (N := 12) hx hb hts u_X10 hown hK hP 0 rfl rfl 2 (by decide) k_f0 (fun _ h9 => h9) rfl dX10_saying_1 ?_
  refine lv_iload_n hx hb dX10_saying_4 rfl (lv_at hl 1 rfl) ?_
  obtain ⟨z_5, hc_5, h⟩ := bd_e h
  refine q_iV (As := [.int p1]) (rest := []) (wF := [(a_o, .inr (9, [w_o_text, w_o_speech, .ref a_now, w_o_image0, w_o_image1, w_o_signs, w_o_reader, w_o_lengths, w_o_refusals, w_o_two, .int o_measured, .long o_traced])), (a_now_left, .inl (cI, 8, .inl f_now_left)), (a_now_signs, .inl (cI, 8, .inl f_now_signs)), (a_now, .inr (0, [.ref a_now_left, .ref a_now_signs, w_now_wordSets, .int now_sayings, .int now_words, .int now_filled]))]) hF hA hZ hK hP hD hS (c_X0_isSaying l D cI cB cZ a_now (.ref a_now_left) (.ref a_now_signs) w_now_wordSets now_sayings now_words now_filled p1 z_5 hc_5) rfl gX10_saying_X0_isSaying hdX0_isSaying ⟨rfl, rfl⟩ (Nat.le_of_ble_eq_true rfl) (Nat.le_of_ble_eq_true rfl) 0 0 rfl rfl [1] [0, 2, 3] rfl rfl rfl rfl (by decide) rfl hl.1 rfl (Nat.le_of_ble_eq_true rfl) (Nat.zero_le _) (Nat.zero_le _) dX10_saying_5 (fun H locs hP hD hS => ?_)
  refine lv_if_eq (tgt := 20) hx hb dX10_saying_8 (by decide) (fun c_8 => ?_) (fun c_8 => ?_)
  · replace h := it_e c_8 h
    refine lv_iconst (v := (-1)) hx hb dX10_saying_20 ic_m1 ?_
    have hz := Option.some.inj h
    subst hz
    exact hret H locs 21 ls (fun ty h => by cases h; rfl) (hP.sub [0, 3, 1, 2] rfl) (hD.sub [0, 3, 1, 2] (by decide) rfl) hS dX10_saying_21
  · replace h := if_e c_8 h
    refine lv_iload_n hx hb dX10_saying_11 rfl (lv_at hl 2 rfl) ?_
    refine lv_if_lt (tgt := 20) hx hb dX10_saying_12 (by decide) (fun c_12 => ?_) (fun c_12 => ?_)
    · replace h := it_e c_12 h
      refine lv_iconst (v := (-1)) hx hb dX10_saying_20 ic_m1 ?_
      have hz := Option.some.inj h
      subst hz
      exact hret H locs 21 ls (fun ty h => by cases h; rfl) (hP.sub [0, 3, 1, 2] rfl) (hD.sub [0, 3, 1, 2] (by decide) rfl) hS dX10_saying_21
    · replace h := if_e c_12 h
      refine lv_iload_n hx hb dX10_saying_15 rfl (lv_at hl 2 rfl) ?_
      refine lv_iconst (v := 1) hx hb dX10_saying_16 ic_1 ?_
      refine lv_icmp_le (tgt := 22) hx hb dX10_saying_17 (by decide) (fun c_17 => ?_) (fun c_17 => ?_)
      · replace h := it_e c_17 h
        refine lv_iload_n hx hb dX10_saying_22 rfl (lv_at hl 2 rfl) ?_
        refine lv_if_ne (tgt := 37) hx hb dX10_saying_23 (by decide) (fun c_23 => ?_) (fun c_23 => ?_)
        · replace h := if_e c_23 h
          refine lv_aload_n hx hb dX10_saying_37 rfl (lv_at hl 0 rfl) ?_
          refine va_get (D := D) (ci := 9) (v := .ref a_now) (C := RX10) (T := TX10) (N := 12) hx hb hts u_X10 hown hK hP 0 rfl rfl 2 (by decide) k_f0 (fun _ h9 => h9) rfl dX10_saying_38 ?_
          refine lv_iload_n hx hb dX10_saying_41 rfl (lv_at hl 1 rfl) ?_
          obtain ⟨z_42, hc_42, h⟩ := bd_e h
          refine q_iV (As := [.int p1]) (rest := []) (wF := [(a_o, .inr (9, [w_o_text, w_o_speech, .ref a_now, w_o_image0, w_o_image1, w_o_signs, w_o_reader, w_o_lengths, w_o_refusals, w_o_two, .int o_measured, .long o_traced])), (a_now_left, .inl (cI, 8, .inl f_now_left)), (a_now, .inr (0, [.ref a_now_left, .ref a_now_signs, w_now_wordSets, .int now_sayings, .int now_words, .int now_filled])), (a_now_signs, .inl (cI, 8, .inl f_now_signs))]) hF hA hZ hK hP hD hS (c_X0_signsOf l D cI cB cZ a_now (.ref a_now_left) w_now_wordSets now_sayings now_words now_filled a_now_signs f_now_signs p1 z_42 hc_42) rfl gX10_saying_X0_signsOf hdX0_signsOf ⟨rfl, rfl⟩ (Nat.le_of_ble_eq_true rfl) (Nat.le_of_ble_eq_true rfl) 0 0 rfl rfl [3, 2] [0, 1] rfl rfl rfl rfl (by decide) rfl hl.1 rfl (Nat.le_of_ble_eq_true rfl) (Nat.zero_le _) (Nat.zero_le _) dX10_saying_42 (fun H locs hP hD hS => ?_)
          have hz := Option.some.inj h
          subst hz
          exact hret H locs 45 ls (fun ty h => by cases h; rfl) (hP.sub [0, 2, 1, 3] rfl) (hD.sub [0, 2, 1, 3] (by decide) rfl) hS dX10_saying_45
        · replace h := it_e c_23 h
          refine lv_aload_n hx hb dX10_saying_26 rfl (lv_at hl 0 rfl) ?_
          refine va_get (D := D) (ci := 9) (v := .ref a_now) (C := RX10) (T := TX10) (N := 12) hx hb hts u_X10 hown hK hP 0 rfl rfl 2 (by decide) k_f0 (fun _ h9 => h9) rfl dX10_saying_27 ?_
          refine lv_iload_n hx hb dX10_saying_30 rfl (lv_at hl 1 rfl) ?_
          obtain ⟨z_31, hc_31, h⟩ := bd_e h
          refine q_iV (As := [.int p1]) (rest := []) (wF := [(a_o, .inr (9, [w_o_text, w_o_speech, .ref a_now, w_o_image0, w_o_image1, w_o_signs, w_o_reader, w_o_lengths, w_o_refusals, w_o_two, .int o_measured, .long o_traced])), (a_now_signs, .inl (cI, 8, .inl f_now_signs)), (a_now, .inr (0, [.ref a_now_left, .ref a_now_signs, w_now_wordSets, .int now_sayings, .int now_words, .int now_filled])), (a_now_left, .inl (cI, 8, .inl f_now_left))]) hF hA hZ hK hP hD hS (c_X0_leftBy l D cI cB cZ a_now (.ref a_now_signs) w_now_wordSets now_sayings now_words now_filled a_now_left f_now_left p1 z_31 hc_31) rfl gX10_saying_X0_leftBy hdX0_leftBy ⟨rfl, rfl⟩ (Nat.le_of_ble_eq_true rfl) (Nat.le_of_ble_eq_true rfl) 0 0 rfl rfl [3, 1] [0, 2] rfl rfl rfl rfl (by decide) rfl hl.1 rfl (Nat.le_of_ble_eq_true rfl) (Nat.zero_le _) (Nat.zero_le _) dX10_saying_31 (fun H locs hP hD hS => ?_)
          refine lv_goto (tgt := 45) hx hb dX10_saying_34 (by decide) ?_
          have hz := Option.some.inj h
          subst hz
          exact hret H locs 45 ls (fun ty h => by cases h; rfl) (hP.sub [0, 2, 3, 1] rfl) (hD.sub [0, 2, 3, 1] (by decide) rfl) hS dX10_saying_45
      · replace h := if_e c_17 h
        refine lv_iconst (v := (-1)) hx hb dX10_saying_20 ic_m1 ?_
        have hz := Option.some.inj h
        subst hz
        exact hret H locs 21 ls (fun ty h => by cases h; rfl) (hP.sub [0, 3, 1, 2] rfl) (hD.sub [0, 3, 1, 2] (by decide) rfl) hS dX10_saying_21
abbrev rmX10_alike : Room := { frames := 2, cells := 0, slots := 0, locals := 42 }
theorem hdX10_alike : yX10_alike.cls = RX10 ∧ yX10_alike.cls ≠ "java/lang/invoke/MethodHandle" ∧ yX10_alike.cls ≠ "java/lang/invoke/VarHandle" ∧ (parseMethodDescriptor yX10_alike.desc).map (fun d => d.parameters.length) = some 2 := by decide +kernel
set_option maxRecDepth 100000 in
set_option maxHeartbeats 4000000 in
theorem c_X10_alike (l : Launch) (D : va_G) (cI cB cZ : ClassId) (a_o : Nat) (w_o_text : Value) (w_o_speech : Value) (w_o_image0 : Value) (w_o_image1 : Value) (w_o_signs : Value) (w_o_reader : Value) (w_o_lengths : Value) (w_o_refusals : Value) (w_o_two : Value) (o_measured : Int32) (o_traced : Int64) (a_now : Nat) (w_now_signs : Value) (w_now_wordSets : Value) (now_sayings : Int32) (now_words : Int32) (now_filled : Int32) (a_now_left : Nat) (f_now_left : Nat → Int32) (p1 : Int32) (p2 : Int32) (z : Int32) (h : P_X10_alike p1 p2 now_sayings f_now_left = some z) : KI l yX10_alike wsX10_alike rmX10_alike D [(cI, .int), (cB, .byte), (cZ, .boolean)] [.ref a_o, .int p1, .int p2] [(a_o, .inr (9, [w_o_text, w_o_speech, .ref a_now, w_o_image0, w_o_image1, w_o_signs, w_o_reader, w_o_lengths, w_o_refusals, w_o_two, .int o_measured, .long o_traced])), (a_now, .inr (0, [.ref a_now_left, w_now_signs, w_now_wordSets, .int now_sayings, .int now_words, .int now_filled])), (a_now_left, .inl (cI, 8, .inl f_now_left))] [(a_o, .inr (9, [w_o_text, w_o_speech, .ref a_now, w_o_image0, w_o_image1, w_o_signs, w_o_reader, w_o_lengths, w_o_refusals, w_o_two, .int o_measured, .long o_traced])), (a_now, .inr (0, [.ref a_now_left, w_now_signs, w_now_wordSets, .int now_sayings, .int now_words, .int now_filled])), (a_now_left, .inl (cI, 8, .inl f_now_left))] z := by
  refine KI_of (own := RX10) (cc := cX10_alike) (maxL := 3) (ret := some .int) (by decide) rfl rfl (Nat.le_of_ble_eq_true rfl) (Or.inl rfl) ?_
  intro p e s m args below meth c A Q hx hb hml hown hts hA hZ hK hret H locs ls hP hD hS hl
  have hl : lv_has ls 3 [(0, .ref a_o), (1, .int p1), (2, .int p2)] := hl
  have hF : CallFix p m c cX10_alike 3 s args wsX10_alike RX10 := ⟨hx, hb, hml, hown, hts⟩
  have u_X10 : ∀ w ∈ u_ws RX10 TX10 12, w ∈ wsX10_alike := by decide +kernel
  have k_f0 := hts (.fieldLink RX10 26 "NoWordNo" "now" "LNoWordNo$Kept;") (by decide +kernel)
  unfold P_X10_alike at h
  refine lv_aload_n hx hb dX10_alike_0 rfl (lv_at hl 0 rfl) ?_
  refine va_get (D := D) (ci := 9) (v := .ref a_now) (C := RX10) (T := TX10) (N := 12) hx hb hts u_X10 hown hK hP 0 rfl rfl 2 (by decide) k_f0 (fun _ h9 => h9) rfl dX10_alike_1 ?_
  refine lv_iload_n hx hb dX10_alike_4 rfl (lv_at hl 1 rfl) ?_
  obtain ⟨z_5, hc_5, h⟩ := bd_e h
  refine q_iV (As := [.int p1]) (rest := []) (wF := [(a_o, .inr (9, [w_o_text, w_o_speech, .ref a_now, w_o_image0, w_o_image1, w_o_signs, w_o_reader, w_o_lengths, w_o_refusals, w_o_two, .int o_measured, .long o_traced])), (a_now_left, .inl (cI, 8, .inl f_now_left)), (a_now, .inr (0, [.ref a_now_left, w_now_signs, w_now_wordSets, .int now_sayings, .int now_words, .int now_filled]))]) hF hA hZ hK hP hD hS (c_X0_isSaying l D cI cB cZ a_now (.ref a_now_left) w_now_signs w_now_wordSets now_sayings now_words now_filled p1 z_5 hc_5) rfl gX10_alike_X0_isSaying hdX0_isSaying ⟨rfl, rfl⟩ (Nat.le_of_ble_eq_true rfl) (Nat.le_of_ble_eq_true rfl) 0 0 rfl rfl [1] [0, 2] rfl rfl rfl rfl (by decide) rfl hl.1 rfl (Nat.le_of_ble_eq_true rfl) (Nat.zero_le _) (Nat.zero_le _) dX10_alike_5 (fun H locs hP hD hS => ?_)
  refine lv_if_eq (tgt := 22) hx hb dX10_alike_8 (by decide) (fun c_8 => ?_) (fun c_8 => ?_)
  · replace h := it_e c_8 h
    refine lv_iconst (v := (-1)) hx hb dX10_alike_22 ic_m1 ?_
    have hz := Option.some.inj h
    subst hz
    exact hret H locs 23 ls (fun ty h => by cases h; rfl) (hP.sub [0, 2, 1] rfl) (hD.sub [0, 2, 1] (by decide) rfl) hS dX10_alike_23
  · replace h := if_e c_8 h
    refine lv_aload_n hx hb dX10_alike_11 rfl (lv_at hl 0 rfl) ?_
    refine va_get (D := D) (ci := 9) (v := .ref a_now) (C := RX10) (T := TX10) (N := 12) hx hb hts u_X10 hown hK hP 0 rfl rfl 2 (by decide) k_f0 (fun _ h9 => h9) rfl dX10_alike_12 ?_
    refine lv_iload_n hx hb dX10_alike_15 rfl (lv_at hl 2 rfl) ?_
    obtain ⟨z_16, hc_16, h⟩ := bd_e h
    refine q_iV (As := [.int p2]) (rest := []) (wF := [(a_o, .inr (9, [w_o_text, w_o_speech, .ref a_now, w_o_image0, w_o_image1, w_o_signs, w_o_reader, w_o_lengths, w_o_refusals, w_o_two, .int o_measured, .long o_traced])), (a_now_left, .inl (cI, 8, .inl f_now_left)), (a_now, .inr (0, [.ref a_now_left, w_now_signs, w_now_wordSets, .int now_sayings, .int now_words, .int now_filled]))]) hF hA hZ hK hP hD hS (c_X0_isSaying l D cI cB cZ a_now (.ref a_now_left) w_now_signs w_now_wordSets now_sayings now_words now_filled p2 z_16 hc_16) rfl gX10_alike_X0_isSaying hdX0_isSaying ⟨rfl, rfl⟩ (Nat.le_of_ble_eq_true rfl) (Nat.le_of_ble_eq_true rfl) 0 0 rfl rfl [2] [0, 1] rfl rfl rfl rfl (by decide) rfl hl.1 rfl (Nat.le_of_ble_eq_true rfl) (Nat.zero_le _) (Nat.zero_le _) dX10_alike_16 (fun H locs hP hD hS => ?_)
    refine lv_if_ne (tgt := 24) hx hb dX10_alike_19 (by decide) (fun c_19 => ?_) (fun c_19 => ?_)
    · replace h := if_e c_19 h
      refine lv_aload_n hx hb dX10_alike_24 rfl (lv_at hl 0 rfl) ?_
      refine va_get (D := D) (ci := 9) (v := .ref a_now) (C := RX10) (T := TX10) (N := 12) hx hb hts u_X10 hown hK hP 0 rfl rfl 2 (by decide) k_f0 (fun _ h9 => h9) rfl dX10_alike_25 ?_
      refine lv_iload_n hx hb dX10_alike_28 rfl (lv_at hl 1 rfl) ?_
      obtain ⟨z_29, hc_29, h⟩ := bd_e h
      refine q_iV (As := [.int p1]) (rest := []) (wF := [(a_o, .inr (9, [w_o_text, w_o_speech, .ref a_now, w_o_image0, w_o_image1, w_o_signs, w_o_reader, w_o_lengths, w_o_refusals, w_o_two, .int o_measured, .long o_traced])), (a_now, .inr (0, [.ref a_now_left, w_now_signs, w_now_wordSets, .int now_sayings, .int now_words, .int now_filled])), (a_now_left, .inl (cI, 8, .inl f_now_left))]) hF hA hZ hK hP hD hS (c_X0_leftBy l D cI cB cZ a_now w_now_signs w_now_wordSets now_sayings now_words now_filled a_now_left f_now_left p1 z_29 hc_29) rfl gX10_alike_X0_leftBy hdX0_leftBy ⟨rfl, rfl⟩ (Nat.le_of_ble_eq_true rfl) (Nat.le_of_ble_eq_true rfl) 0 0 rfl rfl [2, 1] [0] rfl rfl rfl rfl (by decide) rfl hl.1 rfl (Nat.le_of_ble_eq_true rfl) (Nat.zero_le _) (Nat.zero_le _) dX10_alike_29 (fun H locs hP hD hS => ?_)
      refine lv_aload_n hx hb dX10_alike_32 rfl (lv_at hl 0 rfl) ?_
      refine va_get (D := D) (ci := 9) (v := .ref a_now) (C := RX10) (T := TX10) (N := 12) hx hb hts u_X10 hown hK hP 0 rfl rfl 2 (by decide) k_f0 (fun _ h9 => h9) rfl dX10_alike_33 ?_
      refine lv_iload_n hx hb dX10_alike_36 rfl (lv_at hl 2 rfl) ?_
      obtain ⟨z_37, hc_37, h⟩ := bd_e h
      refine q_iV (As := [.int p2]) (rest := [.int z_29]) (wF := [(a_o, .inr (9, [w_o_text, w_o_speech, .ref a_now, w_o_image0, w_o_image1, w_o_signs, w_o_reader, w_o_lengths, w_o_refusals, w_o_two, .int o_measured, .long o_traced])), (a_now, .inr (0, [.ref a_now_left, w_now_signs, w_now_wordSets, .int now_sayings, .int now_words, .int now_filled])), (a_now_left, .inl (cI, 8, .inl f_now_left))]) hF hA hZ hK hP hD hS (c_X0_leftBy l D cI cB cZ a_now w_now_signs w_now_wordSets now_sayings now_words now_filled a_now_left f_now_left p2 z_37 hc_37) rfl gX10_alike_X0_leftBy hdX0_leftBy ⟨rfl, rfl⟩ (Nat.le_of_ble_eq_true rfl) (Nat.le_of_ble_eq_true rfl) 0 0 rfl rfl [1, 2] [0] rfl rfl rfl rfl (by decide) rfl hl.1 rfl (Nat.le_of_ble_eq_true rfl) (Nat.zero_le _) (Nat.zero_le _) dX10_alike_37 (fun H locs hP hD hS => ?_)
      refine lv_icmp_ne (tgt := 47) hx hb dX10_alike_40 (by decide) (fun c_40 => ?_) (fun c_40 => ?_)
      · replace h := if_e c_40 h
        refine lv_iconst (v := 0) hx hb dX10_alike_47 ic_0 ?_
        have hz := Option.some.inj h
        subst hz
        exact hret H locs 48 ls (fun ty h => by cases h; rfl) hP hD hS dX10_alike_48
      · replace h := it_e c_40 h
        refine lv_iconst (v := 1) hx hb dX10_alike_43 ic_1 ?_
        refine lv_goto (tgt := 48) hx hb dX10_alike_44 (by decide) ?_
        have hz := Option.some.inj h
        subst hz
        exact hret H locs 48 ls (fun ty h => by cases h; rfl) hP hD hS dX10_alike_48
    · replace h := it_e c_19 h
      refine lv_iconst (v := (-1)) hx hb dX10_alike_22 ic_m1 ?_
      have hz := Option.some.inj h
      subst hz
      exact hret H locs 23 ls (fun ty h => by cases h; rfl) (hP.sub [0, 2, 1] rfl) (hD.sub [0, 2, 1] (by decide) rfl) hS dX10_alike_23
