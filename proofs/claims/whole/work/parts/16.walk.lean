abbrev rmX10_worst : Room := { frames := 6, cells := 0, slots := 0, locals := 132 }
theorem hdX10_worst : yX10_worst.cls = RX10 ∧ yX10_worst.cls ≠ "java/lang/invoke/MethodHandle" ∧ yX10_worst.cls ≠ "java/lang/invoke/VarHandle" ∧ (parseMethodDescriptor yX10_worst.desc).map (fun d => d.parameters.length) = some 1 := by decide +kernel
set_option maxRecDepth 100000 in
set_option maxHeartbeats 4000000 in
theorem c_X10_worst (l : Launch) (D : va_G) (cI cB cZ : ClassId) (a_o : Nat) (w_o_text : Value) (w_o_image0 : Value) (w_o_image1 : Value) (w_o_reader : Value) (w_o_two : Value) (o_measured : Int32) (o_traced : Int64) (a_speech : Nat) (speech_choices : Int32) (speech_worlds : Int32) (a_speech_values : Nat) (f_speech_values : Nat → Int32) (a_speech_left : Nat) (f_speech_left : Nat → Int32) (a_now : Nat) (w_now_left : Value) (w_now_signs : Value) (now_sayings : Int32) (now_words : Int32) (now_filled : Int32) (a_now_wordSets : Nat) (f_now_wordSets : Nat → Int32) (a_signs : Nat) (a_lengths : Nat) (lengths_found : Int32) (a_lengths_length : Nat) (f_lengths_length : Nat → Int32) (a_lengths_order : Nat) (f_lengths_order : Nat → Int32) (a_lengths_start : Nat) (f_lengths_start : Nat → Int32) (a_refusals : Nat) (w_refusals_tried : Value) (refusals_sign : Int32) (refusals_sum : Int32) (refusals_known : Int32) (p1 : Int32) (z : Int32 × Int32 × Int32 × (Nat → Int32) × (Nat → Int32) × (Nat → Int32)) (h : P_X10_worst p1 o_measured speech_choices speech_worlds f_speech_values f_speech_left now_words f_now_wordSets lengths_found f_lengths_length f_lengths_order f_lengths_start = some z) : KI l yX10_worst wsX10_worst rmX10_worst D [(cI, .int), (cB, .byte), (cZ, .boolean)] [.ref a_o, .int p1] [(a_o, .inr (9, [w_o_text, .ref a_speech, .ref a_now, w_o_image0, w_o_image1, .ref a_signs, w_o_reader, .ref a_lengths, .ref a_refusals, w_o_two, .int o_measured, .long o_traced])), (a_speech, .inr (7, [.ref a_speech_values, .ref a_speech_left, .int speech_choices, .int speech_worlds])), (a_speech_values, .inl (cI, 3, .inl f_speech_values)), (a_speech_left, .inl (cI, 30, .inl f_speech_left)), (a_now, .inr (0, [w_now_left, w_now_signs, .ref a_now_wordSets, .int now_sayings, .int now_words, .int now_filled])), (a_now_wordSets, .inl (cI, 3, .inl f_now_wordSets)), (a_signs, .inr (4, [.ref a_speech, .ref a_now])), (a_lengths, .inr (1, [.ref a_signs, .ref a_lengths_length, .ref a_lengths_order, .ref a_lengths_start, .int lengths_found])), (a_lengths_length, .inl (cI, 512, .inl f_lengths_length)), (a_lengths_order, .inl (cI, 512, .inl f_lengths_order)), (a_lengths_start, .inl (cI, 34, .inl f_lengths_start)), (a_refusals, .inr (3, [.ref a_speech, w_refusals_tried, .int refusals_sign, .int refusals_sum, .int refusals_known]))] [(a_o, .inr (9, [w_o_text, .ref a_speech, .ref a_now, w_o_image0, w_o_image1, .ref a_signs, w_o_reader, .ref a_lengths, .ref a_refusals, w_o_two, .int z.2.1, .long o_traced])), (a_speech, .inr (7, [.ref a_speech_values, .ref a_speech_left, .int speech_choices, .int speech_worlds])), (a_speech_values, .inl (cI, 3, .inl f_speech_values)), (a_speech_left, .inl (cI, 30, .inl f_speech_left)), (a_now, .inr (0, [w_now_left, w_now_signs, .ref a_now_wordSets, .int now_sayings, .int now_words, .int now_filled])), (a_now_wordSets, .inl (cI, 3, .inl f_now_wordSets)), (a_signs, .inr (4, [.ref a_speech, .ref a_now])), (a_lengths, .inr (1, [.ref a_signs, .ref a_lengths_length, .ref a_lengths_order, .ref a_lengths_start, .int z.2.2.1])), (a_lengths_length, .inl (cI, 512, .inl z.2.2.2.1)), (a_lengths_order, .inl (cI, 512, .inl z.2.2.2.2.1)), (a_lengths_start, .inl (cI, 34, .inl z.2.2.2.2.2)), (a_refusals, .inr (3, [.ref a_speech, w_refusals_tried, .int refusals_sign, .int refusals_sum, .int refusals_known]))] z.1 := by
  refine KI_of (own := RX10) (cc := cX10_worst) (maxL := 3) (ret := some .int) (by decide) rfl rfl (Nat.le_of_ble_eq_true rfl) (Or.inl rfl) ?_
  intro p e s m args below meth c A Q hx hb hml hown hts hA hZ hK hret H locs ls hP hD hS hl
  have hl : lv_has ls 3 [(0, .ref a_o), (1, .int p1)] := hl
  have hF : CallFix p m c cX10_worst 3 s args wsX10_worst RX10 := ⟨hx, hb, hml, hown, hts⟩
  have u_X10 : ∀ w ∈ u_ws RX10 TX10 12, w ∈ wsX10_worst := by decide +kernel
  have k_f0 := hts (.fieldLink RX10 19 "NoWordNo" "speech" "LNoWordNo$Tongue;") (by decide +kernel)
  have k_f1 := hts (.fieldLink RX10 68 "NoWordNo" "refusals" "LNoWordNo$Refusals;") (by decide +kernel)
  unfold P_X10_worst at h
  refine lv_iload_n hx hb dX10_worst_0 rfl (lv_at hl 1 rfl) ?_
  refine lv_if_lt (tgt := 9) hx hb dX10_worst_1 (by decide) (fun c_1 => ?_) (fun c_1 => ?_)
  · replace h := it_e c_1 h
    refine lv_iconst (v := (-1)) hx hb dX10_worst_9 ic_m1 ?_
    have hz := Option.some.inj h
    subst hz
    exact hret H locs 10 ls (fun ty h => by cases h; rfl) hP hD hS dX10_worst_10
  · replace h := if_e c_1 h
    refine lv_iload_n hx hb dX10_worst_4 rfl (lv_at hl 1 rfl) ?_
    refine lv_iconst (v := 1) hx hb dX10_worst_5 ic_1 ?_
    refine lv_icmp_le (tgt := 11) hx hb dX10_worst_6 (by decide) (fun c_6 => ?_) (fun c_6 => ?_)
    · replace h := it_e c_6 h
      refine lv_aload_n hx hb dX10_worst_11 rfl (lv_at hl 0 rfl) ?_
      refine va_get (D := D) (ci := 9) (v := .ref a_speech) (C := RX10) (T := TX10) (N := 12) hx hb hts u_X10 hown hK hP 0 rfl rfl 1 (by decide) k_f0 (fun _ h9 => h9) rfl dX10_worst_12 ?_
      obtain ⟨z_15, hc_15, h⟩ := bd_e h
      refine q_iV (As := []) (rest := []) (wF := [(a_o, .inr (9, [w_o_text, .ref a_speech, .ref a_now, w_o_image0, w_o_image1, .ref a_signs, w_o_reader, .ref a_lengths, .ref a_refusals, w_o_two, .int o_measured, .long o_traced])), (a_speech_values, .inl (cI, 3, .inl f_speech_values)), (a_speech_left, .inl (cI, 30, .inl f_speech_left)), (a_now, .inr (0, [w_now_left, w_now_signs, .ref a_now_wordSets, .int now_sayings, .int now_words, .int now_filled])), (a_now_wordSets, .inl (cI, 3, .inl f_now_wordSets)), (a_signs, .inr (4, [.ref a_speech, .ref a_now])), (a_lengths, .inr (1, [.ref a_signs, .ref a_lengths_length, .ref a_lengths_order, .ref a_lengths_start, .int lengths_found])), (a_lengths_length, .inl (cI, 512, .inl f_lengths_length)), (a_lengths_order, .inl (cI, 512, .inl f_lengths_order)), (a_lengths_start, .inl (cI, 34, .inl f_lengths_start)), (a_refusals, .inr (3, [.ref a_speech, w_refusals_tried, .int refusals_sign, .int refusals_sum, .int refusals_known])), (a_speech, .inr (7, [.ref a_speech_values, .ref a_speech_left, .int speech_choices, .int speech_worlds]))]) hF hA hZ hK hP hD hS (c_X8_choices l D cI cB cZ a_speech (.ref a_speech_values) (.ref a_speech_left) speech_choices speech_worlds z_15 hc_15) rfl gX10_worst_X8_choices hdX8_choices ⟨rfl, rfl⟩ (Nat.le_of_ble_eq_true rfl) (Nat.le_of_ble_eq_true rfl) 7 0 rfl rfl [1] [0, 2, 3, 4, 5, 6, 7, 8, 9, 10, 11] rfl rfl rfl rfl (by decide) rfl hl.1 rfl (Nat.le_of_ble_eq_true rfl) (Nat.zero_le _) (Nat.zero_le _) dX10_worst_15 (fun H locs hP hD hS => ?_)
      refine lv_if_ne (tgt := 24) hx hb dX10_worst_18 (by decide) (fun c_18 => ?_) (fun c_18 => ?_)
      · replace h := if_e c_18 h
        refine lv_aload_n hx hb dX10_worst_24 rfl (lv_at hl 0 rfl) ?_
        refine va_get (D := D) (ci := 9) (v := .ref a_refusals) (C := RX10) (T := TX10) (N := 12) hx hb hts u_X10 hown hK hP 0 rfl rfl 8 (by decide) k_f1 (fun _ h9 => h9) rfl dX10_worst_25 ?_
        refine lv_aload_n hx hb dX10_worst_28 rfl (lv_at hl 0 rfl) ?_
        obtain ⟨z_29, hc_29, h⟩ := bd_e h
        refine q_rV (As := []) (rest := [.ref a_refusals]) (wF := [(a_refusals, .inr (3, [.ref a_speech, w_refusals_tried, .int refusals_sign, .int refusals_sum, .int refusals_known])), (a_o, .inr (9, [w_o_text, .ref a_speech, .ref a_now, w_o_image0, w_o_image1, .ref a_signs, w_o_reader, .ref a_lengths, .ref a_refusals, w_o_two, .int z_29.1, .long o_traced])), (a_speech, .inr (7, [.ref a_speech_values, .ref a_speech_left, .int speech_choices, .int speech_worlds])), (a_speech_values, .inl (cI, 3, .inl f_speech_values)), (a_speech_left, .inl (cI, 30, .inl f_speech_left)), (a_now, .inr (0, [w_now_left, w_now_signs, .ref a_now_wordSets, .int now_sayings, .int now_words, .int now_filled])), (a_now_wordSets, .inl (cI, 3, .inl f_now_wordSets)), (a_signs, .inr (4, [.ref a_speech, .ref a_now])), (a_lengths, .inr (1, [.ref a_signs, .ref a_lengths_length, .ref a_lengths_order, .ref a_lengths_start, .int z_29.2.1])), (a_lengths_length, .inl (cI, 512, .inl z_29.2.2.1)), (a_lengths_order, .inl (cI, 512, .inl z_29.2.2.2.1)), (a_lengths_start, .inl (cI, 34, .inl z_29.2.2.2.2))]) hF hA hZ hK hP hD hS (c_X10_lengthsNow l D cI cB cZ a_o w_o_text w_o_image0 w_o_image1 w_o_reader (.ref a_refusals) w_o_two o_measured o_traced a_speech speech_choices speech_worlds a_speech_values f_speech_values a_speech_left f_speech_left a_now w_now_left w_now_signs now_sayings now_words now_filled a_now_wordSets f_now_wordSets a_signs a_lengths lengths_found a_lengths_length f_lengths_length a_lengths_order f_lengths_order a_lengths_start f_lengths_start z_29 hc_29) rfl gX10_worst_X10_lengthsNow hdX10_lengthsNow ⟨rfl, rfl⟩ (Nat.le_of_ble_eq_true rfl) (Nat.le_of_ble_eq_true rfl) 9 0 rfl rfl [0, 11, 1, 2, 3, 4, 5, 6, 7, 8, 9] [10] rfl rfl rfl rfl (by decide) rfl hl.1 rfl (Nat.le_of_ble_eq_true rfl) (Nat.zero_le _) (Nat.zero_le _) dX10_worst_29 (fun H locs hP hD hS => ?_)
        obtain ⟨z_32, hc_32, h⟩ := bd_e h
        refine q_iV (As := [.ref a_lengths]) (rest := []) (wF := [(a_o, .inr (9, [w_o_text, .ref a_speech, .ref a_now, w_o_image0, w_o_image1, .ref a_signs, w_o_reader, .ref a_lengths, .ref a_refusals, w_o_two, .int z_29.1, .long o_traced])), (a_now, .inr (0, [w_now_left, w_now_signs, .ref a_now_wordSets, .int now_sayings, .int now_words, .int now_filled])), (a_now_wordSets, .inl (cI, 3, .inl f_now_wordSets)), (a_signs, .inr (4, [.ref a_speech, .ref a_now])), (a_lengths_order, .inl (cI, 512, .inl z_29.2.2.2.1)), (a_lengths_start, .inl (cI, 34, .inl z_29.2.2.2.2)), (a_refusals, .inr (3, [.ref a_speech, w_refusals_tried, .int refusals_sign, .int refusals_sum, .int refusals_known])), (a_speech, .inr (7, [.ref a_speech_values, .ref a_speech_left, .int speech_choices, .int speech_worlds])), (a_speech_values, .inl (cI, 3, .inl f_speech_values)), (a_speech_left, .inl (cI, 30, .inl f_speech_left)), (a_lengths, .inr (1, [.ref a_signs, .ref a_lengths_length, .ref a_lengths_order, .ref a_lengths_start, .int z_29.2.1])), (a_lengths_length, .inl (cI, 512, .inl z_29.2.2.1))]) hF hA hZ hK hP hD hS (c_X3_longestSign l D cI cB cZ a_refusals w_refusals_tried refusals_sign refusals_sum refusals_known a_speech speech_choices speech_worlds a_speech_values f_speech_values a_speech_left f_speech_left a_lengths (.ref a_signs) (.ref a_lengths_order) (.ref a_lengths_start) z_29.2.1 a_lengths_length z_29.2.2.1 z_32 hc_32) rfl gX10_worst_X3_longestSign hdX3_longestSign ⟨rfl, rfl⟩ (Nat.le_of_ble_eq_true rfl) (Nat.le_of_ble_eq_true rfl) 3 0 rfl rfl [0, 2, 3, 4, 8, 9] [1, 5, 6, 7, 10, 11] rfl rfl rfl rfl (by decide) rfl hl.1 rfl (Nat.le_of_ble_eq_true rfl) (Nat.zero_le _) (Nat.zero_le _) dX10_worst_32 (fun H locs hP hD hS => ?_)
        refine lv_istore_n (lv' := [(2, .int z_32), (0, .ref a_o), (1, .int p1)]) hx hb dX10_worst_35 rfl hl (by decide) rfl (fun ls hl => ?_)
        refine lv_iload_n hx hb dX10_worst_36 rfl (lv_at hl 2 rfl) ?_
        refine lv_if_ne (tgt := 44) hx hb dX10_worst_37 (by decide) (fun c_37 => ?_) (fun c_37 => ?_)
        · replace h := if_e c_37 h
          refine lv_aload_n hx hb dX10_worst_44 rfl (lv_at hl 1 rfl) ?_
          refine va_get (D := D) (ci := 9) (v := .ref a_refusals) (C := RX10) (T := TX10) (N := 12) hx hb hts u_X10 hown hK hP 0 rfl rfl 8 (by decide) k_f1 (fun _ h9 => h9) rfl dX10_worst_45 ?_
          refine lv_iload_n hx hb dX10_worst_48 rfl (lv_at hl 0 rfl) ?_
          refine lv_aload_n hx hb dX10_worst_49 rfl (lv_at hl 1 rfl) ?_
          obtain ⟨z_50, hc_50, h⟩ := bd_e h
          refine q_rV (As := []) (rest := [.int z_32, .ref a_refusals]) (wF := [(a_refusals, .inr (3, [.ref a_speech, w_refusals_tried, .int refusals_sign, .int refusals_sum, .int refusals_known])), (a_o, .inr (9, [w_o_text, .ref a_speech, .ref a_now, w_o_image0, w_o_image1, .ref a_signs, w_o_reader, .ref a_lengths, .ref a_refusals, w_o_two, .int z_50.1, .long o_traced])), (a_speech, .inr (7, [.ref a_speech_values, .ref a_speech_left, .int speech_choices, .int speech_worlds])), (a_speech_values, .inl (cI, 3, .inl f_speech_values)), (a_speech_left, .inl (cI, 30, .inl f_speech_left)), (a_now, .inr (0, [w_now_left, w_now_signs, .ref a_now_wordSets, .int now_sayings, .int now_words, .int now_filled])), (a_now_wordSets, .inl (cI, 3, .inl f_now_wordSets)), (a_signs, .inr (4, [.ref a_speech, .ref a_now])), (a_lengths, .inr (1, [.ref a_signs, .ref a_lengths_length, .ref a_lengths_order, .ref a_lengths_start, .int z_50.2.1])), (a_lengths_length, .inl (cI, 512, .inl z_50.2.2.1)), (a_lengths_order, .inl (cI, 512, .inl z_50.2.2.2.1)), (a_lengths_start, .inl (cI, 34, .inl z_50.2.2.2.2))]) hF hA hZ hK hP hD hS (c_X10_lengthsNow l D cI cB cZ a_o w_o_text w_o_image0 w_o_image1 w_o_reader (.ref a_refusals) w_o_two z_29.1 o_traced a_speech speech_choices speech_worlds a_speech_values f_speech_values a_speech_left f_speech_left a_now w_now_left w_now_signs now_sayings now_words now_filled a_now_wordSets f_now_wordSets a_signs a_lengths z_29.2.1 a_lengths_length z_29.2.2.1 a_lengths_order z_29.2.2.2.1 a_lengths_start z_29.2.2.2.2 z_50 hc_50) rfl gX10_worst_X10_lengthsNow hdX10_lengthsNow ⟨rfl, rfl⟩ (Nat.le_of_ble_eq_true rfl) (Nat.le_of_ble_eq_true rfl) 9 0 rfl rfl [0, 7, 8, 9, 1, 2, 3, 10, 11, 4, 5] [6] rfl rfl rfl rfl (by decide) rfl hl.1 rfl (Nat.le_of_ble_eq_true rfl) (Nat.zero_le _) (Nat.zero_le _) dX10_worst_50 (fun H locs hP hD hS => ?_)
          obtain ⟨z_53, hc_53, h⟩ := bd_e h
          refine q_iV (As := [.int z_32, .ref a_lengths]) (rest := []) (wF := [(a_o, .inr (9, [w_o_text, .ref a_speech, .ref a_now, w_o_image0, w_o_image1, .ref a_signs, w_o_reader, .ref a_lengths, .ref a_refusals, w_o_two, .int z_50.1, .long o_traced])), (a_speech_values, .inl (cI, 3, .inl f_speech_values)), (a_now, .inr (0, [w_now_left, w_now_signs, .ref a_now_wordSets, .int now_sayings, .int now_words, .int now_filled])), (a_now_wordSets, .inl (cI, 3, .inl f_now_wordSets)), (a_signs, .inr (4, [.ref a_speech, .ref a_now])), (a_lengths_order, .inl (cI, 512, .inl z_50.2.2.2.1)), (a_lengths_start, .inl (cI, 34, .inl z_50.2.2.2.2)), (a_refusals, .inr (3, [.ref a_speech, w_refusals_tried, .int refusals_sign, .int refusals_sum, .int refusals_known])), (a_speech, .inr (7, [.ref a_speech_values, .ref a_speech_left, .int speech_choices, .int speech_worlds])), (a_speech_left, .inl (cI, 30, .inl f_speech_left)), (a_lengths, .inr (1, [.ref a_signs, .ref a_lengths_length, .ref a_lengths_order, .ref a_lengths_start, .int z_50.2.1])), (a_lengths_length, .inl (cI, 512, .inl z_50.2.2.1))]) hF hA hZ hK hP hD hS (c_X3_lengthFor l D cI cB cZ a_refusals w_refusals_tried refusals_sign refusals_sum refusals_known a_speech (.ref a_speech_values) speech_choices speech_worlds a_speech_left f_speech_left a_lengths (.ref a_signs) (.ref a_lengths_order) (.ref a_lengths_start) z_50.2.1 a_lengths_length z_50.2.2.1 z_32 z_53 hc_53) rfl gX10_worst_X3_lengthFor hdX3_lengthFor ⟨rfl, rfl⟩ (Nat.le_of_ble_eq_true rfl) (Nat.le_of_ble_eq_true rfl) 3 0 rfl rfl [0, 2, 4, 8, 9] [1, 3, 5, 6, 7, 10, 11] rfl rfl rfl rfl (by decide) rfl hl.1 rfl (Nat.le_of_ble_eq_true rfl) (Nat.zero_le _) (Nat.zero_le _) dX10_worst_53 (fun H locs hP hD hS => ?_)
          have hz := Option.some.inj h
          subst hz
          exact hret H locs 56 ls (fun ty h => by cases h; rfl) (hP.sub [0, 8, 1, 9, 2, 3, 4, 10, 11, 5, 6, 7] rfl) (hD.sub [0, 8, 1, 9, 2, 3, 4, 10, 11, 5, 6, 7] (by decide) rfl) hS dX10_worst_56
        · replace h := it_e c_37 h
          refine lv_iload_n hx hb dX10_worst_40 rfl (lv_at hl 0 rfl) ?_
          refine lv_goto (tgt := 56) hx hb dX10_worst_41 (by decide) ?_
          have hz := Option.some.inj h
          subst hz
          exact hret H locs 56 ls (fun ty h => by cases h; rfl) (hP.sub [0, 7, 8, 9, 1, 2, 3, 10, 11, 4, 5, 6] rfl) (hD.sub [0, 7, 8, 9, 1, 2, 3, 10, 11, 4, 5, 6] (by decide) rfl) hS dX10_worst_56
      · replace h := it_e c_18 h
        refine lv_bipush (v := (-9)) hx hb dX10_worst_21 bc_m9 ?_
        have hz := Option.some.inj h
        subst hz
        exact hret H locs 23 ls (fun ty h => by cases h; rfl) (hP.sub [0, 11, 1, 2, 3, 4, 5, 6, 7, 8, 9, 10] rfl) (hD.sub [0, 11, 1, 2, 3, 4, 5, 6, 7, 8, 9, 10] (by decide) rfl) hS dX10_worst_23
    · replace h := if_e c_6 h
      refine lv_iconst (v := (-1)) hx hb dX10_worst_9 ic_m1 ?_
      have hz := Option.some.inj h
      subst hz
      exact hret H locs 10 ls (fun ty h => by cases h; rfl) hP hD hS dX10_worst_10
abbrev rmX3_sumOfTried : Room := { frames := 3, cells := 0, slots := 0, locals := 64 }
theorem hdX3_sumOfTried : yX3_sumOfTried.cls = RX3 ∧ yX3_sumOfTried.cls ≠ "java/lang/invoke/MethodHandle" ∧ yX3_sumOfTried.cls ≠ "java/lang/invoke/VarHandle" ∧ (parseMethodDescriptor yX3_sumOfTried.desc).map (fun d => d.parameters.length) = some 0 := by decide +kernel
set_option maxRecDepth 100000 in
set_option maxHeartbeats 4000000 in
theorem c_X3_sumOfTried (l : Launch) (D : va_G) (cI cB cZ : ClassId) (a_o : Nat) (o_sign : Int32) (o_sum : Int32) (o_known : Int32) (a_tongue : Nat) (tongue_choices : Int32) (tongue_worlds : Int32) (a_tongue_values : Nat) (f_tongue_values : Nat → Int32) (a_tongue_left : Nat) (f_tongue_left : Nat → Int32) (a_tried : Nat) (w_tried_signs : Value) (w_tried_order : Value) (w_tried_start : Value) (tried_found : Int32) (a_tried_length : Nat) (f_tried_length : Nat → Int32) (z : Int32) (h : P_X3_sumOfTried tongue_choices tongue_worlds f_tongue_values f_tongue_left f_tried_length = some z) : KI l yX3_sumOfTried wsX3_sumOfTried rmX3_sumOfTried D [(cI, .int), (cB, .byte), (cZ, .boolean)] [.ref a_o] [(a_o, .inr (3, [.ref a_tongue, .ref a_tried, .int o_sign, .int o_sum, .int o_known])), (a_tongue, .inr (7, [.ref a_tongue_values, .ref a_tongue_left, .int tongue_choices, .int tongue_worlds])), (a_tongue_values, .inl (cI, 3, .inl f_tongue_values)), (a_tongue_left, .inl (cI, 30, .inl f_tongue_left)), (a_tried, .inr (1, [w_tried_signs, .ref a_tried_length, w_tried_order, w_tried_start, .int tried_found])), (a_tried_length, .inl (cI, 512, .inl f_tried_length))] [(a_o, .inr (3, [.ref a_tongue, .ref a_tried, .int o_sign, .int o_sum, .int o_known])), (a_tongue, .inr (7, [.ref a_tongue_values, .ref a_tongue_left, .int tongue_choices, .int tongue_worlds])), (a_tongue_values, .inl (cI, 3, .inl f_tongue_values)), (a_tongue_left, .inl (cI, 30, .inl f_tongue_left)), (a_tried, .inr (1, [w_tried_signs, .ref a_tried_length, w_tried_order, w_tried_start, .int tried_found])), (a_tried_length, .inl (cI, 512, .inl f_tried_length))] z := by
  refine KI_of (own := RX3) (cc := cX3_sumOfTried) (maxL := 3) (ret := some .int) (by decide) rfl rfl (Nat.le_of_ble_eq_true rfl) (Or.inl rfl) ?_
  intro p e s m args below meth c A Q hx hb hml hown hts hA hZ hK hret H locs ls hP hD hS hl
  have hl : lv_has ls 3 [(0, .ref a_o)] := hl
  have hF : CallFix p m c cX3_sumOfTried 3 s args wsX3_sumOfTried RX3 := ⟨hx, hb, hml, hown, hts⟩
  have u_X3 : ∀ w ∈ u_ws RX3 TX3 5, w ∈ wsX3_sumOfTried := by decide +kernel
  have k_f0 := hts (.fieldLink RX3 20 "NoWordNo$Refusals" "tongue" "LNoWordNo$Tongue;") (by decide +kernel)
  have k_f1 := hts (.fieldLink RX3 24 "NoWordNo$Refusals" "tried" "LNoWordNo$Lengths;") (by decide +kernel)
  unfold P_X3_sumOfTried at h
  refine lv_iconst (v := 0) hx hb dX3_sumOfTried_0 ic_0 ?_
  refine lv_istore_n (lv' := [(1, .int 0), (0, .ref a_o)]) hx hb dX3_sumOfTried_1 rfl hl (by decide) rfl (fun ls hl => ?_)
  refine lv_iconst (v := 0) hx hb dX3_sumOfTried_2 ic_0 ?_
  refine lv_istore_n (lv' := [(2, .int 0), (1, .int 0), (0, .ref a_o)]) hx hb dX3_sumOfTried_3 rfl hl (by decide) rfl (fun ls hl => ?_)
  have L4 : ∀ (n : Nat), ∀ (x4_l1 : Int32) (x4_l2 : Int32) (H : Heap) (locs : List Loc) (ls : Array Slot), P_X3_sumOfTried_4 tongue_choices tongue_worlds f_tongue_values f_tongue_left f_tried_length n x4_l1 x4_l2 = some z → va_P D vwCl [(a_o, .inr (3, [.ref a_tongue, .ref a_tried, .int o_sign, .int o_sum, .int o_known])), (a_tongue, .inr (7, [.ref a_tongue_values, .ref a_tongue_left, .int tongue_choices, .int tongue_worlds])), (a_tongue_values, .inl (cI, 3, .inl f_tongue_values)), (a_tongue_left, .inl (cI, 30, .inl f_tongue_left)), (a_tried, .inr (1, [w_tried_signs, .ref a_tried_length, w_tried_order, w_tried_start, .int tried_found])), (a_tried_length, .inl (cI, 512, .inl f_tried_length))] H → va_D A [(a_o, .inr (3, [.ref a_tongue, .ref a_tried, .int o_sign, .int o_sum, .int o_known])), (a_tongue, .inr (7, [.ref a_tongue_values, .ref a_tongue_left, .int tongue_choices, .int tongue_worlds])), (a_tongue_values, .inl (cI, 3, .inl f_tongue_values)), (a_tongue_left, .inl (cI, 30, .inl f_tongue_left)), (a_tried, .inr (1, [w_tried_signs, .ref a_tried_length, w_tried_order, w_tried_start, .int tried_found])), (a_tried_length, .inl (cI, 512, .inl f_tried_length))] → va_S A s.heap H locs → lv_has ls 3 [(0, .ref a_o), (1, .int x4_l1), (2, .int x4_l2)] → W p l e rmX3_sumOfTried s m args below meth c H locs 0 0 Q (F0 m 4 ls []) := by
    intro n
    induction n with
    | zero =>
      intro x4_l1 x4_l2 H locs ls h
      exact no_e h
    | succ n ih4 =>
      intro x4_l1 x4_l2 H locs ls h hP hD hS hl
      rw [P_X3_sumOfTried_4] at h
      refine lv_iload_n hx hb dX3_sumOfTried_4 rfl (lv_at hl 2 rfl) ?_
      refine lv_bipush (v := 10) hx hb dX3_sumOfTried_5 bc_10 ?_
      refine lv_aload_n hx hb dX3_sumOfTried_7 rfl (lv_at hl 0 rfl) ?_
      refine va_get (D := D) (ci := 3) (v := .ref a_tongue) (C := RX3) (T := TX3) (N := 5) hx hb hts u_X3 hown hK hP 0 rfl rfl 0 (by decide) k_f0 (fun _ h9 => h9) rfl dX3_sumOfTried_8 ?_
      obtain ⟨z_11, hc_11, h⟩ := bd_e h
      refine q_iV (As := []) (rest := [.int 10, .int x4_l2]) (wF := [(a_o, .inr (3, [.ref a_tongue, .ref a_tried, .int o_sign, .int o_sum, .int o_known])), (a_tongue_values, .inl (cI, 3, .inl f_tongue_values)), (a_tongue_left, .inl (cI, 30, .inl f_tongue_left)), (a_tried, .inr (1, [w_tried_signs, .ref a_tried_length, w_tried_order, w_tried_start, .int tried_found])), (a_tried_length, .inl (cI, 512, .inl f_tried_length)), (a_tongue, .inr (7, [.ref a_tongue_values, .ref a_tongue_left, .int tongue_choices, .int tongue_worlds]))]) hF hA hZ hK hP hD hS (c_X8_choices l D cI cB cZ a_tongue (.ref a_tongue_values) (.ref a_tongue_left) tongue_choices tongue_worlds z_11 hc_11) rfl gX3_sumOfTried_X8_choices hdX8_choices ⟨rfl, rfl⟩ (Nat.le_of_ble_eq_true rfl) (Nat.le_of_ble_eq_true rfl) 7 0 rfl rfl [1] [0, 2, 3, 4, 5] rfl rfl rfl rfl (by decide) rfl hl.1 rfl (Nat.le_of_ble_eq_true rfl) (Nat.zero_le _) (Nat.zero_le _) dX3_sumOfTried_11 (fun H locs hP hD hS => ?_)
      refine lv_imul hx hb dX3_sumOfTried_14 ?_
      refine lv_icmp_ge (tgt := 47) hx hb dX3_sumOfTried_15 (by decide) (fun c_15 => ?_) (fun c_15 => ?_)
      · replace h := it_e c_15 h
        refine lv_iload_n hx hb dX3_sumOfTried_47 rfl (lv_at hl 1 rfl) ?_
        have hz := Option.some.inj h
        subst hz
        exact hret H locs 48 ls (fun ty h => by cases h; rfl) (hP.sub [0, 5, 1, 2, 3, 4] rfl) (hD.sub [0, 5, 1, 2, 3, 4] (by decide) rfl) hS dX3_sumOfTried_48
      · replace h := if_e c_15 h
        refine lv_aload_n hx hb dX3_sumOfTried_18 rfl (lv_at hl 0 rfl) ?_
        refine lv_iload_n hx hb dX3_sumOfTried_19 rfl (lv_at hl 2 rfl) ?_
        obtain ⟨z_20, hc_20, h⟩ := bd_e h
        refine q_iV (As := [.int x4_l2]) (rest := []) (wF := [(a_tongue_left, .inl (cI, 30, .inl f_tongue_left)), (a_tried, .inr (1, [w_tried_signs, .ref a_tried_length, w_tried_order, w_tried_start, .int tried_found])), (a_tried_length, .inl (cI, 512, .inl f_tried_length)), (a_o, .inr (3, [.ref a_tongue, .ref a_tried, .int o_sign, .int o_sum, .int o_known])), (a_tongue, .inr (7, [.ref a_tongue_values, .ref a_tongue_left, .int tongue_choices, .int tongue_worlds])), (a_tongue_values, .inl (cI, 3, .inl f_tongue_values))]) hF hA hZ hK hP hD hS (c_X3_isSign l D cI cB cZ a_o (.ref a_tried) o_sign o_sum o_known a_tongue (.ref a_tongue_left) tongue_choices tongue_worlds a_tongue_values f_tongue_values x4_l2 z_20 hc_20) rfl gX3_sumOfTried_X3_isSign hdX3_isSign ⟨rfl, rfl⟩ (Nat.le_of_ble_eq_true rfl) (Nat.le_of_ble_eq_true rfl) 3 0 rfl rfl [0, 5, 1] [2, 3, 4] rfl rfl rfl rfl (by decide) rfl hl.1 rfl (Nat.le_of_ble_eq_true rfl) (Nat.zero_le _) (Nat.zero_le _) dX3_sumOfTried_20 (fun H locs hP hD hS => ?_)
        obtain ⟨j41, hj41, h⟩ := jn_e h
        have Jj41 : ∀ (x41_l1 : Int32) (H : Heap) (locs : List Loc) (ls : Array Slot), j41 x41_l1 = some z → va_P D vwCl [(a_tongue_left, .inl (cI, 30, .inl f_tongue_left)), (a_tried, .inr (1, [w_tried_signs, .ref a_tried_length, w_tried_order, w_tried_start, .int tried_found])), (a_tried_length, .inl (cI, 512, .inl f_tried_length)), (a_o, .inr (3, [.ref a_tongue, .ref a_tried, .int o_sign, .int o_sum, .int o_known])), (a_tongue, .inr (7, [.ref a_tongue_values, .ref a_tongue_left, .int tongue_choices, .int tongue_worlds])), (a_tongue_values, .inl (cI, 3, .inl f_tongue_values))] H → va_D A [(a_tongue_left, .inl (cI, 30, .inl f_tongue_left)), (a_tried, .inr (1, [w_tried_signs, .ref a_tried_length, w_tried_order, w_tried_start, .int tried_found])), (a_tried_length, .inl (cI, 512, .inl f_tried_length)), (a_o, .inr (3, [.ref a_tongue, .ref a_tried, .int o_sign, .int o_sum, .int o_known])), (a_tongue, .inr (7, [.ref a_tongue_values, .ref a_tongue_left, .int tongue_choices, .int tongue_worlds])), (a_tongue_values, .inl (cI, 3, .inl f_tongue_values))] → va_S A s.heap H locs → lv_has ls 3 [(0, .ref a_o), (1, .int x41_l1), (2, .int x4_l2)] → W p l e rmX3_sumOfTried s m args below meth c H locs 0 0 Q (F0 m 41 ls []) := by
          intro x41_l1 H locs ls h hP hD hS hl
          rw [hj41] at h
          refine lv_iinc (v := x4_l2 + 1) (lv' := [(2, .int (x4_l2 + 1)), (0, .ref a_o), (1, .int x41_l1)]) hx hb dX3_sumOfTried_41 hl (k := 2) rfl (congrArg (x4_l2 + ·) ic_1) (by decide) rfl (fun ls hl => ?_)
          refine lv_goto (tgt := 4) hx hb dX3_sumOfTried_44 (by decide) ?_
          exact ih4 x41_l1 (x4_l2 + 1) H locs ls h (hP.sub [3, 4, 5, 0, 1, 2] rfl) (hD.sub [3, 4, 5, 0, 1, 2] (by decide) rfl) hS (lv_sub hl [1, 2, 0] rfl)
        refine lv_if_eq (tgt := 41) hx hb dX3_sumOfTried_23 (by decide) (fun c_23 => ?_) (fun c_23 => ?_)
        · replace h := it_e c_23 h
          exact Jj41 x4_l1 H locs ls h hP hD hS hl
        · replace h := if_e c_23 h
          refine lv_iload_n hx hb dX3_sumOfTried_26 rfl (lv_at hl 1 rfl) ?_
          refine lv_aload_n hx hb dX3_sumOfTried_27 rfl (lv_at hl 0 rfl) ?_
          refine va_get (D := D) (ci := 3) (v := .ref a_tried) (C := RX3) (T := TX3) (N := 5) hx hb hts u_X3 hown hK hP 3 rfl rfl 1 (by decide) k_f1 (fun _ h9 => h9) rfl dX3_sumOfTried_28 ?_
          refine lv_aload_n hx hb dX3_sumOfTried_31 rfl (lv_at hl 0 rfl) ?_
          refine lv_iload_n hx hb dX3_sumOfTried_32 rfl (lv_at hl 2 rfl) ?_
          obtain ⟨z_33, hc_33, h⟩ := bd_e h
          refine q_iV (As := [.int x4_l2]) (rest := [.ref a_tried, .int x4_l1]) (wF := [(a_tried, .inr (1, [w_tried_signs, .ref a_tried_length, w_tried_order, w_tried_start, .int tried_found])), (a_tried_length, .inl (cI, 512, .inl f_tried_length)), (a_tongue_values, .inl (cI, 3, .inl f_tongue_values)), (a_o, .inr (3, [.ref a_tongue, .ref a_tried, .int o_sign, .int o_sum, .int o_known])), (a_tongue, .inr (7, [.ref a_tongue_values, .ref a_tongue_left, .int tongue_choices, .int tongue_worlds])), (a_tongue_left, .inl (cI, 30, .inl f_tongue_left))]) hF hA hZ hK hP hD hS (c_X3_allBut l D cI cB cZ a_o (.ref a_tried) o_sign o_sum o_known a_tongue (.ref a_tongue_values) tongue_choices tongue_worlds a_tongue_left f_tongue_left x4_l2 z_33 hc_33) rfl gX3_sumOfTried_X3_allBut hdX3_allBut ⟨rfl, rfl⟩ (Nat.le_of_ble_eq_true rfl) (Nat.le_of_ble_eq_true rfl) 3 0 rfl rfl [3, 4, 0] [1, 2, 5] rfl rfl rfl rfl (by decide) rfl hl.1 rfl (Nat.le_of_ble_eq_true rfl) (Nat.zero_le _) (Nat.zero_le _) dX3_sumOfTried_33 (fun H locs hP hD hS => ?_)
          obtain ⟨z_36, hc_36, h⟩ := bd_e h
          refine q_iV (As := [.int z_33]) (rest := [.int x4_l1]) (wF := [(a_tongue_values, .inl (cI, 3, .inl f_tongue_values)), (a_o, .inr (3, [.ref a_tongue, .ref a_tried, .int o_sign, .int o_sum, .int o_known])), (a_tongue, .inr (7, [.ref a_tongue_values, .ref a_tongue_left, .int tongue_choices, .int tongue_worlds])), (a_tongue_left, .inl (cI, 30, .inl f_tongue_left)), (a_tried, .inr (1, [w_tried_signs, .ref a_tried_length, w_tried_order, w_tried_start, .int tried_found])), (a_tried_length, .inl (cI, 512, .inl f_tried_length))]) hF hA hZ hK hP hD hS (c_X1_of l D cI cB cZ a_tried w_tried_signs w_tried_order w_tried_start tried_found a_tried_length f_tried_length z_33 z_36 hc_36) rfl gX3_sumOfTried_X1_of hdX1_of ⟨rfl, rfl⟩ (Nat.le_of_ble_eq_true rfl) (Nat.le_of_ble_eq_true rfl) 1 0 rfl rfl [0, 1] [2, 3, 4, 5] rfl rfl rfl rfl (by decide) rfl hl.1 rfl (Nat.le_of_ble_eq_true rfl) (Nat.zero_le _) (Nat.zero_le _) dX3_sumOfTried_36 (fun H locs hP hD hS => ?_)
          refine lv_iadd hx hb dX3_sumOfTried_39 ?_
          refine lv_istore_n (lv' := [(1, .int (x4_l1 + z_36)), (0, .ref a_o), (2, .int x4_l2)]) hx hb dX3_sumOfTried_40 rfl hl (by decide) rfl (fun ls hl => ?_)
          exact Jj41 (x4_l1 + z_36) H locs ls h (hP.sub [3, 4, 5, 1, 2, 0] rfl) (hD.sub [3, 4, 5, 1, 2, 0] (by decide) rfl) hS (lv_sub hl [1, 0, 2] rfl)
  exact L4 QF 0 0 H locs ls h hP hD hS (lv_sub hl [2, 1, 0] rfl)
abbrev rmX3_findBest : Room := { frames := 5, cells := 0, slots := 0, locals := 112 }
theorem hdX3_findBest : yX3_findBest.cls = RX3 ∧ yX3_findBest.cls ≠ "java/lang/invoke/MethodHandle" ∧ yX3_findBest.cls ≠ "java/lang/invoke/VarHandle" ∧ (parseMethodDescriptor yX3_findBest.desc).map (fun d => d.parameters.length) = some 0 := by decide +kernel
set_option maxRecDepth 100000 in
set_option maxHeartbeats 4000000 in
theorem c_X3_findBest (l : Launch) (D : va_G) (cI cB cZ : ClassId) (a_o : Nat) (o_sign : Int32) (o_sum : Int32) (o_known : Int32) (a_tongue : Nat) (tongue_choices : Int32) (tongue_worlds : Int32) (a_tongue_values : Nat) (f_tongue_values : Nat → Int32) (a_tongue_left : Nat) (f_tongue_left : Nat → Int32) (a_tried : Nat) (tried_found : Int32) (a_tried_signs : Nat) (a_tried_signs_kept : Nat) (w_tried_signs_kept_left : Value) (w_tried_signs_kept_signs : Value) (tried_signs_kept_sayings : Int32) (tried_signs_kept_words : Int32) (tried_signs_kept_filled : Int32) (a_tried_signs_kept_wordSets : Nat) (f_tried_signs_kept_wordSets : Nat → Int32) (a_tried_length : Nat) (f_tried_length : Nat → Int32) (a_tried_order : Nat) (f_tried_order : Nat → Int32) (a_tried_start : Nat) (f_tried_start : Nat → Int32) (z : Int32 × Int32 × Int32 × Int32 × (Nat → Int32) × (Nat → Int32) × (Nat → Int32)) (h : P_X3_findBest o_sign o_sum o_known tongue_choices tongue_worlds f_tongue_values f_tongue_left tried_found tried_signs_kept_words f_tried_signs_kept_wordSets f_tried_length f_tried_order f_tried_start = some z) : KV l yX3_findBest wsX3_findBest rmX3_findBest D [(cI, .int), (cB, .byte), (cZ, .boolean)] [.ref a_o] [(a_o, .inr (3, [.ref a_tongue, .ref a_tried, .int o_sign, .int o_sum, .int o_known])), (a_tongue, .inr (7, [.ref a_tongue_values, .ref a_tongue_left, .int tongue_choices, .int tongue_worlds])), (a_tongue_values, .inl (cI, 3, .inl f_tongue_values)), (a_tongue_left, .inl (cI, 30, .inl f_tongue_left)), (a_tried, .inr (1, [.ref a_tried_signs, .ref a_tried_length, .ref a_tried_order, .ref a_tried_start, .int tried_found])), (a_tried_signs, .inr (4, [.ref a_tongue, .ref a_tried_signs_kept])), (a_tried_signs_kept, .inr (0, [w_tried_signs_kept_left, w_tried_signs_kept_signs, .ref a_tried_signs_kept_wordSets, .int tried_signs_kept_sayings, .int tried_signs_kept_words, .int tried_signs_kept_filled])), (a_tried_signs_kept_wordSets, .inl (cI, 3, .inl f_tried_signs_kept_wordSets)), (a_tried_length, .inl (cI, 512, .inl f_tried_length)), (a_tried_order, .inl (cI, 512, .inl f_tried_order)), (a_tried_start, .inl (cI, 34, .inl f_tried_start))] [(a_o, .inr (3, [.ref a_tongue, .ref a_tried, .int z.1, .int z.2.1, .int z.2.2.1])), (a_tongue, .inr (7, [.ref a_tongue_values, .ref a_tongue_left, .int tongue_choices, .int tongue_worlds])), (a_tongue_values, .inl (cI, 3, .inl f_tongue_values)), (a_tongue_left, .inl (cI, 30, .inl f_tongue_left)), (a_tried, .inr (1, [.ref a_tried_signs, .ref a_tried_length, .ref a_tried_order, .ref a_tried_start, .int z.2.2.2.1])), (a_tried_signs, .inr (4, [.ref a_tongue, .ref a_tried_signs_kept])), (a_tried_signs_kept, .inr (0, [w_tried_signs_kept_left, w_tried_signs_kept_signs, .ref a_tried_signs_kept_wordSets, .int tried_signs_kept_sayings, .int tried_signs_kept_words, .int tried_signs_kept_filled])), (a_tried_signs_kept_wordSets, .inl (cI, 3, .inl f_tried_signs_kept_wordSets)), (a_tried_length, .inl (cI, 512, .inl z.2.2.2.2.1)), (a_tried_order, .inl (cI, 512, .inl z.2.2.2.2.2.1)), (a_tried_start, .inl (cI, 34, .inl z.2.2.2.2.2.2))] := by
  refine KV_of (own := RX3) (cc := cX3_findBest) (maxL := 3) (by decide) rfl rfl (Nat.le_of_ble_eq_true rfl) ?_
  intro p e s m args below meth c A Q hx hb hml hown hts hA hZ hK hret H locs ls hP hD hS hl
  have hl : lv_has ls 3 [(0, .ref a_o)] := hl
  have hF : CallFix p m c cX3_findBest 3 s args wsX3_findBest RX3 := ⟨hx, hb, hml, hown, hts⟩
  have u_X3 : ∀ w ∈ u_ws RX3 TX3 5, w ∈ wsX3_findBest := by decide +kernel
  have k_f0 := hts (.fieldLink RX3 16 "NoWordNo$Refusals" "known" "Z") (by decide +kernel)
  have k_f1 := hts (.fieldLink RX3 20 "NoWordNo$Refusals" "tongue" "LNoWordNo$Tongue;") (by decide +kernel)
  have k_f2 := hts (.fieldLink RX3 24 "NoWordNo$Refusals" "tried" "LNoWordNo$Lengths;") (by decide +kernel)
  have k_f3 := hts (.fieldLink RX3 7 "NoWordNo$Refusals" "sign" "I") (by decide +kernel)
  have k_f4 := hts (.fieldLink RX3 13 "NoWordNo$Refusals" "sum" "I") (by decide +kernel)
  unfold P_X3_findBest at h
  refine lv_iconst (v := 0) hx hb dX3_findBest_0 ic_0 ?_
  refine lv_istore_n (lv' := [(1, .int 0), (0, .ref a_o)]) hx hb dX3_findBest_1 rfl hl (by decide) rfl (fun ls hl => ?_)
  obtain ⟨k76, hk76, h⟩ := jn_e h
  have Jk76 : ∀ (x76_o_sign : Int32) (x76_o_sum : Int32) (x76_tried_found : Int32) (x76_f_tried_length : (Nat → Int32)) (x76_f_tried_order : (Nat → Int32)) (x76_f_tried_start : (Nat → Int32)) (H : Heap) (locs : List Loc) (ls : Array Slot), k76 x76_o_sign x76_o_sum x76_tried_found x76_f_tried_length x76_f_tried_order x76_f_tried_start = some z → va_P D vwCl [(a_o, .inr (3, [.ref a_tongue, .ref a_tried, .int x76_o_sign, .int x76_o_sum, .int o_known])), (a_tongue, .inr (7, [.ref a_tongue_values, .ref a_tongue_left, .int tongue_choices, .int tongue_worlds])), (a_tongue_values, .inl (cI, 3, .inl f_tongue_values)), (a_tongue_left, .inl (cI, 30, .inl f_tongue_left)), (a_tried, .inr (1, [.ref a_tried_signs, .ref a_tried_length, .ref a_tried_order, .ref a_tried_start, .int x76_tried_found])), (a_tried_signs, .inr (4, [.ref a_tongue, .ref a_tried_signs_kept])), (a_tried_signs_kept, .inr (0, [w_tried_signs_kept_left, w_tried_signs_kept_signs, .ref a_tried_signs_kept_wordSets, .int tried_signs_kept_sayings, .int tried_signs_kept_words, .int tried_signs_kept_filled])), (a_tried_signs_kept_wordSets, .inl (cI, 3, .inl f_tried_signs_kept_wordSets)), (a_tried_length, .inl (cI, 512, .inl x76_f_tried_length)), (a_tried_order, .inl (cI, 512, .inl x76_f_tried_order)), (a_tried_start, .inl (cI, 34, .inl x76_f_tried_start))] H → va_D A [(a_o, .inr (3, [.ref a_tongue, .ref a_tried, .int x76_o_sign, .int x76_o_sum, .int o_known])), (a_tongue, .inr (7, [.ref a_tongue_values, .ref a_tongue_left, .int tongue_choices, .int tongue_worlds])), (a_tongue_values, .inl (cI, 3, .inl f_tongue_values)), (a_tongue_left, .inl (cI, 30, .inl f_tongue_left)), (a_tried, .inr (1, [.ref a_tried_signs, .ref a_tried_length, .ref a_tried_order, .ref a_tried_start, .int x76_tried_found])), (a_tried_signs, .inr (4, [.ref a_tongue, .ref a_tried_signs_kept])), (a_tried_signs_kept, .inr (0, [w_tried_signs_kept_left, w_tried_signs_kept_signs, .ref a_tried_signs_kept_wordSets, .int tried_signs_kept_sayings, .int tried_signs_kept_words, .int tried_signs_kept_filled])), (a_tried_signs_kept_wordSets, .inl (cI, 3, .inl f_tried_signs_kept_wordSets)), (a_tried_length, .inl (cI, 512, .inl x76_f_tried_length)), (a_tried_order, .inl (cI, 512, .inl x76_f_tried_order)), (a_tried_start, .inl (cI, 34, .inl x76_f_tried_start))] → va_S A s.heap H locs → lv_has ls 3 [(0, .ref a_o)] → W p l e rmX3_findBest s m args below meth c H locs 0 0 Q (F0 m 76 ls []) := by
    intro x76_o_sign x76_o_sum x76_tried_found x76_f_tried_length x76_f_tried_order x76_f_tried_start H locs ls h hP hD hS hl
    rw [hk76] at h
    refine lv_aload_n hx hb dX3_findBest_76 rfl (lv_at hl 0 rfl) ?_
    refine lv_iconst (v := 1) hx hb dX3_findBest_77 ic_1 ?_
    refine va_put (D := D) (ci := 3) (v := .int 1) (ty := .boolean) (C := RX3) (T := TX3) (N := 5) hx hb hts u_X3 tyX3 tyX3_ok nmX3 hown hK hP hD hS 0 rfl rfl 4 (by decide) k_f0 (fun _ h9 => h9) rfl (tyX3_ok 4 (by decide)) rfl rfl (Nat.le_of_ble_eq_true rfl) dX3_findBest_78 (fun H locs hP hD hS => ?_)
    have hP : va_P D vwCl [(a_o, .inr (3, [.ref a_tongue, .ref a_tried, .int x76_o_sign, .int x76_o_sum, .int 1])), (a_tongue, .inr (7, [.ref a_tongue_values, .ref a_tongue_left, .int tongue_choices, .int tongue_worlds])), (a_tongue_values, .inl (cI, 3, .inl f_tongue_values)), (a_tongue_left, .inl (cI, 30, .inl f_tongue_left)), (a_tried, .inr (1, [.ref a_tried_signs, .ref a_tried_length, .ref a_tried_order, .ref a_tried_start, .int x76_tried_found])), (a_tried_signs, .inr (4, [.ref a_tongue, .ref a_tried_signs_kept])), (a_tried_signs_kept, .inr (0, [w_tried_signs_kept_left, w_tried_signs_kept_signs, .ref a_tried_signs_kept_wordSets, .int tried_signs_kept_sayings, .int tried_signs_kept_words, .int tried_signs_kept_filled])), (a_tried_signs_kept_wordSets, .inl (cI, 3, .inl f_tried_signs_kept_wordSets)), (a_tried_length, .inl (cI, 512, .inl x76_f_tried_length)), (a_tried_order, .inl (cI, 512, .inl x76_f_tried_order)), (a_tried_start, .inl (cI, 34, .inl x76_f_tried_start))] H := hP
    have hD : va_D A [(a_o, .inr (3, [.ref a_tongue, .ref a_tried, .int x76_o_sign, .int x76_o_sum, .int 1])), (a_tongue, .inr (7, [.ref a_tongue_values, .ref a_tongue_left, .int tongue_choices, .int tongue_worlds])), (a_tongue_values, .inl (cI, 3, .inl f_tongue_values)), (a_tongue_left, .inl (cI, 30, .inl f_tongue_left)), (a_tried, .inr (1, [.ref a_tried_signs, .ref a_tried_length, .ref a_tried_order, .ref a_tried_start, .int x76_tried_found])), (a_tried_signs, .inr (4, [.ref a_tongue, .ref a_tried_signs_kept])), (a_tried_signs_kept, .inr (0, [w_tried_signs_kept_left, w_tried_signs_kept_signs, .ref a_tried_signs_kept_wordSets, .int tried_signs_kept_sayings, .int tried_signs_kept_words, .int tried_signs_kept_filled])), (a_tried_signs_kept_wordSets, .inl (cI, 3, .inl f_tried_signs_kept_wordSets)), (a_tried_length, .inl (cI, 512, .inl x76_f_tried_length)), (a_tried_order, .inl (cI, 512, .inl x76_f_tried_order)), (a_tried_start, .inl (cI, 34, .inl x76_f_tried_start))] := hD
    have hz := Option.some.inj h
    subst hz
    exact hret H locs 81 ls hP hD hS dX3_findBest_81
  have L2 : ∀ (n : Nat), ∀ (x2_l1 : Int32) (x2_o_sign : Int32) (x2_o_sum : Int32) (x2_tried_found : Int32) (x2_f_tried_length : (Nat → Int32)) (x2_f_tried_order : (Nat → Int32)) (x2_f_tried_start : (Nat → Int32)) (H : Heap) (locs : List Loc) (ls : Array Slot), P_X3_findBest_2 o_known tongue_choices tongue_worlds f_tongue_values f_tongue_left tried_signs_kept_words f_tried_signs_kept_wordSets k76 n x2_l1 x2_o_sign x2_o_sum x2_tried_found x2_f_tried_length x2_f_tried_order x2_f_tried_start = some z → va_P D vwCl [(a_o, .inr (3, [.ref a_tongue, .ref a_tried, .int x2_o_sign, .int x2_o_sum, .int o_known])), (a_tongue, .inr (7, [.ref a_tongue_values, .ref a_tongue_left, .int tongue_choices, .int tongue_worlds])), (a_tongue_values, .inl (cI, 3, .inl f_tongue_values)), (a_tongue_left, .inl (cI, 30, .inl f_tongue_left)), (a_tried, .inr (1, [.ref a_tried_signs, .ref a_tried_length, .ref a_tried_order, .ref a_tried_start, .int x2_tried_found])), (a_tried_signs, .inr (4, [.ref a_tongue, .ref a_tried_signs_kept])), (a_tried_signs_kept, .inr (0, [w_tried_signs_kept_left, w_tried_signs_kept_signs, .ref a_tried_signs_kept_wordSets, .int tried_signs_kept_sayings, .int tried_signs_kept_words, .int tried_signs_kept_filled])), (a_tried_signs_kept_wordSets, .inl (cI, 3, .inl f_tried_signs_kept_wordSets)), (a_tried_length, .inl (cI, 512, .inl x2_f_tried_length)), (a_tried_order, .inl (cI, 512, .inl x2_f_tried_order)), (a_tried_start, .inl (cI, 34, .inl x2_f_tried_start))] H → va_D A [(a_o, .inr (3, [.ref a_tongue, .ref a_tried, .int x2_o_sign, .int x2_o_sum, .int o_known])), (a_tongue, .inr (7, [.ref a_tongue_values, .ref a_tongue_left, .int tongue_choices, .int tongue_worlds])), (a_tongue_values, .inl (cI, 3, .inl f_tongue_values)), (a_tongue_left, .inl (cI, 30, .inl f_tongue_left)), (a_tried, .inr (1, [.ref a_tried_signs, .ref a_tried_length, .ref a_tried_order, .ref a_tried_start, .int x2_tried_found])), (a_tried_signs, .inr (4, [.ref a_tongue, .ref a_tried_signs_kept])), (a_tried_signs_kept, .inr (0, [w_tried_signs_kept_left, w_tried_signs_kept_signs, .ref a_tried_signs_kept_wordSets, .int tried_signs_kept_sayings, .int tried_signs_kept_words, .int tried_signs_kept_filled])), (a_tried_signs_kept_wordSets, .inl (cI, 3, .inl f_tried_signs_kept_wordSets)), (a_tried_length, .inl (cI, 512, .inl x2_f_tried_length)), (a_tried_order, .inl (cI, 512, .inl x2_f_tried_order)), (a_tried_start, .inl (cI, 34, .inl x2_f_tried_start))] → va_S A s.heap H locs → lv_has ls 3 [(0, .ref a_o), (1, .int x2_l1)] → W p l e rmX3_findBest s m args below meth c H locs 0 0 Q (F0 m 2 ls []) := by
    intro n
    induction n with
    | zero =>
      intro x2_l1 x2_o_sign x2_o_sum x2_tried_found x2_f_tried_length x2_f_tried_order x2_f_tried_start H locs ls h
      exact no_e h
    | succ n ih2 =>
      intro x2_l1 x2_o_sign x2_o_sum x2_tried_found x2_f_tried_length x2_f_tried_order x2_f_tried_start H locs ls h hP hD hS hl
      rw [P_X3_findBest_2] at h
      refine lv_iload_n hx hb dX3_findBest_2 rfl (lv_at hl 1 rfl) ?_
      refine lv_bipush (v := 10) hx hb dX3_findBest_3 bc_10 ?_
      refine lv_aload_n hx hb dX3_findBest_5 rfl (lv_at hl 0 rfl) ?_
      refine va_get (D := D) (ci := 3) (v := .ref a_tongue) (C := RX3) (T := TX3) (N := 5) hx hb hts u_X3 hown hK hP 0 rfl rfl 0 (by decide) k_f1 (fun _ h9 => h9) rfl dX3_findBest_6 ?_
      obtain ⟨z_9, hc_9, h⟩ := bd_e h
      refine q_iV (As := []) (rest := [.int 10, .int x2_l1]) (wF := [(a_o, .inr (3, [.ref a_tongue, .ref a_tried, .int x2_o_sign, .int x2_o_sum, .int o_known])), (a_tongue_values, .inl (cI, 3, .inl f_tongue_values)), (a_tongue_left, .inl (cI, 30, .inl f_tongue_left)), (a_tried, .inr (1, [.ref a_tried_signs, .ref a_tried_length, .ref a_tried_order, .ref a_tried_start, .int x2_tried_found])), (a_tried_signs, .inr (4, [.ref a_tongue, .ref a_tried_signs_kept])), (a_tried_signs_kept, .inr (0, [w_tried_signs_kept_left, w_tried_signs_kept_signs, .ref a_tried_signs_kept_wordSets, .int tried_signs_kept_sayings, .int tried_signs_kept_words, .int tried_signs_kept_filled])), (a_tried_signs_kept_wordSets, .inl (cI, 3, .inl f_tried_signs_kept_wordSets)), (a_tried_length, .inl (cI, 512, .inl x2_f_tried_length)), (a_tried_order, .inl (cI, 512, .inl x2_f_tried_order)), (a_tried_start, .inl (cI, 34, .inl x2_f_tried_start)), (a_tongue, .inr (7, [.ref a_tongue_values, .ref a_tongue_left, .int tongue_choices, .int tongue_worlds]))]) hF hA hZ hK hP hD hS (c_X8_choices l D cI cB cZ a_tongue (.ref a_tongue_values) (.ref a_tongue_left) tongue_choices tongue_worlds z_9 hc_9) rfl gX3_findBest_X8_choices hdX8_choices ⟨rfl, rfl⟩ (Nat.le_of_ble_eq_true rfl) (Nat.le_of_ble_eq_true rfl) 7 0 rfl rfl [1] [0, 2, 3, 4, 5, 6, 7, 8, 9, 10] rfl rfl rfl rfl (by decide) rfl hl.1 rfl (Nat.le_of_ble_eq_true rfl) (Nat.zero_le _) (Nat.zero_le _) dX3_findBest_9 (fun H locs hP hD hS => ?_)
      refine lv_imul hx hb dX3_findBest_12 ?_
      refine lv_icmp_ge (tgt := 76) hx hb dX3_findBest_13 (by decide) (fun c_13 => ?_) (fun c_13 => ?_)
      · replace h := it_e c_13 h
        exact Jk76 x2_o_sign x2_o_sum x2_tried_found x2_f_tried_length x2_f_tried_order x2_f_tried_start H locs ls h (hP.sub [0, 10, 1, 2, 3, 4, 5, 6, 7, 8, 9] rfl) (hD.sub [0, 10, 1, 2, 3, 4, 5, 6, 7, 8, 9] (by decide) rfl) hS (lv_sub hl [0] rfl)
      · replace h := if_e c_13 h
        refine lv_aload_n hx hb dX3_findBest_16 rfl (lv_at hl 0 rfl) ?_
        refine va_get (D := D) (ci := 3) (v := .int o_known) (C := RX3) (T := TX3) (N := 5) hx hb hts u_X3 hown hK hP 0 rfl rfl 4 (by decide) k_f0 (fun _ h9 => h9) rfl dX3_findBest_17 ?_
        refine lv_if_ne (tgt := 76) hx hb dX3_findBest_20 (by decide) (fun c_20 => ?_) (fun c_20 => ?_)
        · replace h := if_e c_20 h
          exact Jk76 x2_o_sign x2_o_sum x2_tried_found x2_f_tried_length x2_f_tried_order x2_f_tried_start H locs ls h (hP.sub [0, 10, 1, 2, 3, 4, 5, 6, 7, 8, 9] rfl) (hD.sub [0, 10, 1, 2, 3, 4, 5, 6, 7, 8, 9] (by decide) rfl) hS (lv_sub hl [0] rfl)
        · replace h := it_e c_20 h
          refine lv_aload_n hx hb dX3_findBest_23 rfl (lv_at hl 0 rfl) ?_
          refine lv_iload_n hx hb dX3_findBest_24 rfl (lv_at hl 1 rfl) ?_
          obtain ⟨z_25, hc_25, h⟩ := bd_e h
          refine q_iV (As := [.int x2_l1]) (rest := []) (wF := [(a_tongue_left, .inl (cI, 30, .inl f_tongue_left)), (a_tried, .inr (1, [.ref a_tried_signs, .ref a_tried_length, .ref a_tried_order, .ref a_tried_start, .int x2_tried_found])), (a_tried_signs, .inr (4, [.ref a_tongue, .ref a_tried_signs_kept])), (a_tried_signs_kept, .inr (0, [w_tried_signs_kept_left, w_tried_signs_kept_signs, .ref a_tried_signs_kept_wordSets, .int tried_signs_kept_sayings, .int tried_signs_kept_words, .int tried_signs_kept_filled])), (a_tried_signs_kept_wordSets, .inl (cI, 3, .inl f_tried_signs_kept_wordSets)), (a_tried_length, .inl (cI, 512, .inl x2_f_tried_length)), (a_tried_order, .inl (cI, 512, .inl x2_f_tried_order)), (a_tried_start, .inl (cI, 34, .inl x2_f_tried_start)), (a_o, .inr (3, [.ref a_tongue, .ref a_tried, .int x2_o_sign, .int x2_o_sum, .int o_known])), (a_tongue, .inr (7, [.ref a_tongue_values, .ref a_tongue_left, .int tongue_choices, .int tongue_worlds])), (a_tongue_values, .inl (cI, 3, .inl f_tongue_values))]) hF hA hZ hK hP hD hS (c_X3_isSign l D cI cB cZ a_o (.ref a_tried) x2_o_sign x2_o_sum o_known a_tongue (.ref a_tongue_left) tongue_choices tongue_worlds a_tongue_values f_tongue_values x2_l1 z_25 hc_25) rfl gX3_findBest_X3_isSign hdX3_isSign ⟨rfl, rfl⟩ (Nat.le_of_ble_eq_true rfl) (Nat.le_of_ble_eq_true rfl) 3 0 rfl rfl [0, 10, 1] [2, 3, 4, 5, 6, 7, 8, 9] rfl rfl rfl rfl (by decide) rfl hl.1 rfl (Nat.le_of_ble_eq_true rfl) (Nat.zero_le _) (Nat.zero_le _) dX3_findBest_25 (fun H locs hP hD hS => ?_)
          obtain ⟨j70, hj70, h⟩ := jn_e h
          have Jj70 : ∀ (x70_o_sign : Int32) (x70_o_sum : Int32) (x70_tried_found : Int32) (x70_f_tried_length : (Nat → Int32)) (x70_f_tried_order : (Nat → Int32)) (x70_f_tried_start : (Nat → Int32)) (H : Heap) (locs : List Loc) (ls : Array Slot), j70 x70_o_sign x70_o_sum x70_tried_found x70_f_tried_length x70_f_tried_order x70_f_tried_start = some z → va_P D vwCl [(a_tongue_left, .inl (cI, 30, .inl f_tongue_left)), (a_tried, .inr (1, [.ref a_tried_signs, .ref a_tried_length, .ref a_tried_order, .ref a_tried_start, .int x70_tried_found])), (a_tried_signs, .inr (4, [.ref a_tongue, .ref a_tried_signs_kept])), (a_tried_signs_kept, .inr (0, [w_tried_signs_kept_left, w_tried_signs_kept_signs, .ref a_tried_signs_kept_wordSets, .int tried_signs_kept_sayings, .int tried_signs_kept_words, .int tried_signs_kept_filled])), (a_tried_signs_kept_wordSets, .inl (cI, 3, .inl f_tried_signs_kept_wordSets)), (a_tried_length, .inl (cI, 512, .inl x70_f_tried_length)), (a_tried_order, .inl (cI, 512, .inl x70_f_tried_order)), (a_tried_start, .inl (cI, 34, .inl x70_f_tried_start)), (a_o, .inr (3, [.ref a_tongue, .ref a_tried, .int x70_o_sign, .int x70_o_sum, .int o_known])), (a_tongue, .inr (7, [.ref a_tongue_values, .ref a_tongue_left, .int tongue_choices, .int tongue_worlds])), (a_tongue_values, .inl (cI, 3, .inl f_tongue_values))] H → va_D A [(a_tongue_left, .inl (cI, 30, .inl f_tongue_left)), (a_tried, .inr (1, [.ref a_tried_signs, .ref a_tried_length, .ref a_tried_order, .ref a_tried_start, .int x70_tried_found])), (a_tried_signs, .inr (4, [.ref a_tongue, .ref a_tried_signs_kept])), (a_tried_signs_kept, .inr (0, [w_tried_signs_kept_left, w_tried_signs_kept_signs, .ref a_tried_signs_kept_wordSets, .int tried_signs_kept_sayings, .int tried_signs_kept_words, .int tried_signs_kept_filled])), (a_tried_signs_kept_wordSets, .inl (cI, 3, .inl f_tried_signs_kept_wordSets)), (a_tried_length, .inl (cI, 512, .inl x70_f_tried_length)), (a_tried_order, .inl (cI, 512, .inl x70_f_tried_order)), (a_tried_start, .inl (cI, 34, .inl x70_f_tried_start)), (a_o, .inr (3, [.ref a_tongue, .ref a_tried, .int x70_o_sign, .int x70_o_sum, .int o_known])), (a_tongue, .inr (7, [.ref a_tongue_values, .ref a_tongue_left, .int tongue_choices, .int tongue_worlds])), (a_tongue_values, .inl (cI, 3, .inl f_tongue_values))] → va_S A s.heap H locs → lv_has ls 3 [(0, .ref a_o), (1, .int x2_l1)] → W p l e rmX3_findBest s m args below meth c H locs 0 0 Q (F0 m 70 ls []) := by
            intro x70_o_sign x70_o_sum x70_tried_found x70_f_tried_length x70_f_tried_order x70_f_tried_start H locs ls h hP hD hS hl
            rw [hj70] at h
            refine lv_iinc (v := x2_l1 + 1) (lv' := [(1, .int (x2_l1 + 1)), (0, .ref a_o)]) hx hb dX3_findBest_70 hl (k := 1) rfl (congrArg (x2_l1 + ·) ic_1) (by decide) rfl (fun ls hl => ?_)
            refine lv_goto (tgt := 2) hx hb dX3_findBest_73 (by decide) ?_
            exact ih2 (x2_l1 + 1) x70_o_sign x70_o_sum x70_tried_found x70_f_tried_length x70_f_tried_order x70_f_tried_start H locs ls h (hP.sub [8, 9, 10, 0, 1, 2, 3, 4, 5, 6, 7] rfl) (hD.sub [8, 9, 10, 0, 1, 2, 3, 4, 5, 6, 7] (by decide) rfl) hS (lv_sub hl [1, 0] rfl)
          refine lv_if_eq (tgt := 70) hx hb dX3_findBest_28 (by decide) (fun c_28 => ?_) (fun c_28 => ?_)
          · replace h := it_e c_28 h
            exact Jj70 x2_o_sign x2_o_sum x2_tried_found x2_f_tried_length x2_f_tried_order x2_f_tried_start H locs ls h hP hD hS hl
          · replace h := if_e c_28 h
            refine lv_aload_n hx hb dX3_findBest_31 rfl (lv_at hl 0 rfl) ?_
            refine va_get (D := D) (ci := 3) (v := .ref a_tried) (C := RX3) (T := TX3) (N := 5) hx hb hts u_X3 hown hK hP 8 rfl rfl 1 (by decide) k_f2 (fun _ h9 => h9) rfl dX3_findBest_32 ?_
            refine lv_aload_n hx hb dX3_findBest_35 rfl (lv_at hl 0 rfl) ?_
            refine lv_iload_n hx hb dX3_findBest_36 rfl (lv_at hl 1 rfl) ?_
            obtain ⟨z_37, hc_37, h⟩ := bd_e h
            refine q_iV (As := [.int x2_l1]) (rest := [.ref a_tried]) (wF := [(a_tried, .inr (1, [.ref a_tried_signs, .ref a_tried_length, .ref a_tried_order, .ref a_tried_start, .int x2_tried_found])), (a_tried_signs, .inr (4, [.ref a_tongue, .ref a_tried_signs_kept])), (a_tried_signs_kept, .inr (0, [w_tried_signs_kept_left, w_tried_signs_kept_signs, .ref a_tried_signs_kept_wordSets, .int tried_signs_kept_sayings, .int tried_signs_kept_words, .int tried_signs_kept_filled])), (a_tried_signs_kept_wordSets, .inl (cI, 3, .inl f_tried_signs_kept_wordSets)), (a_tried_length, .inl (cI, 512, .inl x2_f_tried_length)), (a_tried_order, .inl (cI, 512, .inl x2_f_tried_order)), (a_tried_start, .inl (cI, 34, .inl x2_f_tried_start)), (a_tongue_values, .inl (cI, 3, .inl f_tongue_values)), (a_o, .inr (3, [.ref a_tongue, .ref a_tried, .int x2_o_sign, .int x2_o_sum, .int o_known])), (a_tongue, .inr (7, [.ref a_tongue_values, .ref a_tongue_left, .int tongue_choices, .int tongue_worlds])), (a_tongue_left, .inl (cI, 30, .inl f_tongue_left))]) hF hA hZ hK hP hD hS (c_X3_allBut l D cI cB cZ a_o (.ref a_tried) x2_o_sign x2_o_sum o_known a_tongue (.ref a_tongue_values) tongue_choices tongue_worlds a_tongue_left f_tongue_left x2_l1 z_37 hc_37) rfl gX3_findBest_X3_allBut hdX3_allBut ⟨rfl, rfl⟩ (Nat.le_of_ble_eq_true rfl) (Nat.le_of_ble_eq_true rfl) 3 0 rfl rfl [8, 9, 0] [1, 2, 3, 4, 5, 6, 7, 10] rfl rfl rfl rfl (by decide) rfl hl.1 rfl (Nat.le_of_ble_eq_true rfl) (Nat.zero_le _) (Nat.zero_le _) dX3_findBest_37 (fun H locs hP hD hS => ?_)
            obtain ⟨z_40, hc_40, h⟩ := bd_e h
            refine q_vV (As := [.int z_37]) (rest := []) (wF := [(a_o, .inr (3, [.ref a_tongue, .ref a_tried, .int x2_o_sign, .int x2_o_sum, .int o_known])), (a_tried, .inr (1, [.ref a_tried_signs, .ref a_tried_length, .ref a_tried_order, .ref a_tried_start, .int z_40.1])), (a_tried_signs, .inr (4, [.ref a_tongue, .ref a_tried_signs_kept])), (a_tongue, .inr (7, [.ref a_tongue_values, .ref a_tongue_left, .int tongue_choices, .int tongue_worlds])), (a_tongue_values, .inl (cI, 3, .inl f_tongue_values)), (a_tongue_left, .inl (cI, 30, .inl f_tongue_left)), (a_tried_signs_kept, .inr (0, [w_tried_signs_kept_left, w_tried_signs_kept_signs, .ref a_tried_signs_kept_wordSets, .int tried_signs_kept_sayings, .int tried_signs_kept_words, .int tried_signs_kept_filled])), (a_tried_signs_kept_wordSets, .inl (cI, 3, .inl f_tried_signs_kept_wordSets)), (a_tried_length, .inl (cI, 512, .inl z_40.2.1)), (a_tried_order, .inl (cI, 512, .inl z_40.2.2.1)), (a_tried_start, .inl (cI, 34, .inl z_40.2.2.2))]) hF hA hZ hK hP hD hS (c_X1_measure l D cI cB cZ a_tried x2_tried_found a_tried_signs a_tongue tongue_choices tongue_worlds a_tongue_values f_tongue_values a_tongue_left f_tongue_left a_tried_signs_kept w_tried_signs_kept_left w_tried_signs_kept_signs tried_signs_kept_sayings tried_signs_kept_words tried_signs_kept_filled a_tried_signs_kept_wordSets f_tried_signs_kept_wordSets a_tried_length x2_f_tried_length a_tried_order x2_f_tried_order a_tried_start x2_f_tried_start z_37 z_40 hc_40) rfl gX3_findBest_X1_measure hdX1_measure ⟨rfl, rfl⟩ (Nat.le_of_ble_eq_true rfl) (Nat.le_of_ble_eq_true rfl) 1 0 rfl rfl [0, 1, 9, 7, 10, 2, 3, 4, 5, 6] [8] rfl rfl rfl rfl (by decide) rfl hl.1 rfl (Nat.le_of_ble_eq_true rfl) (Nat.zero_le _) (Nat.zero_le _) dX3_findBest_40 (fun H locs hP hD hS => ?_)
            refine lv_aload_n hx hb dX3_findBest_43 rfl (lv_at hl 0 rfl) ?_
            obtain ⟨z_44, hc_44, h⟩ := bd_e h
            refine q_iV (As := []) (rest := []) (wF := [(a_tried_signs, .inr (4, [.ref a_tongue, .ref a_tried_signs_kept])), (a_tried_signs_kept, .inr (0, [w_tried_signs_kept_left, w_tried_signs_kept_signs, .ref a_tried_signs_kept_wordSets, .int tried_signs_kept_sayings, .int tried_signs_kept_words, .int tried_signs_kept_filled])), (a_tried_signs_kept_wordSets, .inl (cI, 3, .inl f_tried_signs_kept_wordSets)), (a_tried_order, .inl (cI, 512, .inl z_40.2.2.1)), (a_tried_start, .inl (cI, 34, .inl z_40.2.2.2)), (a_o, .inr (3, [.ref a_tongue, .ref a_tried, .int x2_o_sign, .int x2_o_sum, .int o_known])), (a_tongue, .inr (7, [.ref a_tongue_values, .ref a_tongue_left, .int tongue_choices, .int tongue_worlds])), (a_tongue_values, .inl (cI, 3, .inl f_tongue_values)), (a_tongue_left, .inl (cI, 30, .inl f_tongue_left)), (a_tried, .inr (1, [.ref a_tried_signs, .ref a_tried_length, .ref a_tried_order, .ref a_tried_start, .int z_40.1])), (a_tried_length, .inl (cI, 512, .inl z_40.2.1))]) hF hA hZ hK hP hD hS (c_X3_sumOfTried l D cI cB cZ a_o x2_o_sign x2_o_sum o_known a_tongue tongue_choices tongue_worlds a_tongue_values f_tongue_values a_tongue_left f_tongue_left a_tried (.ref a_tried_signs) (.ref a_tried_order) (.ref a_tried_start) z_40.1 a_tried_length z_40.2.1 z_44 hc_44) rfl gX3_findBest_X3_sumOfTried hdX3_sumOfTried ⟨rfl, rfl⟩ (Nat.le_of_ble_eq_true rfl) (Nat.le_of_ble_eq_true rfl) 3 0 rfl rfl [0, 3, 4, 5, 1, 8] [2, 6, 7, 9, 10] rfl rfl rfl rfl (by decide) rfl hl.1 rfl (Nat.le_of_ble_eq_true rfl) (Nat.zero_le _) (Nat.zero_le _) dX3_findBest_44 (fun H locs hP hD hS => ?_)
            refine lv_istore_n (lv' := [(2, .int z_44), (0, .ref a_o), (1, .int x2_l1)]) hx hb dX3_findBest_47 rfl hl (by decide) rfl (fun ls hl => ?_)
            refine lv_iload_n hx hb dX3_findBest_48 rfl (lv_at hl 2 rfl) ?_
            obtain ⟨j60, hj60, h⟩ := jn_e h
            have Jj60 : ∀ (H : Heap) (locs : List Loc) (ls : Array Slot), j60 () = some z → va_P D vwCl [(a_tried_signs, .inr (4, [.ref a_tongue, .ref a_tried_signs_kept])), (a_tried_signs_kept, .inr (0, [w_tried_signs_kept_left, w_tried_signs_kept_signs, .ref a_tried_signs_kept_wordSets, .int tried_signs_kept_sayings, .int tried_signs_kept_words, .int tried_signs_kept_filled])), (a_tried_signs_kept_wordSets, .inl (cI, 3, .inl f_tried_signs_kept_wordSets)), (a_tried_order, .inl (cI, 512, .inl z_40.2.2.1)), (a_tried_start, .inl (cI, 34, .inl z_40.2.2.2)), (a_o, .inr (3, [.ref a_tongue, .ref a_tried, .int x2_o_sign, .int x2_o_sum, .int o_known])), (a_tongue, .inr (7, [.ref a_tongue_values, .ref a_tongue_left, .int tongue_choices, .int tongue_worlds])), (a_tongue_values, .inl (cI, 3, .inl f_tongue_values)), (a_tongue_left, .inl (cI, 30, .inl f_tongue_left)), (a_tried, .inr (1, [.ref a_tried_signs, .ref a_tried_length, .ref a_tried_order, .ref a_tried_start, .int z_40.1])), (a_tried_length, .inl (cI, 512, .inl z_40.2.1))] H → va_D A [(a_tried_signs, .inr (4, [.ref a_tongue, .ref a_tried_signs_kept])), (a_tried_signs_kept, .inr (0, [w_tried_signs_kept_left, w_tried_signs_kept_signs, .ref a_tried_signs_kept_wordSets, .int tried_signs_kept_sayings, .int tried_signs_kept_words, .int tried_signs_kept_filled])), (a_tried_signs_kept_wordSets, .inl (cI, 3, .inl f_tried_signs_kept_wordSets)), (a_tried_order, .inl (cI, 512, .inl z_40.2.2.1)), (a_tried_start, .inl (cI, 34, .inl z_40.2.2.2)), (a_o, .inr (3, [.ref a_tongue, .ref a_tried, .int x2_o_sign, .int x2_o_sum, .int o_known])), (a_tongue, .inr (7, [.ref a_tongue_values, .ref a_tongue_left, .int tongue_choices, .int tongue_worlds])), (a_tongue_values, .inl (cI, 3, .inl f_tongue_values)), (a_tongue_left, .inl (cI, 30, .inl f_tongue_left)), (a_tried, .inr (1, [.ref a_tried_signs, .ref a_tried_length, .ref a_tried_order, .ref a_tried_start, .int z_40.1])), (a_tried_length, .inl (cI, 512, .inl z_40.2.1))] → va_S A s.heap H locs → lv_has ls 3 [(0, .ref a_o), (1, .int x2_l1), (2, .int z_44)] → W p l e rmX3_findBest s m args below meth c H locs 0 0 Q (F0 m 60 ls []) := by
              intro H locs ls h hP hD hS hl
              rw [hj60] at h
              refine lv_aload_n hx hb dX3_findBest_60 rfl (lv_at hl 0 rfl) ?_
              refine lv_iload_n hx hb dX3_findBest_61 rfl (lv_at hl 1 rfl) ?_
              refine va_put (D := D) (ci := 3) (v := .int x2_l1) (ty := .int) (C := RX3) (T := TX3) (N := 5) hx hb hts u_X3 tyX3 tyX3_ok nmX3 hown hK hP hD hS 5 rfl rfl 2 (by decide) k_f3 (fun _ h9 => h9) rfl (tyX3_ok 2 (by decide)) rfl rfl (Nat.le_of_ble_eq_true rfl) dX3_findBest_62 (fun H locs hP hD hS => ?_)
              have hP : va_P D vwCl [(a_tried_signs, .inr (4, [.ref a_tongue, .ref a_tried_signs_kept])), (a_tried_signs_kept, .inr (0, [w_tried_signs_kept_left, w_tried_signs_kept_signs, .ref a_tried_signs_kept_wordSets, .int tried_signs_kept_sayings, .int tried_signs_kept_words, .int tried_signs_kept_filled])), (a_tried_signs_kept_wordSets, .inl (cI, 3, .inl f_tried_signs_kept_wordSets)), (a_tried_order, .inl (cI, 512, .inl z_40.2.2.1)), (a_tried_start, .inl (cI, 34, .inl z_40.2.2.2)), (a_o, .inr (3, [.ref a_tongue, .ref a_tried, .int x2_l1, .int x2_o_sum, .int o_known])), (a_tongue, .inr (7, [.ref a_tongue_values, .ref a_tongue_left, .int tongue_choices, .int tongue_worlds])), (a_tongue_values, .inl (cI, 3, .inl f_tongue_values)), (a_tongue_left, .inl (cI, 30, .inl f_tongue_left)), (a_tried, .inr (1, [.ref a_tried_signs, .ref a_tried_length, .ref a_tried_order, .ref a_tried_start, .int z_40.1])), (a_tried_length, .inl (cI, 512, .inl z_40.2.1))] H := hP
              have hD : va_D A [(a_tried_signs, .inr (4, [.ref a_tongue, .ref a_tried_signs_kept])), (a_tried_signs_kept, .inr (0, [w_tried_signs_kept_left, w_tried_signs_kept_signs, .ref a_tried_signs_kept_wordSets, .int tried_signs_kept_sayings, .int tried_signs_kept_words, .int tried_signs_kept_filled])), (a_tried_signs_kept_wordSets, .inl (cI, 3, .inl f_tried_signs_kept_wordSets)), (a_tried_order, .inl (cI, 512, .inl z_40.2.2.1)), (a_tried_start, .inl (cI, 34, .inl z_40.2.2.2)), (a_o, .inr (3, [.ref a_tongue, .ref a_tried, .int x2_l1, .int x2_o_sum, .int o_known])), (a_tongue, .inr (7, [.ref a_tongue_values, .ref a_tongue_left, .int tongue_choices, .int tongue_worlds])), (a_tongue_values, .inl (cI, 3, .inl f_tongue_values)), (a_tongue_left, .inl (cI, 30, .inl f_tongue_left)), (a_tried, .inr (1, [.ref a_tried_signs, .ref a_tried_length, .ref a_tried_order, .ref a_tried_start, .int z_40.1])), (a_tried_length, .inl (cI, 512, .inl z_40.2.1))] := hD
              refine lv_aload_n hx hb dX3_findBest_65 rfl (lv_at hl 0 rfl) ?_
              refine lv_iload_n hx hb dX3_findBest_66 rfl (lv_at hl 2 rfl) ?_
              refine va_put (D := D) (ci := 3) (v := .int z_44) (ty := .int) (C := RX3) (T := TX3) (N := 5) hx hb hts u_X3 tyX3 tyX3_ok nmX3 hown hK hP hD hS 5 rfl rfl 3 (by decide) k_f4 (fun _ h9 => h9) rfl (tyX3_ok 3 (by decide)) rfl rfl (Nat.le_of_ble_eq_true rfl) dX3_findBest_67 (fun H locs hP hD hS => ?_)
              have hP : va_P D vwCl [(a_tried_signs, .inr (4, [.ref a_tongue, .ref a_tried_signs_kept])), (a_tried_signs_kept, .inr (0, [w_tried_signs_kept_left, w_tried_signs_kept_signs, .ref a_tried_signs_kept_wordSets, .int tried_signs_kept_sayings, .int tried_signs_kept_words, .int tried_signs_kept_filled])), (a_tried_signs_kept_wordSets, .inl (cI, 3, .inl f_tried_signs_kept_wordSets)), (a_tried_order, .inl (cI, 512, .inl z_40.2.2.1)), (a_tried_start, .inl (cI, 34, .inl z_40.2.2.2)), (a_o, .inr (3, [.ref a_tongue, .ref a_tried, .int x2_l1, .int z_44, .int o_known])), (a_tongue, .inr (7, [.ref a_tongue_values, .ref a_tongue_left, .int tongue_choices, .int tongue_worlds])), (a_tongue_values, .inl (cI, 3, .inl f_tongue_values)), (a_tongue_left, .inl (cI, 30, .inl f_tongue_left)), (a_tried, .inr (1, [.ref a_tried_signs, .ref a_tried_length, .ref a_tried_order, .ref a_tried_start, .int z_40.1])), (a_tried_length, .inl (cI, 512, .inl z_40.2.1))] H := hP
              have hD : va_D A [(a_tried_signs, .inr (4, [.ref a_tongue, .ref a_tried_signs_kept])), (a_tried_signs_kept, .inr (0, [w_tried_signs_kept_left, w_tried_signs_kept_signs, .ref a_tried_signs_kept_wordSets, .int tried_signs_kept_sayings, .int tried_signs_kept_words, .int tried_signs_kept_filled])), (a_tried_signs_kept_wordSets, .inl (cI, 3, .inl f_tried_signs_kept_wordSets)), (a_tried_order, .inl (cI, 512, .inl z_40.2.2.1)), (a_tried_start, .inl (cI, 34, .inl z_40.2.2.2)), (a_o, .inr (3, [.ref a_tongue, .ref a_tried, .int x2_l1, .int z_44, .int o_known])), (a_tongue, .inr (7, [.ref a_tongue_values, .ref a_tongue_left, .int tongue_choices, .int tongue_worlds])), (a_tongue_values, .inl (cI, 3, .inl f_tongue_values)), (a_tongue_left, .inl (cI, 30, .inl f_tongue_left)), (a_tried, .inr (1, [.ref a_tried_signs, .ref a_tried_length, .ref a_tried_order, .ref a_tried_start, .int z_40.1])), (a_tried_length, .inl (cI, 512, .inl z_40.2.1))] := hD
              exact Jj70 x2_l1 z_44 z_40.1 z_40.2.1 z_40.2.2.1 z_40.2.2.2 H locs ls h (hP.sub [8, 9, 0, 1, 2, 10, 3, 4, 5, 6, 7] rfl) (hD.sub [8, 9, 0, 1, 2, 10, 3, 4, 5, 6, 7] (by decide) rfl) hS (lv_sub hl [0, 1] rfl)
            refine lv_if_eq (tgt := 60) hx hb dX3_findBest_49 (by decide) (fun c_49 => ?_) (fun c_49 => ?_)
            · replace h := it_e c_49 h
              exact Jj60  H locs ls h hP hD hS (lv_sub hl [1, 2, 0] rfl)
            · replace h := if_e c_49 h
              refine lv_iload_n hx hb dX3_findBest_52 rfl (lv_at hl 0 rfl) ?_
              refine lv_aload_n hx hb dX3_findBest_53 rfl (lv_at hl 1 rfl) ?_
              refine va_get (D := D) (ci := 3) (v := .int x2_o_sum) (C := RX3) (T := TX3) (N := 5) hx hb hts u_X3 hown hK hP 5 rfl rfl 3 (by decide) k_f4 (fun _ h9 => h9) rfl dX3_findBest_54 ?_
              refine lv_icmp_ge (tgt := 70) hx hb dX3_findBest_57 (by decide) (fun c_57 => ?_) (fun c_57 => ?_)
              · replace h := it_e c_57 h
                exact Jj70 x2_o_sign x2_o_sum z_40.1 z_40.2.1 z_40.2.2.1 z_40.2.2.2 H locs ls h (hP.sub [8, 9, 0, 1, 2, 10, 3, 4, 5, 6, 7] rfl) (hD.sub [8, 9, 0, 1, 2, 10, 3, 4, 5, 6, 7] (by decide) rfl) hS (lv_sub hl [1, 2] rfl)
              · replace h := if_e c_57 h
                exact Jj60  H locs ls h hP hD hS (lv_sub hl [1, 2, 0] rfl)
  exact L2 QF 0 o_sign o_sum tried_found f_tried_length f_tried_order f_tried_start H locs ls h hP hD hS (lv_sub hl [1, 0] rfl)
abbrev rmX3_bestSign : Room := { frames := 0, cells := 0, slots := 0, locals := 0 }
theorem hdX3_bestSign : yX3_bestSign.cls = RX3 ∧ yX3_bestSign.cls ≠ "java/lang/invoke/MethodHandle" ∧ yX3_bestSign.cls ≠ "java/lang/invoke/VarHandle" ∧ (parseMethodDescriptor yX3_bestSign.desc).map (fun d => d.parameters.length) = some 0 := by decide +kernel
set_option maxRecDepth 100000 in
set_option maxHeartbeats 4000000 in
theorem c_X3_bestSign (l : Launch) (D : va_G) (cI cB cZ : ClassId) (a_o : Nat) (w_o_tongue : Value) (w_o_tried : Value) (o_sign : Int32) (o_sum : Int32) (o_known : Int32) (z : Int32) (h : P_X3_bestSign o_sign = some z) : KI l yX3_bestSign wsX3_bestSign rmX3_bestSign D [(cI, .int), (cB, .byte), (cZ, .boolean)] [.ref a_o] [(a_o, .inr (3, [w_o_tongue, w_o_tried, .int o_sign, .int o_sum, .int o_known]))] [(a_o, .inr (3, [w_o_tongue, w_o_tried, .int o_sign, .int o_sum, .int o_known]))] z := by
  refine KI_of (own := RX3) (cc := cX3_bestSign) (maxL := 1) (ret := some .int) (by decide) rfl rfl (Nat.le_of_ble_eq_true rfl) (Or.inl rfl) ?_
  intro p e s m args below meth c A Q hx hb hml hown hts hA hZ hK hret H locs ls hP hD hS hl
  have hl : lv_has ls 1 [(0, .ref a_o)] := hl
  have hF : CallFix p m c cX3_bestSign 1 s args wsX3_bestSign RX3 := ⟨hx, hb, hml, hown, hts⟩
  have u_X3 : ∀ w ∈ u_ws RX3 TX3 5, w ∈ wsX3_bestSign := by decide +kernel
  have k_f0 := hts (.fieldLink RX3 7 "NoWordNo$Refusals" "sign" "I") (by decide +kernel)
  unfold P_X3_bestSign at h
  refine lv_aload_n hx hb dX3_bestSign_0 rfl (lv_at hl 0 rfl) ?_
  refine va_get (D := D) (ci := 3) (v := .int o_sign) (C := RX3) (T := TX3) (N := 5) hx hb hts u_X3 hown hK hP 0 rfl rfl 2 (by decide) k_f0 (fun _ h9 => h9) rfl dX3_bestSign_1 ?_
  have hz := Option.some.inj h
  subst hz
  exact hret H locs 4 ls (fun ty h => by cases h; rfl) hP hD hS dX3_bestSign_4
abbrev rmX3_bestSum : Room := { frames := 0, cells := 0, slots := 0, locals := 0 }
theorem hdX3_bestSum : yX3_bestSum.cls = RX3 ∧ yX3_bestSum.cls ≠ "java/lang/invoke/MethodHandle" ∧ yX3_bestSum.cls ≠ "java/lang/invoke/VarHandle" ∧ (parseMethodDescriptor yX3_bestSum.desc).map (fun d => d.parameters.length) = some 0 := by decide +kernel
set_option maxRecDepth 100000 in
set_option maxHeartbeats 4000000 in
theorem c_X3_bestSum (l : Launch) (D : va_G) (cI cB cZ : ClassId) (a_o : Nat) (w_o_tongue : Value) (w_o_tried : Value) (o_sign : Int32) (o_sum : Int32) (o_known : Int32) (z : Int32) (h : P_X3_bestSum o_sum = some z) : KI l yX3_bestSum wsX3_bestSum rmX3_bestSum D [(cI, .int), (cB, .byte), (cZ, .boolean)] [.ref a_o] [(a_o, .inr (3, [w_o_tongue, w_o_tried, .int o_sign, .int o_sum, .int o_known]))] [(a_o, .inr (3, [w_o_tongue, w_o_tried, .int o_sign, .int o_sum, .int o_known]))] z := by
  refine KI_of (own := RX3) (cc := cX3_bestSum) (maxL := 1) (ret := some .int) (by decide) rfl rfl (Nat.le_of_ble_eq_true rfl) (Or.inl rfl) ?_
  intro p e s m args below meth c A Q hx hb hml hown hts hA hZ hK hret H locs ls hP hD hS hl
  have hl : lv_has ls 1 [(0, .ref a_o)] := hl
  have hF : CallFix p m c cX3_bestSum 1 s args wsX3_bestSum RX3 := ⟨hx, hb, hml, hown, hts⟩
  have u_X3 : ∀ w ∈ u_ws RX3 TX3 5, w ∈ wsX3_bestSum := by decide +kernel
  have k_f0 := hts (.fieldLink RX3 13 "NoWordNo$Refusals" "sum" "I") (by decide +kernel)
  unfold P_X3_bestSum at h
  refine lv_aload_n hx hb dX3_bestSum_0 rfl (lv_at hl 0 rfl) ?_
  refine va_get (D := D) (ci := 3) (v := .int o_sum) (C := RX3) (T := TX3) (N := 5) hx hb hts u_X3 hown hK hP 0 rfl rfl 3 (by decide) k_f0 (fun _ h9 => h9) rfl dX3_bestSum_1 ?_
  have hz := Option.some.inj h
  subst hz
  exact hret H locs 4 ls (fun ty h => by cases h; rfl) hP hD hS dX3_bestSum_4
abbrev rmX10_saves : Room := { frames := 6, cells := 0, slots := 0, locals := 134 }
theorem hdX10_saves : yX10_saves.cls = RX10 ∧ yX10_saves.cls ≠ "java/lang/invoke/MethodHandle" ∧ yX10_saves.cls ≠ "java/lang/invoke/VarHandle" ∧ (parseMethodDescriptor yX10_saves.desc).map (fun d => d.parameters.length) = some 1 := by decide +kernel
set_option maxRecDepth 100000 in
set_option maxHeartbeats 4000000 in
theorem c_X10_saves (l : Launch) (D : va_G) (cI cB cZ : ClassId) (a_o : Nat) (w_o_text : Value) (w_o_image0 : Value) (w_o_image1 : Value) (w_o_reader : Value) (w_o_lengths : Value) (w_o_two : Value) (o_measured : Int32) (o_traced : Int64) (a_speech : Nat) (speech_choices : Int32) (speech_worlds : Int32) (a_speech_values : Nat) (f_speech_values : Nat → Int32) (a_speech_left : Nat) (f_speech_left : Nat → Int32) (a_now : Nat) (w_now_left : Value) (w_now_signs : Value) (now_sayings : Int32) (now_words : Int32) (now_filled : Int32) (a_now_wordSets : Nat) (f_now_wordSets : Nat → Int32) (a_signs : Nat) (a_refusals : Nat) (refusals_sign : Int32) (refusals_sum : Int32) (refusals_known : Int32) (a_refusals_tried : Nat) (refusals_tried_found : Int32) (a_refusals_tried_length : Nat) (f_refusals_tried_length : Nat → Int32) (a_refusals_tried_order : Nat) (f_refusals_tried_order : Nat → Int32) (a_refusals_tried_start : Nat) (f_refusals_tried_start : Nat → Int32) (p1 : Int32) (z : Int32 × Int32 × Int32 × Int32 × Int32 × (Nat → Int32) × (Nat → Int32) × (Nat → Int32)) (h : P_X10_saves p1 speech_choices speech_worlds f_speech_values f_speech_left now_words f_now_wordSets refusals_sign refusals_sum refusals_known refusals_tried_found f_refusals_tried_length f_refusals_tried_order f_refusals_tried_start = some z) : KI l yX10_saves wsX10_saves rmX10_saves D [(cI, .int), (cB, .byte), (cZ, .boolean)] [.ref a_o, .int p1] [(a_o, .inr (9, [w_o_text, .ref a_speech, .ref a_now, w_o_image0, w_o_image1, .ref a_signs, w_o_reader, w_o_lengths, .ref a_refusals, w_o_two, .int o_measured, .long o_traced])), (a_speech, .inr (7, [.ref a_speech_values, .ref a_speech_left, .int speech_choices, .int speech_worlds])), (a_speech_values, .inl (cI, 3, .inl f_speech_values)), (a_speech_left, .inl (cI, 30, .inl f_speech_left)), (a_now, .inr (0, [w_now_left, w_now_signs, .ref a_now_wordSets, .int now_sayings, .int now_words, .int now_filled])), (a_now_wordSets, .inl (cI, 3, .inl f_now_wordSets)), (a_signs, .inr (4, [.ref a_speech, .ref a_now])), (a_refusals, .inr (3, [.ref a_speech, .ref a_refusals_tried, .int refusals_sign, .int refusals_sum, .int refusals_known])), (a_refusals_tried, .inr (1, [.ref a_signs, .ref a_refusals_tried_length, .ref a_refusals_tried_order, .ref a_refusals_tried_start, .int refusals_tried_found])), (a_refusals_tried_length, .inl (cI, 512, .inl f_refusals_tried_length)), (a_refusals_tried_order, .inl (cI, 512, .inl f_refusals_tried_order)), (a_refusals_tried_start, .inl (cI, 34, .inl f_refusals_tried_start))] [(a_o, .inr (9, [w_o_text, .ref a_speech, .ref a_now, w_o_image0, w_o_image1, .ref a_signs, w_o_reader, w_o_lengths, .ref a_refusals, w_o_two, .int o_measured, .long o_traced])), (a_speech, .inr (7, [.ref a_speech_values, .ref a_speech_left, .int speech_choices, .int speech_worlds])), (a_speech_values, .inl (cI, 3, .inl f_speech_values)), (a_speech_left, .inl (cI, 30, .inl f_speech_left)), (a_now, .inr (0, [w_now_left, w_now_signs, .ref a_now_wordSets, .int now_sayings, .int now_words, .int now_filled])), (a_now_wordSets, .inl (cI, 3, .inl f_now_wordSets)), (a_signs, .inr (4, [.ref a_speech, .ref a_now])), (a_refusals, .inr (3, [.ref a_speech, .ref a_refusals_tried, .int z.2.1, .int z.2.2.1, .int z.2.2.2.1])), (a_refusals_tried, .inr (1, [.ref a_signs, .ref a_refusals_tried_length, .ref a_refusals_tried_order, .ref a_refusals_tried_start, .int z.2.2.2.2.1])), (a_refusals_tried_length, .inl (cI, 512, .inl z.2.2.2.2.2.1)), (a_refusals_tried_order, .inl (cI, 512, .inl z.2.2.2.2.2.2.1)), (a_refusals_tried_start, .inl (cI, 34, .inl z.2.2.2.2.2.2.2))] z.1 := by
  refine KI_of (own := RX10) (cc := cX10_saves) (maxL := 2) (ret := some .int) (by decide) rfl rfl (Nat.le_of_ble_eq_true rfl) (Or.inl rfl) ?_
  intro p e s m args below meth c A Q hx hb hml hown hts hA hZ hK hret H locs ls hP hD hS hl
  have hl : lv_has ls 2 [(0, .ref a_o), (1, .int p1)] := hl
  have hF : CallFix p m c cX10_saves 2 s args wsX10_saves RX10 := ⟨hx, hb, hml, hown, hts⟩
  have u_X10 : ∀ w ∈ u_ws RX10 TX10 12, w ∈ wsX10_saves := by decide +kernel
  have k_f0 := hts (.fieldLink RX10 26 "NoWordNo" "now" "LNoWordNo$Kept;") (by decide +kernel)
  have k_f1 := hts (.fieldLink RX10 19 "NoWordNo" "speech" "LNoWordNo$Tongue;") (by decide +kernel)
  have k_f2 := hts (.fieldLink RX10 68 "NoWordNo" "refusals" "LNoWordNo$Refusals;") (by decide +kernel)
  unfold P_X10_saves at h
  refine lv_iload_n hx hb dX10_saves_0 rfl (lv_at hl 1 rfl) ?_
  refine lv_if_lt (tgt := 9) hx hb dX10_saves_1 (by decide) (fun c_1 => ?_) (fun c_1 => ?_)
  · replace h := it_e c_1 h
    refine lv_iconst (v := (-1)) hx hb dX10_saves_9 ic_m1 ?_
    have hz := Option.some.inj h
    subst hz
    exact hret H locs 10 ls (fun ty h => by cases h; rfl) hP hD hS dX10_saves_10
  · replace h := if_e c_1 h
    refine lv_iload_n hx hb dX10_saves_4 rfl (lv_at hl 1 rfl) ?_
    refine lv_iconst (v := 1) hx hb dX10_saves_5 ic_1 ?_
    refine lv_icmp_le (tgt := 11) hx hb dX10_saves_6 (by decide) (fun c_6 => ?_) (fun c_6 => ?_)
    · replace h := it_e c_6 h
      refine lv_aload_n hx hb dX10_saves_11 rfl (lv_at hl 0 rfl) ?_
      refine va_get (D := D) (ci := 9) (v := .ref a_now) (C := RX10) (T := TX10) (N := 12) hx hb hts u_X10 hown hK hP 0 rfl rfl 2 (by decide) k_f0 (fun _ h9 => h9) rfl dX10_saves_12 ?_
      obtain ⟨z_15, hc_15, h⟩ := bd_e h
      refine q_iV (As := []) (rest := []) (wF := [(a_o, .inr (9, [w_o_text, .ref a_speech, .ref a_now, w_o_image0, w_o_image1, .ref a_signs, w_o_reader, w_o_lengths, .ref a_refusals, w_o_two, .int o_measured, .long o_traced])), (a_speech, .inr (7, [.ref a_speech_values, .ref a_speech_left, .int speech_choices, .int speech_worlds])), (a_speech_values, .inl (cI, 3, .inl f_speech_values)), (a_speech_left, .inl (cI, 30, .inl f_speech_left)), (a_now_wordSets, .inl (cI, 3, .inl f_now_wordSets)), (a_signs, .inr (4, [.ref a_speech, .ref a_now])), (a_refusals, .inr (3, [.ref a_speech, .ref a_refusals_tried, .int refusals_sign, .int refusals_sum, .int refusals_known])), (a_refusals_tried, .inr (1, [.ref a_signs, .ref a_refusals_tried_length, .ref a_refusals_tried_order, .ref a_refusals_tried_start, .int refusals_tried_found])), (a_refusals_tried_length, .inl (cI, 512, .inl f_refusals_tried_length)), (a_refusals_tried_order, .inl (cI, 512, .inl f_refusals_tried_order)), (a_refusals_tried_start, .inl (cI, 34, .inl f_refusals_tried_start)), (a_now, .inr (0, [w_now_left, w_now_signs, .ref a_now_wordSets, .int now_sayings, .int now_words, .int now_filled]))]) hF hA hZ hK hP hD hS (c_X0_words l D cI cB cZ a_now w_now_left w_now_signs (.ref a_now_wordSets) now_sayings now_words now_filled z_15 hc_15) rfl gX10_saves_X0_words hdX0_words ⟨rfl, rfl⟩ (Nat.le_of_ble_eq_true rfl) (Nat.le_of_ble_eq_true rfl) 0 0 rfl rfl [4] [0, 1, 2, 3, 5, 6, 7, 8, 9, 10, 11] rfl rfl rfl rfl (by decide) rfl hl.1 rfl (Nat.le_of_ble_eq_true rfl) (Nat.zero_le _) (Nat.zero_le _) dX10_saves_15 (fun H locs hP hD hS => ?_)
      refine lv_iconst (v := 3) hx hb dX10_saves_18 ic_3 ?_
      refine lv_icmp_lt (tgt := 25) hx hb dX10_saves_19 (by decide) (fun c_19 => ?_) (fun c_19 => ?_)
      · replace h := it_e c_19 h
        refine lv_aload_n hx hb dX10_saves_25 rfl (lv_at hl 0 rfl) ?_
        refine va_get (D := D) (ci := 9) (v := .ref a_speech) (C := RX10) (T := TX10) (N := 12) hx hb hts u_X10 hown hK hP 0 rfl rfl 1 (by decide) k_f1 (fun _ h9 => h9) rfl dX10_saves_26 ?_
        obtain ⟨z_29, hc_29, h⟩ := bd_e h
        refine q_iV (As := []) (rest := []) (wF := [(a_o, .inr (9, [w_o_text, .ref a_speech, .ref a_now, w_o_image0, w_o_image1, .ref a_signs, w_o_reader, w_o_lengths, .ref a_refusals, w_o_two, .int o_measured, .long o_traced])), (a_speech_values, .inl (cI, 3, .inl f_speech_values)), (a_speech_left, .inl (cI, 30, .inl f_speech_left)), (a_now_wordSets, .inl (cI, 3, .inl f_now_wordSets)), (a_signs, .inr (4, [.ref a_speech, .ref a_now])), (a_refusals, .inr (3, [.ref a_speech, .ref a_refusals_tried, .int refusals_sign, .int refusals_sum, .int refusals_known])), (a_refusals_tried, .inr (1, [.ref a_signs, .ref a_refusals_tried_length, .ref a_refusals_tried_order, .ref a_refusals_tried_start, .int refusals_tried_found])), (a_refusals_tried_length, .inl (cI, 512, .inl f_refusals_tried_length)), (a_refusals_tried_order, .inl (cI, 512, .inl f_refusals_tried_order)), (a_refusals_tried_start, .inl (cI, 34, .inl f_refusals_tried_start)), (a_now, .inr (0, [w_now_left, w_now_signs, .ref a_now_wordSets, .int now_sayings, .int now_words, .int now_filled])), (a_speech, .inr (7, [.ref a_speech_values, .ref a_speech_left, .int speech_choices, .int speech_worlds]))]) hF hA hZ hK hP hD hS (c_X8_choices l D cI cB cZ a_speech (.ref a_speech_values) (.ref a_speech_left) speech_choices speech_worlds z_29 hc_29) rfl gX10_saves_X8_choices hdX8_choices ⟨rfl, rfl⟩ (Nat.le_of_ble_eq_true rfl) (Nat.le_of_ble_eq_true rfl) 7 0 rfl rfl [1] [0, 2, 3, 4, 5, 6, 7, 8, 9, 10, 11] rfl rfl rfl rfl (by decide) rfl hl.1 rfl (Nat.le_of_ble_eq_true rfl) (Nat.zero_le _) (Nat.zero_le _) dX10_saves_29 (fun H locs hP hD hS => ?_)
        refine lv_if_ne (tgt := 38) hx hb dX10_saves_32 (by decide) (fun c_32 => ?_) (fun c_32 => ?_)
        · replace h := if_e c_32 h
          refine lv_aload_n hx hb dX10_saves_38 rfl (lv_at hl 0 rfl) ?_
          refine va_get (D := D) (ci := 9) (v := .ref a_refusals) (C := RX10) (T := TX10) (N := 12) hx hb hts u_X10 hown hK hP 0 rfl rfl 8 (by decide) k_f2 (fun _ h9 => h9) rfl dX10_saves_39 ?_
          obtain ⟨z_42, hc_42, h⟩ := bd_e h
          refine q_vV (As := []) (rest := []) (wF := [(a_o, .inr (9, [w_o_text, .ref a_speech, .ref a_now, w_o_image0, w_o_image1, .ref a_signs, w_o_reader, w_o_lengths, .ref a_refusals, w_o_two, .int o_measured, .long o_traced])), (a_refusals, .inr (3, [.ref a_speech, .ref a_refusals_tried, .int z_42.1, .int z_42.2.1, .int z_42.2.2.1])), (a_speech, .inr (7, [.ref a_speech_values, .ref a_speech_left, .int speech_choices, .int speech_worlds])), (a_speech_values, .inl (cI, 3, .inl f_speech_values)), (a_speech_left, .inl (cI, 30, .inl f_speech_left)), (a_refusals_tried, .inr (1, [.ref a_signs, .ref a_refusals_tried_length, .ref a_refusals_tried_order, .ref a_refusals_tried_start, .int z_42.2.2.2.1])), (a_signs, .inr (4, [.ref a_speech, .ref a_now])), (a_now, .inr (0, [w_now_left, w_now_signs, .ref a_now_wordSets, .int now_sayings, .int now_words, .int now_filled])), (a_now_wordSets, .inl (cI, 3, .inl f_now_wordSets)), (a_refusals_tried_length, .inl (cI, 512, .inl z_42.2.2.2.2.1)), (a_refusals_tried_order, .inl (cI, 512, .inl z_42.2.2.2.2.2.1)), (a_refusals_tried_start, .inl (cI, 34, .inl z_42.2.2.2.2.2.2))]) hF hA hZ hK hP hD hS (c_X3_findBest l D cI cB cZ a_refusals refusals_sign refusals_sum refusals_known a_speech speech_choices speech_worlds a_speech_values f_speech_values a_speech_left f_speech_left a_refusals_tried refusals_tried_found a_signs a_now w_now_left w_now_signs now_sayings now_words now_filled a_now_wordSets f_now_wordSets a_refusals_tried_length f_refusals_tried_length a_refusals_tried_order f_refusals_tried_order a_refusals_tried_start f_refusals_tried_start z_42 hc_42) rfl gX10_saves_X3_findBest hdX3_findBest ⟨rfl, rfl⟩ (Nat.le_of_ble_eq_true rfl) (Nat.le_of_ble_eq_true rfl) 3 0 rfl rfl [5, 11, 1, 2, 6, 4, 10, 3, 7, 8, 9] [0] rfl rfl rfl rfl (by decide) rfl hl.1 rfl (Nat.le_of_ble_eq_true rfl) (Nat.zero_le _) (Nat.zero_le _) dX10_saves_42 (fun H locs hP hD hS => ?_)
          refine lv_iload_n hx hb dX10_saves_45 rfl (lv_at hl 1 rfl) ?_
          refine lv_if_ne (tgt := 59) hx hb dX10_saves_46 (by decide) (fun c_46 => ?_) (fun c_46 => ?_)
          · replace h := if_e c_46 h
            refine lv_aload_n hx hb dX10_saves_59 rfl (lv_at hl 0 rfl) ?_
            refine va_get (D := D) (ci := 9) (v := .ref a_refusals) (C := RX10) (T := TX10) (N := 12) hx hb hts u_X10 hown hK hP 0 rfl rfl 8 (by decide) k_f2 (fun _ h9 => h9) rfl dX10_saves_60 ?_
            obtain ⟨z_63, hc_63, h⟩ := bd_e h
            refine q_iV (As := []) (rest := []) (wF := [(a_o, .inr (9, [w_o_text, .ref a_speech, .ref a_now, w_o_image0, w_o_image1, .ref a_signs, w_o_reader, w_o_lengths, .ref a_refusals, w_o_two, .int o_measured, .long o_traced])), (a_speech, .inr (7, [.ref a_speech_values, .ref a_speech_left, .int speech_choices, .int speech_worlds])), (a_speech_values, .inl (cI, 3, .inl f_speech_values)), (a_speech_left, .inl (cI, 30, .inl f_speech_left)), (a_refusals_tried, .inr (1, [.ref a_signs, .ref a_refusals_tried_length, .ref a_refusals_tried_order, .ref a_refusals_tried_start, .int z_42.2.2.2.1])), (a_signs, .inr (4, [.ref a_speech, .ref a_now])), (a_now, .inr (0, [w_now_left, w_now_signs, .ref a_now_wordSets, .int now_sayings, .int now_words, .int now_filled])), (a_now_wordSets, .inl (cI, 3, .inl f_now_wordSets)), (a_refusals_tried_length, .inl (cI, 512, .inl z_42.2.2.2.2.1)), (a_refusals_tried_order, .inl (cI, 512, .inl z_42.2.2.2.2.2.1)), (a_refusals_tried_start, .inl (cI, 34, .inl z_42.2.2.2.2.2.2)), (a_refusals, .inr (3, [.ref a_speech, .ref a_refusals_tried, .int z_42.1, .int z_42.2.1, .int z_42.2.2.1]))]) hF hA hZ hK hP hD hS (c_X3_bestSum l D cI cB cZ a_refusals (.ref a_speech) (.ref a_refusals_tried) z_42.1 z_42.2.1 z_42.2.2.1 z_63 hc_63) rfl gX10_saves_X3_bestSum hdX3_bestSum ⟨rfl, rfl⟩ (Nat.le_of_ble_eq_true rfl) (Nat.le_of_ble_eq_true rfl) 3 0 rfl rfl [1] [0, 2, 3, 4, 5, 6, 7, 8, 9, 10, 11] rfl rfl rfl rfl (by decide) rfl hl.1 rfl (Nat.le_of_ble_eq_true rfl) (Nat.zero_le _) (Nat.zero_le _) dX10_saves_63 (fun H locs hP hD hS => ?_)
            have hz := Option.some.inj h
            subst hz
            exact hret H locs 66 ls (fun ty h => by cases h; rfl) (hP.sub [0, 1, 2, 3, 6, 7, 5, 11, 4, 8, 9, 10] rfl) (hD.sub [0, 1, 2, 3, 6, 7, 5, 11, 4, 8, 9, 10] (by decide) rfl) hS dX10_saves_66
          · replace h := it_e c_46 h
            refine lv_aload_n hx hb dX10_saves_49 rfl (lv_at hl 0 rfl) ?_
            refine va_get (D := D) (ci := 9) (v := .ref a_refusals) (C := RX10) (T := TX10) (N := 12) hx hb hts u_X10 hown hK hP 0 rfl rfl 8 (by decide) k_f2 (fun _ h9 => h9) rfl dX10_saves_50 ?_
            obtain ⟨z_53, hc_53, h⟩ := bd_e h
            refine q_iV (As := []) (rest := []) (wF := [(a_o, .inr (9, [w_o_text, .ref a_speech, .ref a_now, w_o_image0, w_o_image1, .ref a_signs, w_o_reader, w_o_lengths, .ref a_refusals, w_o_two, .int o_measured, .long o_traced])), (a_speech, .inr (7, [.ref a_speech_values, .ref a_speech_left, .int speech_choices, .int speech_worlds])), (a_speech_values, .inl (cI, 3, .inl f_speech_values)), (a_speech_left, .inl (cI, 30, .inl f_speech_left)), (a_refusals_tried, .inr (1, [.ref a_signs, .ref a_refusals_tried_length, .ref a_refusals_tried_order, .ref a_refusals_tried_start, .int z_42.2.2.2.1])), (a_signs, .inr (4, [.ref a_speech, .ref a_now])), (a_now, .inr (0, [w_now_left, w_now_signs, .ref a_now_wordSets, .int now_sayings, .int now_words, .int now_filled])), (a_now_wordSets, .inl (cI, 3, .inl f_now_wordSets)), (a_refusals_tried_length, .inl (cI, 512, .inl z_42.2.2.2.2.1)), (a_refusals_tried_order, .inl (cI, 512, .inl z_42.2.2.2.2.2.1)), (a_refusals_tried_start, .inl (cI, 34, .inl z_42.2.2.2.2.2.2)), (a_refusals, .inr (3, [.ref a_speech, .ref a_refusals_tried, .int z_42.1, .int z_42.2.1, .int z_42.2.2.1]))]) hF hA hZ hK hP hD hS (c_X3_bestSign l D cI cB cZ a_refusals (.ref a_speech) (.ref a_refusals_tried) z_42.1 z_42.2.1 z_42.2.2.1 z_53 hc_53) rfl gX10_saves_X3_bestSign hdX3_bestSign ⟨rfl, rfl⟩ (Nat.le_of_ble_eq_true rfl) (Nat.le_of_ble_eq_true rfl) 3 0 rfl rfl [1] [0, 2, 3, 4, 5, 6, 7, 8, 9, 10, 11] rfl rfl rfl rfl (by decide) rfl hl.1 rfl (Nat.le_of_ble_eq_true rfl) (Nat.zero_le _) (Nat.zero_le _) dX10_saves_53 (fun H locs hP hD hS => ?_)
            refine lv_goto (tgt := 66) hx hb dX10_saves_56 (by decide) ?_
            have hz := Option.some.inj h
            subst hz
            exact hret H locs 66 ls (fun ty h => by cases h; rfl) (hP.sub [0, 1, 2, 3, 6, 7, 5, 11, 4, 8, 9, 10] rfl) (hD.sub [0, 1, 2, 3, 6, 7, 5, 11, 4, 8, 9, 10] (by decide) rfl) hS dX10_saves_66
        · replace h := it_e c_32 h
          refine lv_bipush (v := (-9)) hx hb dX10_saves_35 bc_m9 ?_
          have hz := Option.some.inj h
          subst hz
          exact hret H locs 37 ls (fun ty h => by cases h; rfl) (hP.sub [0, 11, 1, 2, 10, 3, 4, 5, 6, 7, 8, 9] rfl) (hD.sub [0, 11, 1, 2, 10, 3, 4, 5, 6, 7, 8, 9] (by decide) rfl) hS dX10_saves_37
      · replace h := if_e c_19 h
        refine lv_bipush (v := (-3)) hx hb dX10_saves_22 bc_m3 ?_
        have hz := Option.some.inj h
        subst hz
        exact hret H locs 24 ls (fun ty h => by cases h; rfl) (hP.sub [0, 1, 2, 3, 11, 4, 5, 6, 7, 8, 9, 10] rfl) (hD.sub [0, 1, 2, 3, 11, 4, 5, 6, 7, 8, 9, 10] (by decide) rfl) hS dX10_saves_24
    · replace h := if_e c_6 h
      refine lv_iconst (v := (-1)) hx hb dX10_saves_9 ic_m1 ?_
      have hz := Option.some.inj h
      subst hz
      exact hret H locs 10 ls (fun ty h => by cases h; rfl) hP hD hS dX10_saves_10
abbrev rmX10_contractWithout : Room := { frames := 2, cells := 0, slots := 0, locals := 42 }
theorem hdX10_contractWithout : yX10_contractWithout.cls = RX10 ∧ yX10_contractWithout.cls ≠ "java/lang/invoke/MethodHandle" ∧ yX10_contractWithout.cls ≠ "java/lang/invoke/VarHandle" ∧ (parseMethodDescriptor yX10_contractWithout.desc).map (fun d => d.parameters.length) = some 1 := by decide +kernel
set_option maxRecDepth 100000 in
set_option maxHeartbeats 4000000 in
theorem c_X10_contractWithout (l : Launch) (D : va_G) (cI cB cZ : ClassId) (a_o : Nat) (w_o_text : Value) (w_o_image0 : Value) (w_o_image1 : Value) (w_o_signs : Value) (w_o_reader : Value) (w_o_lengths : Value) (w_o_refusals : Value) (w_o_two : Value) (o_measured : Int32) (o_traced : Int64) (a_speech : Nat) (w_speech_values : Value) (w_speech_left : Value) (speech_choices : Int32) (speech_worlds : Int32) (a_now : Nat) (w_now_signs : Value) (w_now_wordSets : Value) (now_sayings : Int32) (now_words : Int32) (now_filled : Int32) (a_now_left : Nat) (f_now_left : Nat → Int32) (p1 : Int32) (z : Int32) (h : P_X10_contractWithout p1 speech_worlds now_sayings f_now_left = some z) : KI l yX10_contractWithout wsX10_contractWithout rmX10_contractWithout D [(cI, .int), (cB, .byte), (cZ, .boolean)] [.ref a_o, .int p1] [(a_o, .inr (9, [w_o_text, .ref a_speech, .ref a_now, w_o_image0, w_o_image1, w_o_signs, w_o_reader, w_o_lengths, w_o_refusals, w_o_two, .int o_measured, .long o_traced])), (a_speech, .inr (7, [w_speech_values, w_speech_left, .int speech_choices, .int speech_worlds])), (a_now, .inr (0, [.ref a_now_left, w_now_signs, w_now_wordSets, .int now_sayings, .int now_words, .int now_filled])), (a_now_left, .inl (cI, 8, .inl f_now_left))] [(a_o, .inr (9, [w_o_text, .ref a_speech, .ref a_now, w_o_image0, w_o_image1, w_o_signs, w_o_reader, w_o_lengths, w_o_refusals, w_o_two, .int o_measured, .long o_traced])), (a_speech, .inr (7, [w_speech_values, w_speech_left, .int speech_choices, .int speech_worlds])), (a_now, .inr (0, [.ref a_now_left, w_now_signs, w_now_wordSets, .int now_sayings, .int now_words, .int now_filled])), (a_now_left, .inl (cI, 8, .inl f_now_left))] z := by
  refine KI_of (own := RX10) (cc := cX10_contractWithout) (maxL := 4) (ret := some .int) (by decide) rfl rfl (Nat.le_of_ble_eq_true rfl) (Or.inl rfl) ?_
  intro p e s m args below meth c A Q hx hb hml hown hts hA hZ hK hret H locs ls hP hD hS hl
  have hl : lv_has ls 4 [(0, .ref a_o), (1, .int p1)] := hl
  have hF : CallFix p m c cX10_contractWithout 4 s args wsX10_contractWithout RX10 := ⟨hx, hb, hml, hown, hts⟩
  have u_X10 : ∀ w ∈ u_ws RX10 TX10 12, w ∈ wsX10_contractWithout := by decide +kernel
  have k_f0 := hts (.fieldLink RX10 19 "NoWordNo" "speech" "LNoWordNo$Tongue;") (by decide +kernel)
  have k_f1 := hts (.fieldLink RX10 26 "NoWordNo" "now" "LNoWordNo$Kept;") (by decide +kernel)
  unfold P_X10_contractWithout at h
  refine lv_aload_n hx hb dX10_contractWithout_0 rfl (lv_at hl 0 rfl) ?_
  refine va_get (D := D) (ci := 9) (v := .ref a_speech) (C := RX10) (T := TX10) (N := 12) hx hb hts u_X10 hown hK hP 0 rfl rfl 1 (by decide) k_f0 (fun _ h9 => h9) rfl dX10_contractWithout_1 ?_
  obtain ⟨z_4, hc_4, h⟩ := bd_e h
  refine q_iV (As := []) (rest := []) (wF := [(a_o, .inr (9, [w_o_text, .ref a_speech, .ref a_now, w_o_image0, w_o_image1, w_o_signs, w_o_reader, w_o_lengths, w_o_refusals, w_o_two, .int o_measured, .long o_traced])), (a_now, .inr (0, [.ref a_now_left, w_now_signs, w_now_wordSets, .int now_sayings, .int now_words, .int now_filled])), (a_now_left, .inl (cI, 8, .inl f_now_left)), (a_speech, .inr (7, [w_speech_values, w_speech_left, .int speech_choices, .int speech_worlds]))]) hF hA hZ hK hP hD hS (c_X8_all l D cI cB cZ a_speech w_speech_values w_speech_left speech_choices speech_worlds z_4 hc_4) rfl gX10_contractWithout_X8_all hdX8_all ⟨rfl, rfl⟩ (Nat.le_of_ble_eq_true rfl) (Nat.le_of_ble_eq_true rfl) 7 0 rfl rfl [1] [0, 2, 3] rfl rfl rfl rfl (by decide) rfl hl.1 rfl (Nat.le_of_ble_eq_true rfl) (Nat.zero_le _) (Nat.zero_le _) dX10_contractWithout_4 (fun H locs hP hD hS => ?_)
  refine lv_istore_n (lv' := [(2, .int z_4), (0, .ref a_o), (1, .int p1)]) hx hb dX10_contractWithout_7 rfl hl (by decide) rfl (fun ls hl => ?_)
  refine lv_iconst (v := 0) hx hb dX10_contractWithout_8 ic_0 ?_
  refine lv_istore_n (lv' := [(3, .int 0), (2, .int z_4), (0, .ref a_o), (1, .int p1)]) hx hb dX10_contractWithout_9 rfl hl (by decide) rfl (fun ls hl => ?_)
  have L10 : ∀ (n : Nat), ∀ (x10_l2 : Int32) (x10_l3 : Int32) (H : Heap) (locs : List Loc) (ls : Array Slot), P_X10_contractWithout_10 p1 now_sayings f_now_left n x10_l2 x10_l3 = some z → va_P D vwCl [(a_o, .inr (9, [w_o_text, .ref a_speech, .ref a_now, w_o_image0, w_o_image1, w_o_signs, w_o_reader, w_o_lengths, w_o_refusals, w_o_two, .int o_measured, .long o_traced])), (a_now, .inr (0, [.ref a_now_left, w_now_signs, w_now_wordSets, .int now_sayings, .int now_words, .int now_filled])), (a_now_left, .inl (cI, 8, .inl f_now_left)), (a_speech, .inr (7, [w_speech_values, w_speech_left, .int speech_choices, .int speech_worlds]))] H → va_D A [(a_o, .inr (9, [w_o_text, .ref a_speech, .ref a_now, w_o_image0, w_o_image1, w_o_signs, w_o_reader, w_o_lengths, w_o_refusals, w_o_two, .int o_measured, .long o_traced])), (a_now, .inr (0, [.ref a_now_left, w_now_signs, w_now_wordSets, .int now_sayings, .int now_words, .int now_filled])), (a_now_left, .inl (cI, 8, .inl f_now_left)), (a_speech, .inr (7, [w_speech_values, w_speech_left, .int speech_choices, .int speech_worlds]))] → va_S A s.heap H locs → lv_has ls 4 [(0, .ref a_o), (1, .int p1), (2, .int x10_l2), (3, .int x10_l3)] → W p l e rmX10_contractWithout s m args below meth c H locs 0 0 Q (F0 m 10 ls []) := by
    intro n
    induction n with
    | zero =>
      intro x10_l2 x10_l3 H locs ls h
      exact no_e h
    | succ n ih10 =>
      intro x10_l2 x10_l3 H locs ls h hP hD hS hl
      rw [P_X10_contractWithout_10] at h
      refine lv_iload_n hx hb dX10_contractWithout_10 rfl (lv_at hl 3 rfl) ?_
      refine lv_aload_n hx hb dX10_contractWithout_11 rfl (lv_at hl 0 rfl) ?_
      refine va_get (D := D) (ci := 9) (v := .ref a_now) (C := RX10) (T := TX10) (N := 12) hx hb hts u_X10 hown hK hP 0 rfl rfl 2 (by decide) k_f1 (fun _ h9 => h9) rfl dX10_contractWithout_12 ?_
      obtain ⟨z_15, hc_15, h⟩ := bd_e h
      refine q_iV (As := []) (rest := [.int x10_l3]) (wF := [(a_o, .inr (9, [w_o_text, .ref a_speech, .ref a_now, w_o_image0, w_o_image1, w_o_signs, w_o_reader, w_o_lengths, w_o_refusals, w_o_two, .int o_measured, .long o_traced])), (a_now_left, .inl (cI, 8, .inl f_now_left)), (a_speech, .inr (7, [w_speech_values, w_speech_left, .int speech_choices, .int speech_worlds])), (a_now, .inr (0, [.ref a_now_left, w_now_signs, w_now_wordSets, .int now_sayings, .int now_words, .int now_filled]))]) hF hA hZ hK hP hD hS (c_X0_sayings l D cI cB cZ a_now (.ref a_now_left) w_now_signs w_now_wordSets now_sayings now_words now_filled z_15 hc_15) rfl gX10_contractWithout_X0_sayings hdX0_sayings ⟨rfl, rfl⟩ (Nat.le_of_ble_eq_true rfl) (Nat.le_of_ble_eq_true rfl) 0 0 rfl rfl [1] [0, 2, 3] rfl rfl rfl rfl (by decide) rfl hl.1 rfl (Nat.le_of_ble_eq_true rfl) (Nat.zero_le _) (Nat.zero_le _) dX10_contractWithout_15 (fun H locs hP hD hS => ?_)
      refine lv_icmp_ge (tgt := 43) hx hb dX10_contractWithout_18 (by decide) (fun c_18 => ?_) (fun c_18 => ?_)
      · replace h := it_e c_18 h
        refine lv_iload_n hx hb dX10_contractWithout_43 rfl (lv_at hl 2 rfl) ?_
        have hz := Option.some.inj h
        subst hz
        exact hret H locs 44 ls (fun ty h => by cases h; rfl) (hP.sub [0, 2, 3, 1] rfl) (hD.sub [0, 2, 3, 1] (by decide) rfl) hS dX10_contractWithout_44
      · replace h := if_e c_18 h
        refine lv_iload_n hx hb dX10_contractWithout_21 rfl (lv_at hl 3 rfl) ?_
        refine lv_iload_n hx hb dX10_contractWithout_22 rfl (lv_at hl 1 rfl) ?_
        obtain ⟨j37, hj37, h⟩ := jn_e h
        have Jj37 : ∀ (x37_l2 : Int32) (H : Heap) (locs : List Loc) (ls : Array Slot), j37 x37_l2 = some z → va_P D vwCl [(a_o, .inr (9, [w_o_text, .ref a_speech, .ref a_now, w_o_image0, w_o_image1, w_o_signs, w_o_reader, w_o_lengths, w_o_refusals, w_o_two, .int o_measured, .long o_traced])), (a_now_left, .inl (cI, 8, .inl f_now_left)), (a_speech, .inr (7, [w_speech_values, w_speech_left, .int speech_choices, .int speech_worlds])), (a_now, .inr (0, [.ref a_now_left, w_now_signs, w_now_wordSets, .int now_sayings, .int now_words, .int now_filled]))] H → va_D A [(a_o, .inr (9, [w_o_text, .ref a_speech, .ref a_now, w_o_image0, w_o_image1, w_o_signs, w_o_reader, w_o_lengths, w_o_refusals, w_o_two, .int o_measured, .long o_traced])), (a_now_left, .inl (cI, 8, .inl f_now_left)), (a_speech, .inr (7, [w_speech_values, w_speech_left, .int speech_choices, .int speech_worlds])), (a_now, .inr (0, [.ref a_now_left, w_now_signs, w_now_wordSets, .int now_sayings, .int now_words, .int now_filled]))] → va_S A s.heap H locs → lv_has ls 4 [(0, .ref a_o), (1, .int p1), (2, .int x37_l2), (3, .int x10_l3)] → W p l e rmX10_contractWithout s m args below meth c H locs 0 0 Q (F0 m 37 ls []) := by
          intro x37_l2 H locs ls h hP hD hS hl
          rw [hj37] at h
          refine lv_iinc (v := x10_l3 + 1) (lv' := [(3, .int (x10_l3 + 1)), (0, .ref a_o), (1, .int p1), (2, .int x37_l2)]) hx hb dX10_contractWithout_37 hl (k := 3) rfl (congrArg (x10_l3 + ·) ic_1) (by decide) rfl (fun ls hl => ?_)
          refine lv_goto (tgt := 10) hx hb dX10_contractWithout_40 (by decide) ?_
          exact ih10 x37_l2 (x10_l3 + 1) H locs ls h (hP.sub [0, 3, 1, 2] rfl) (hD.sub [0, 3, 1, 2] (by decide) rfl) hS (lv_sub hl [1, 2, 3, 0] rfl)
        refine lv_icmp_eq (tgt := 37) hx hb dX10_contractWithout_23 (by decide) (fun c_23 => ?_) (fun c_23 => ?_)
        · replace h := it_e c_23 h
          exact Jj37 x10_l2 H locs ls h hP hD hS hl
        · replace h := if_e c_23 h
          refine lv_iload_n hx hb dX10_contractWithout_26 rfl (lv_at hl 2 rfl) ?_
          refine lv_aload_n hx hb dX10_contractWithout_27 rfl (lv_at hl 0 rfl) ?_
          refine va_get (D := D) (ci := 9) (v := .ref a_now) (C := RX10) (T := TX10) (N := 12) hx hb hts u_X10 hown hK hP 0 rfl rfl 2 (by decide) k_f1 (fun _ h9 => h9) rfl dX10_contractWithout_28 ?_
          refine lv_iload_n hx hb dX10_contractWithout_31 rfl (lv_at hl 3 rfl) ?_
          obtain ⟨z_32, hc_32, h⟩ := bd_e h
          refine q_iV (As := [.int x10_l3]) (rest := [.int x10_l2]) (wF := [(a_o, .inr (9, [w_o_text, .ref a_speech, .ref a_now, w_o_image0, w_o_image1, w_o_signs, w_o_reader, w_o_lengths, w_o_refusals, w_o_two, .int o_measured, .long o_traced])), (a_speech, .inr (7, [w_speech_values, w_speech_left, .int speech_choices, .int speech_worlds])), (a_now, .inr (0, [.ref a_now_left, w_now_signs, w_now_wordSets, .int now_sayings, .int now_words, .int now_filled])), (a_now_left, .inl (cI, 8, .inl f_now_left))]) hF hA hZ hK hP hD hS (c_X0_leftBy l D cI cB cZ a_now w_now_signs w_now_wordSets now_sayings now_words now_filled a_now_left f_now_left x10_l3 z_32 hc_32) rfl gX10_contractWithout_X0_leftBy hdX0_leftBy ⟨rfl, rfl⟩ (Nat.le_of_ble_eq_true rfl) (Nat.le_of_ble_eq_true rfl) 0 0 rfl rfl [3, 1] [0, 2] rfl rfl rfl rfl (by decide) rfl hl.1 rfl (Nat.le_of_ble_eq_true rfl) (Nat.zero_le _) (Nat.zero_le _) dX10_contractWithout_32 (fun H locs hP hD hS => ?_)
          refine lv_iand hx hb dX10_contractWithout_35 ?_
          refine lv_istore_n (lv' := [(2, .int (x10_l2 &&& z_32)), (0, .ref a_o), (1, .int p1), (3, .int x10_l3)]) hx hb dX10_contractWithout_36 rfl hl (by decide) rfl (fun ls hl => ?_)
          exact Jj37 (x10_l2 &&& z_32) H locs ls h (hP.sub [0, 3, 1, 2] rfl) (hD.sub [0, 3, 1, 2] (by decide) rfl) hS (lv_sub hl [1, 2, 0, 3] rfl)
  exact L10 QF z_4 0 H locs ls h hP hD hS (lv_sub hl [2, 3, 1, 0] rfl)
abbrev rmX10_contract : Room := { frames := 3, cells := 0, slots := 0, locals := 65 }
theorem hdX10_contract : yX10_contract.cls = RX10 ∧ yX10_contract.cls ≠ "java/lang/invoke/MethodHandle" ∧ yX10_contract.cls ≠ "java/lang/invoke/VarHandle" ∧ (parseMethodDescriptor yX10_contract.desc).map (fun d => d.parameters.length) = some 0 := by decide +kernel
set_option maxRecDepth 100000 in
set_option maxHeartbeats 4000000 in
theorem c_X10_contract (l : Launch) (D : va_G) (cI cB cZ : ClassId) (a_o : Nat) (w_o_text : Value) (w_o_image0 : Value) (w_o_image1 : Value) (w_o_signs : Value) (w_o_reader : Value) (w_o_lengths : Value) (w_o_refusals : Value) (w_o_two : Value) (o_measured : Int32) (o_traced : Int64) (a_speech : Nat) (w_speech_values : Value) (w_speech_left : Value) (speech_choices : Int32) (speech_worlds : Int32) (a_now : Nat) (w_now_signs : Value) (w_now_wordSets : Value) (now_sayings : Int32) (now_words : Int32) (now_filled : Int32) (a_now_left : Nat) (f_now_left : Nat → Int32) (z : Int32) (h : P_X10_contract speech_worlds now_sayings f_now_left = some z) : KI l yX10_contract wsX10_contract rmX10_contract D [(cI, .int), (cB, .byte), (cZ, .boolean)] [.ref a_o] [(a_o, .inr (9, [w_o_text, .ref a_speech, .ref a_now, w_o_image0, w_o_image1, w_o_signs, w_o_reader, w_o_lengths, w_o_refusals, w_o_two, .int o_measured, .long o_traced])), (a_speech, .inr (7, [w_speech_values, w_speech_left, .int speech_choices, .int speech_worlds])), (a_now, .inr (0, [.ref a_now_left, w_now_signs, w_now_wordSets, .int now_sayings, .int now_words, .int now_filled])), (a_now_left, .inl (cI, 8, .inl f_now_left))] [(a_o, .inr (9, [w_o_text, .ref a_speech, .ref a_now, w_o_image0, w_o_image1, w_o_signs, w_o_reader, w_o_lengths, w_o_refusals, w_o_two, .int o_measured, .long o_traced])), (a_speech, .inr (7, [w_speech_values, w_speech_left, .int speech_choices, .int speech_worlds])), (a_now, .inr (0, [.ref a_now_left, w_now_signs, w_now_wordSets, .int now_sayings, .int now_words, .int now_filled])), (a_now_left, .inl (cI, 8, .inl f_now_left))] z := by
  refine KI_of (own := RX10) (cc := cX10_contract) (maxL := 1) (ret := some .int) (by decide) rfl rfl (Nat.le_of_ble_eq_true rfl) (Or.inl rfl) ?_
  intro p e s m args below meth c A Q hx hb hml hown hts hA hZ hK hret H locs ls hP hD hS hl
  have hl : lv_has ls 1 [(0, .ref a_o)] := hl
  have hF : CallFix p m c cX10_contract 1 s args wsX10_contract RX10 := ⟨hx, hb, hml, hown, hts⟩
  unfold P_X10_contract at h
  refine lv_aload_n hx hb dX10_contract_0 rfl (lv_at hl 0 rfl) ?_
  refine lv_iconst (v := (-1)) hx hb dX10_contract_1 ic_m1 ?_
  obtain ⟨z_2, hc_2, h⟩ := bd_e h
  refine q_iV (As := [.int (-1)]) (rest := []) (wF := [(a_o, .inr (9, [w_o_text, .ref a_speech, .ref a_now, w_o_image0, w_o_image1, w_o_signs, w_o_reader, w_o_lengths, w_o_refusals, w_o_two, .int o_measured, .long o_traced])), (a_speech, .inr (7, [w_speech_values, w_speech_left, .int speech_choices, .int speech_worlds])), (a_now, .inr (0, [.ref a_now_left, w_now_signs, w_now_wordSets, .int now_sayings, .int now_words, .int now_filled])), (a_now_left, .inl (cI, 8, .inl f_now_left))]) hF hA hZ hK hP hD hS (c_X10_contractWithout l D cI cB cZ a_o w_o_text w_o_image0 w_o_image1 w_o_signs w_o_reader w_o_lengths w_o_refusals w_o_two o_measured o_traced a_speech w_speech_values w_speech_left speech_choices speech_worlds a_now w_now_signs w_now_wordSets now_sayings now_words now_filled a_now_left f_now_left (-1) z_2 hc_2) rfl gX10_contract_X10_contractWithout hdX10_contractWithout ⟨rfl, rfl⟩ (Nat.le_of_ble_eq_true rfl) (Nat.le_of_ble_eq_true rfl) 9 0 rfl rfl [0, 1, 2, 3] [] rfl rfl rfl rfl (by decide) rfl hl.1 rfl (Nat.le_of_ble_eq_true rfl) (Nat.zero_le _) (Nat.zero_le _) dX10_contract_2 (fun H locs hP hD hS => ?_)
  have hz := Option.some.inj h
  subst hz
  exact hret H locs 5 ls (fun ty h => by cases h; rfl) hP hD hS dX10_contract_5
abbrev rmX10_gap : Room := { frames := 4, cells := 0, slots := 0, locals := 85 }
theorem hdX10_gap : yX10_gap.cls = RX10 ∧ yX10_gap.cls ≠ "java/lang/invoke/MethodHandle" ∧ yX10_gap.cls ≠ "java/lang/invoke/VarHandle" ∧ (parseMethodDescriptor yX10_gap.desc).map (fun d => d.parameters.length) = some 1 := by decide +kernel
set_option maxRecDepth 100000 in
set_option maxHeartbeats 4000000 in
theorem c_X10_gap (l : Launch) (D : va_G) (cI cB cZ : ClassId) (a_o : Nat) (w_o_text : Value) (w_o_image0 : Value) (w_o_image1 : Value) (w_o_signs : Value) (w_o_reader : Value) (w_o_lengths : Value) (w_o_refusals : Value) (w_o_two : Value) (o_measured : Int32) (o_traced : Int64) (a_speech : Nat) (w_speech_values : Value) (w_speech_left : Value) (speech_choices : Int32) (speech_worlds : Int32) (a_now : Nat) (w_now_signs : Value) (w_now_wordSets : Value) (now_sayings : Int32) (now_words : Int32) (now_filled : Int32) (a_now_left : Nat) (f_now_left : Nat → Int32) (p1 : Int32) (z : Int32) (h : P_X10_gap p1 speech_worlds now_sayings f_now_left = some z) : KI l yX10_gap wsX10_gap rmX10_gap D [(cI, .int), (cB, .byte), (cZ, .boolean)] [.ref a_o, .int p1] [(a_o, .inr (9, [w_o_text, .ref a_speech, .ref a_now, w_o_image0, w_o_image1, w_o_signs, w_o_reader, w_o_lengths, w_o_refusals, w_o_two, .int o_measured, .long o_traced])), (a_speech, .inr (7, [w_speech_values, w_speech_left, .int speech_choices, .int speech_worlds])), (a_now, .inr (0, [.ref a_now_left, w_now_signs, w_now_wordSets, .int now_sayings, .int now_words, .int now_filled])), (a_now_left, .inl (cI, 8, .inl f_now_left))] [(a_o, .inr (9, [w_o_text, .ref a_speech, .ref a_now, w_o_image0, w_o_image1, w_o_signs, w_o_reader, w_o_lengths, w_o_refusals, w_o_two, .int o_measured, .long o_traced])), (a_speech, .inr (7, [w_speech_values, w_speech_left, .int speech_choices, .int speech_worlds])), (a_now, .inr (0, [.ref a_now_left, w_now_signs, w_now_wordSets, .int now_sayings, .int now_words, .int now_filled])), (a_now_left, .inl (cI, 8, .inl f_now_left))] z := by
  refine KI_of (own := RX10) (cc := cX10_gap) (maxL := 2) (ret := some .int) (by decide) rfl rfl (Nat.le_of_ble_eq_true rfl) (Or.inl rfl) ?_
  intro p e s m args below meth c A Q hx hb hml hown hts hA hZ hK hret H locs ls hP hD hS hl
  have hl : lv_has ls 2 [(0, .ref a_o), (1, .int p1)] := hl
  have hF : CallFix p m c cX10_gap 2 s args wsX10_gap RX10 := ⟨hx, hb, hml, hown, hts⟩
  have u_X10 : ∀ w ∈ u_ws RX10 TX10 12, w ∈ wsX10_gap := by decide +kernel
  have k_f0 := hts (.fieldLink RX10 19 "NoWordNo" "speech" "LNoWordNo$Tongue;") (by decide +kernel)
  unfold P_X10_gap at h
  refine lv_aload_n hx hb dX10_gap_0 rfl (lv_at hl 0 rfl) ?_
  refine va_get (D := D) (ci := 9) (v := .ref a_speech) (C := RX10) (T := TX10) (N := 12) hx hb hts u_X10 hown hK hP 0 rfl rfl 1 (by decide) k_f0 (fun _ h9 => h9) rfl dX10_gap_1 ?_
  refine lv_iload_n hx hb dX10_gap_4 rfl (lv_at hl 1 rfl) ?_
  obtain ⟨z_5, hc_5, h⟩ := bd_e h
  refine q_iV (As := [.int p1]) (rest := []) (wF := [(a_o, .inr (9, [w_o_text, .ref a_speech, .ref a_now, w_o_image0, w_o_image1, w_o_signs, w_o_reader, w_o_lengths, w_o_refusals, w_o_two, .int o_measured, .long o_traced])), (a_now, .inr (0, [.ref a_now_left, w_now_signs, w_now_wordSets, .int now_sayings, .int now_words, .int now_filled])), (a_now_left, .inl (cI, 8, .inl f_now_left)), (a_speech, .inr (7, [w_speech_values, w_speech_left, .int speech_choices, .int speech_worlds]))]) hF hA hZ hK hP hD hS (c_X8_isSet l D cI cB cZ a_speech w_speech_values w_speech_left speech_choices speech_worlds p1 z_5 hc_5) rfl gX10_gap_X8_isSet hdX8_isSet ⟨rfl, rfl⟩ (Nat.le_of_ble_eq_true rfl) (Nat.le_of_ble_eq_true rfl) 7 0 rfl rfl [1] [0, 2, 3] rfl rfl rfl rfl (by decide) rfl hl.1 rfl (Nat.le_of_ble_eq_true rfl) (Nat.zero_le _) (Nat.zero_le _) dX10_gap_5 (fun H locs hP hD hS => ?_)
  refine lv_if_eq (tgt := 27) hx hb dX10_gap_8 (by decide) (fun c_8 => ?_) (fun c_8 => ?_)
  · replace h := it_e c_8 h
    refine lv_iconst (v := (-1)) hx hb dX10_gap_27 ic_m1 ?_
    have hz := Option.some.inj h
    subst hz
    exact hret H locs 28 ls (fun ty h => by cases h; rfl) (hP.sub [0, 3, 1, 2] rfl) (hD.sub [0, 3, 1, 2] (by decide) rfl) hS dX10_gap_28
  · replace h := if_e c_8 h
    refine lv_aload_n hx hb dX10_gap_11 rfl (lv_at hl 0 rfl) ?_
    obtain ⟨z_12, hc_12, h⟩ := bd_e h
    refine q_iV (As := []) (rest := []) (wF := [(a_o, .inr (9, [w_o_text, .ref a_speech, .ref a_now, w_o_image0, w_o_image1, w_o_signs, w_o_reader, w_o_lengths, w_o_refusals, w_o_two, .int o_measured, .long o_traced])), (a_speech, .inr (7, [w_speech_values, w_speech_left, .int speech_choices, .int speech_worlds])), (a_now, .inr (0, [.ref a_now_left, w_now_signs, w_now_wordSets, .int now_sayings, .int now_words, .int now_filled])), (a_now_left, .inl (cI, 8, .inl f_now_left))]) hF hA hZ hK hP hD hS (c_X10_contract l D cI cB cZ a_o w_o_text w_o_image0 w_o_image1 w_o_signs w_o_reader w_o_lengths w_o_refusals w_o_two o_measured o_traced a_speech w_speech_values w_speech_left speech_choices speech_worlds a_now w_now_signs w_now_wordSets now_sayings now_words now_filled a_now_left f_now_left z_12 hc_12) rfl gX10_gap_X10_contract hdX10_contract ⟨rfl, rfl⟩ (Nat.le_of_ble_eq_true rfl) (Nat.le_of_ble_eq_true rfl) 9 0 rfl rfl [0, 3, 1, 2] [] rfl rfl rfl rfl (by decide) rfl hl.1 rfl (Nat.le_of_ble_eq_true rfl) (Nat.zero_le _) (Nat.zero_le _) dX10_gap_12 (fun H locs hP hD hS => ?_)
    refine lv_aload_n hx hb dX10_gap_15 rfl (lv_at hl 0 rfl) ?_
    refine va_get (D := D) (ci := 9) (v := .ref a_speech) (C := RX10) (T := TX10) (N := 12) hx hb hts u_X10 hown hK hP 0 rfl rfl 1 (by decide) k_f0 (fun _ h9 => h9) rfl dX10_gap_16 ?_
    refine lv_iload_n hx hb dX10_gap_19 rfl (lv_at hl 1 rfl) ?_
    obtain ⟨z_20, hc_20, h⟩ := bd_e h
    refine q_iV (As := [.int p1]) (rest := [.int z_12]) (wF := [(a_o, .inr (9, [w_o_text, .ref a_speech, .ref a_now, w_o_image0, w_o_image1, w_o_signs, w_o_reader, w_o_lengths, w_o_refusals, w_o_two, .int o_measured, .long o_traced])), (a_now, .inr (0, [.ref a_now_left, w_now_signs, w_now_wordSets, .int now_sayings, .int now_words, .int now_filled])), (a_now_left, .inl (cI, 8, .inl f_now_left)), (a_speech, .inr (7, [w_speech_values, w_speech_left, .int speech_choices, .int speech_worlds]))]) hF hA hZ hK hP hD hS (c_X8_others l D cI cB cZ a_speech w_speech_values w_speech_left speech_choices speech_worlds p1 z_20 hc_20) rfl gX10_gap_X8_others hdX8_others ⟨rfl, rfl⟩ (Nat.le_of_ble_eq_true rfl) (Nat.le_of_ble_eq_true rfl) 7 0 rfl rfl [1] [0, 2, 3] rfl rfl rfl rfl (by decide) rfl hl.1 rfl (Nat.le_of_ble_eq_true rfl) (Nat.zero_le _) (Nat.zero_le _) dX10_gap_20 (fun H locs hP hD hS => ?_)
    refine lv_iand hx hb dX10_gap_23 ?_
    refine lv_goto (tgt := 28) hx hb dX10_gap_24 (by decide) ?_
    have hz := Option.some.inj h
    subst hz
    exact hret H locs 28 ls (fun ty h => by cases h; rfl) (hP.sub [0, 3, 1, 2] rfl) (hD.sub [0, 3, 1, 2] (by decide) rfl) hS dX10_gap_28
abbrev rmX10_shortestWithin : Room := { frames := 6, cells := 0, slots := 0, locals := 132 }
theorem hdX10_shortestWithin : yX10_shortestWithin.cls = RX10 ∧ yX10_shortestWithin.cls ≠ "java/lang/invoke/MethodHandle" ∧ yX10_shortestWithin.cls ≠ "java/lang/invoke/VarHandle" ∧ (parseMethodDescriptor yX10_shortestWithin.desc).map (fun d => d.parameters.length) = some 2 := by decide +kernel
set_option maxRecDepth 100000 in
set_option maxHeartbeats 4000000 in
theorem c_X10_shortestWithin (l : Launch) (D : va_G) (cI cB cZ : ClassId) (a_o : Nat) (w_o_text : Value) (w_o_image0 : Value) (w_o_image1 : Value) (w_o_reader : Value) (w_o_refusals : Value) (w_o_two : Value) (o_measured : Int32) (o_traced : Int64) (a_speech : Nat) (speech_choices : Int32) (speech_worlds : Int32) (a_speech_values : Nat) (f_speech_values : Nat → Int32) (a_speech_left : Nat) (f_speech_left : Nat → Int32) (a_now : Nat) (w_now_left : Value) (w_now_signs : Value) (now_sayings : Int32) (now_words : Int32) (now_filled : Int32) (a_now_wordSets : Nat) (f_now_wordSets : Nat → Int32) (a_signs : Nat) (a_lengths : Nat) (lengths_found : Int32) (a_lengths_length : Nat) (f_lengths_length : Nat → Int32) (a_lengths_order : Nat) (f_lengths_order : Nat → Int32) (a_lengths_start : Nat) (f_lengths_start : Nat → Int32) (p1 : Int32) (p2 : Int32) (z : Int32 × Int32 × Int32 × (Nat → Int32) × (Nat → Int32) × (Nat → Int32)) (h : P_X10_shortestWithin p1 p2 o_measured speech_choices speech_worlds f_speech_values f_speech_left now_words f_now_wordSets lengths_found f_lengths_length f_lengths_order f_lengths_start = some z) : KI l yX10_shortestWithin wsX10_shortestWithin rmX10_shortestWithin D [(cI, .int), (cB, .byte), (cZ, .boolean)] [.ref a_o, .int p1, .int p2] [(a_o, .inr (9, [w_o_text, .ref a_speech, .ref a_now, w_o_image0, w_o_image1, .ref a_signs, w_o_reader, .ref a_lengths, w_o_refusals, w_o_two, .int o_measured, .long o_traced])), (a_speech, .inr (7, [.ref a_speech_values, .ref a_speech_left, .int speech_choices, .int speech_worlds])), (a_speech_values, .inl (cI, 3, .inl f_speech_values)), (a_speech_left, .inl (cI, 30, .inl f_speech_left)), (a_now, .inr (0, [w_now_left, w_now_signs, .ref a_now_wordSets, .int now_sayings, .int now_words, .int now_filled])), (a_now_wordSets, .inl (cI, 3, .inl f_now_wordSets)), (a_signs, .inr (4, [.ref a_speech, .ref a_now])), (a_lengths, .inr (1, [.ref a_signs, .ref a_lengths_length, .ref a_lengths_order, .ref a_lengths_start, .int lengths_found])), (a_lengths_length, .inl (cI, 512, .inl f_lengths_length)), (a_lengths_order, .inl (cI, 512, .inl f_lengths_order)), (a_lengths_start, .inl (cI, 34, .inl f_lengths_start))] [(a_o, .inr (9, [w_o_text, .ref a_speech, .ref a_now, w_o_image0, w_o_image1, .ref a_signs, w_o_reader, .ref a_lengths, w_o_refusals, w_o_two, .int z.2.1, .long o_traced])), (a_speech, .inr (7, [.ref a_speech_values, .ref a_speech_left, .int speech_choices, .int speech_worlds])), (a_speech_values, .inl (cI, 3, .inl f_speech_values)), (a_speech_left, .inl (cI, 30, .inl f_speech_left)), (a_now, .inr (0, [w_now_left, w_now_signs, .ref a_now_wordSets, .int now_sayings, .int now_words, .int now_filled])), (a_now_wordSets, .inl (cI, 3, .inl f_now_wordSets)), (a_signs, .inr (4, [.ref a_speech, .ref a_now])), (a_lengths, .inr (1, [.ref a_signs, .ref a_lengths_length, .ref a_lengths_order, .ref a_lengths_start, .int z.2.2.1])), (a_lengths_length, .inl (cI, 512, .inl z.2.2.2.1)), (a_lengths_order, .inl (cI, 512, .inl z.2.2.2.2.1)), (a_lengths_start, .inl (cI, 34, .inl z.2.2.2.2.2))] z.1 := by
  refine KI_of (own := RX10) (cc := cX10_shortestWithin) (maxL := 8) (ret := some .int) (by decide) rfl rfl (Nat.le_of_ble_eq_true rfl) (Or.inl rfl) ?_
  intro p e s m args below meth c A Q hx hb hml hown hts hA hZ hK hret H locs ls hP hD hS hl
  have hl : lv_has ls 8 [(0, .ref a_o), (1, .int p1), (2, .int p2)] := hl
  have hF : CallFix p m c cX10_shortestWithin 8 s args wsX10_shortestWithin RX10 := ⟨hx, hb, hml, hown, hts⟩
  have u_X10 : ∀ w ∈ u_ws RX10 TX10 12, w ∈ wsX10_shortestWithin := by decide +kernel
  have k_f0 := hts (.fieldLink RX10 19 "NoWordNo" "speech" "LNoWordNo$Tongue;") (by decide +kernel)
  unfold P_X10_shortestWithin at h
  refine lv_aload_n hx hb dX10_shortestWithin_0 rfl (lv_at hl 0 rfl) ?_
  obtain ⟨z_1, hc_1, h⟩ := bd_e h
  refine q_rV (As := []) (rest := []) (wF := [(a_o, .inr (9, [w_o_text, .ref a_speech, .ref a_now, w_o_image0, w_o_image1, .ref a_signs, w_o_reader, .ref a_lengths, w_o_refusals, w_o_two, .int z_1.1, .long o_traced])), (a_speech, .inr (7, [.ref a_speech_values, .ref a_speech_left, .int speech_choices, .int speech_worlds])), (a_speech_values, .inl (cI, 3, .inl f_speech_values)), (a_speech_left, .inl (cI, 30, .inl f_speech_left)), (a_now, .inr (0, [w_now_left, w_now_signs, .ref a_now_wordSets, .int now_sayings, .int now_words, .int now_filled])), (a_now_wordSets, .inl (cI, 3, .inl f_now_wordSets)), (a_signs, .inr (4, [.ref a_speech, .ref a_now])), (a_lengths, .inr (1, [.ref a_signs, .ref a_lengths_length, .ref a_lengths_order, .ref a_lengths_start, .int z_1.2.1])), (a_lengths_length, .inl (cI, 512, .inl z_1.2.2.1)), (a_lengths_order, .inl (cI, 512, .inl z_1.2.2.2.1)), (a_lengths_start, .inl (cI, 34, .inl z_1.2.2.2.2))]) hF hA hZ hK hP hD hS (c_X10_lengthsNow l D cI cB cZ a_o w_o_text w_o_image0 w_o_image1 w_o_reader w_o_refusals w_o_two o_measured o_traced a_speech speech_choices speech_worlds a_speech_values f_speech_values a_speech_left f_speech_left a_now w_now_left w_now_signs now_sayings now_words now_filled a_now_wordSets f_now_wordSets a_signs a_lengths lengths_found a_lengths_length f_lengths_length a_lengths_order f_lengths_order a_lengths_start f_lengths_start z_1 hc_1) rfl gX10_shortestWithin_X10_lengthsNow hdX10_lengthsNow ⟨rfl, rfl⟩ (Nat.le_of_ble_eq_true rfl) (Nat.le_of_ble_eq_true rfl) 9 0 rfl rfl [0, 1, 2, 3, 4, 5, 6, 7, 8, 9, 10] [] rfl rfl rfl rfl (by decide) rfl hl.1 rfl (Nat.le_of_ble_eq_true rfl) (Nat.zero_le _) (Nat.zero_le _) dX10_shortestWithin_1 (fun H locs hP hD hS => ?_)
  refine lv_astore_n (lv' := [(3, .ref a_lengths), (0, .ref a_o), (1, .int p1), (2, .int p2)]) hx hb dX10_shortestWithin_4 rfl hl (by decide) rfl (fun ls hl => ?_)
  refine lv_bipush (v := (-9)) hx hb dX10_shortestWithin_5 bc_m9 ?_
  refine lv_istore (lv' := [(4, .int (-9)), (3, .ref a_lengths), (0, .ref a_o), (1, .int p1), (2, .int p2)]) hx hb dX10_shortestWithin_7 hl (by decide) rfl (fun ls hl => ?_)
  refine lv_iconst (v := 0) hx hb dX10_shortestWithin_9 ic_0 ?_
  refine lv_istore (lv' := [(5, .int 0), (4, .int (-9)), (3, .ref a_lengths), (0, .ref a_o), (1, .int p1), (2, .int p2)]) hx hb dX10_shortestWithin_10 hl (by decide) rfl (fun ls hl => ?_)
  refine lv_iconst (v := 0) hx hb dX10_shortestWithin_12 ic_0 ?_
  refine lv_istore (lv' := [(6, .int 0), (5, .int 0), (4, .int (-9)), (3, .ref a_lengths), (0, .ref a_o), (1, .int p1), (2, .int p2)]) hx hb dX10_shortestWithin_13 hl (by decide) rfl (fun ls hl => ?_)
  have L15 : ∀ (n : Nat), ∀ (x15_l4 : Int32) (x15_l5 : Int32) (x15_l6 : Int32) (H : Heap) (locs : List Loc) (ls : Array Slot), P_X10_shortestWithin_15 p1 p2 speech_worlds z_1 n x15_l4 x15_l5 x15_l6 = some z → va_P D vwCl [(a_o, .inr (9, [w_o_text, .ref a_speech, .ref a_now, w_o_image0, w_o_image1, .ref a_signs, w_o_reader, .ref a_lengths, w_o_refusals, w_o_two, .int z_1.1, .long o_traced])), (a_speech, .inr (7, [.ref a_speech_values, .ref a_speech_left, .int speech_choices, .int speech_worlds])), (a_speech_values, .inl (cI, 3, .inl f_speech_values)), (a_speech_left, .inl (cI, 30, .inl f_speech_left)), (a_now, .inr (0, [w_now_left, w_now_signs, .ref a_now_wordSets, .int now_sayings, .int now_words, .int now_filled])), (a_now_wordSets, .inl (cI, 3, .inl f_now_wordSets)), (a_signs, .inr (4, [.ref a_speech, .ref a_now])), (a_lengths, .inr (1, [.ref a_signs, .ref a_lengths_length, .ref a_lengths_order, .ref a_lengths_start, .int z_1.2.1])), (a_lengths_length, .inl (cI, 512, .inl z_1.2.2.1)), (a_lengths_order, .inl (cI, 512, .inl z_1.2.2.2.1)), (a_lengths_start, .inl (cI, 34, .inl z_1.2.2.2.2))] H → va_D A [(a_o, .inr (9, [w_o_text, .ref a_speech, .ref a_now, w_o_image0, w_o_image1, .ref a_signs, w_o_reader, .ref a_lengths, w_o_refusals, w_o_two, .int z_1.1, .long o_traced])), (a_speech, .inr (7, [.ref a_speech_values, .ref a_speech_left, .int speech_choices, .int speech_worlds])), (a_speech_values, .inl (cI, 3, .inl f_speech_values)), (a_speech_left, .inl (cI, 30, .inl f_speech_left)), (a_now, .inr (0, [w_now_left, w_now_signs, .ref a_now_wordSets, .int now_sayings, .int now_words, .int now_filled])), (a_now_wordSets, .inl (cI, 3, .inl f_now_wordSets)), (a_signs, .inr (4, [.ref a_speech, .ref a_now])), (a_lengths, .inr (1, [.ref a_signs, .ref a_lengths_length, .ref a_lengths_order, .ref a_lengths_start, .int z_1.2.1])), (a_lengths_length, .inl (cI, 512, .inl z_1.2.2.1)), (a_lengths_order, .inl (cI, 512, .inl z_1.2.2.2.1)), (a_lengths_start, .inl (cI, 34, .inl z_1.2.2.2.2))] → va_S A s.heap H locs → lv_has ls 8 [(0, .ref a_o), (1, .int p1), (2, .int p2), (3, .ref a_lengths), (4, .int x15_l4), (5, .int x15_l5), (6, .int x15_l6)] → W p l e rmX10_shortestWithin s m args below meth c H locs 0 0 Q (F0 m 15 ls []) := by
    intro n
    induction n with
    | zero =>
      intro x15_l4 x15_l5 x15_l6 H locs ls h
      exact no_e h
    | succ n ih15 =>
      intro x15_l4 x15_l5 x15_l6 H locs ls h hP hD hS hl
      rw [P_X10_shortestWithin_15] at h
      refine lv_iload hx hb dX10_shortestWithin_15 (lv_at hl 6 rfl) ?_
      refine lv_aload_n hx hb dX10_shortestWithin_17 rfl (lv_at hl 0 rfl) ?_
      refine va_get (D := D) (ci := 9) (v := .ref a_speech) (C := RX10) (T := TX10) (N := 12) hx hb hts u_X10 hown hK hP 0 rfl rfl 1 (by decide) k_f0 (fun _ h9 => h9) rfl dX10_shortestWithin_18 ?_
      obtain ⟨z_21, hc_21, h⟩ := bd_e h
      refine q_iV (As := []) (rest := [.int x15_l6]) (wF := [(a_o, .inr (9, [w_o_text, .ref a_speech, .ref a_now, w_o_image0, w_o_image1, .ref a_signs, w_o_reader, .ref a_lengths, w_o_refusals, w_o_two, .int z_1.1, .long o_traced])), (a_speech_values, .inl (cI, 3, .inl f_speech_values)), (a_speech_left, .inl (cI, 30, .inl f_speech_left)), (a_now, .inr (0, [w_now_left, w_now_signs, .ref a_now_wordSets, .int now_sayings, .int now_words, .int now_filled])), (a_now_wordSets, .inl (cI, 3, .inl f_now_wordSets)), (a_signs, .inr (4, [.ref a_speech, .ref a_now])), (a_lengths, .inr (1, [.ref a_signs, .ref a_lengths_length, .ref a_lengths_order, .ref a_lengths_start, .int z_1.2.1])), (a_lengths_length, .inl (cI, 512, .inl z_1.2.2.1)), (a_lengths_order, .inl (cI, 512, .inl z_1.2.2.2.1)), (a_lengths_start, .inl (cI, 34, .inl z_1.2.2.2.2)), (a_speech, .inr (7, [.ref a_speech_values, .ref a_speech_left, .int speech_choices, .int speech_worlds]))]) hF hA hZ hK hP hD hS (c_X8_all l D cI cB cZ a_speech (.ref a_speech_values) (.ref a_speech_left) speech_choices speech_worlds z_21 hc_21) rfl gX10_shortestWithin_X8_all hdX8_all ⟨rfl, rfl⟩ (Nat.le_of_ble_eq_true rfl) (Nat.le_of_ble_eq_true rfl) 7 0 rfl rfl [1] [0, 2, 3, 4, 5, 6, 7, 8, 9, 10] rfl rfl rfl rfl (by decide) rfl hl.1 rfl (Nat.le_of_ble_eq_true rfl) (Nat.zero_le _) (Nat.zero_le _) dX10_shortestWithin_21 (fun H locs hP hD hS => ?_)
      refine lv_icmp_gt (tgt := 85) hx hb dX10_shortestWithin_24 (by decide) (fun c_24 => ?_) (fun c_24 => ?_)
      · replace h := it_e c_24 h
        refine lv_iload hx hb dX10_shortestWithin_85 (lv_at hl 4 rfl) ?_
        have hz := Option.some.inj h
        subst hz
        exact hret H locs 87 ls (fun ty h => by cases h; rfl) (hP.sub [0, 10, 1, 2, 3, 4, 5, 6, 7, 8, 9] rfl) (hD.sub [0, 10, 1, 2, 3, 4, 5, 6, 7, 8, 9] (by decide) rfl) hS dX10_shortestWithin_87
      · replace h := if_e c_24 h
        refine lv_iload hx hb dX10_shortestWithin_27 (lv_at hl 6 rfl) ?_
        refine lv_iload_n hx hb dX10_shortestWithin_29 rfl (lv_at hl 1 rfl) ?_
        refine lv_iand hx hb dX10_shortestWithin_30 ?_
        refine lv_iload_n hx hb dX10_shortestWithin_31 rfl (lv_at hl 2 rfl) ?_
        refine lv_iload_n hx hb dX10_shortestWithin_32 rfl (lv_at hl 1 rfl) ?_
        refine lv_iand hx hb dX10_shortestWithin_33 ?_
        obtain ⟨j48, hj48, h⟩ := jn_e h
        have Jj48 : ∀ (x48_s0 : Int32) (H : Heap) (locs : List Loc) (ls : Array Slot), j48 x48_s0 = some z → va_P D vwCl [(a_o, .inr (9, [w_o_text, .ref a_speech, .ref a_now, w_o_image0, w_o_image1, .ref a_signs, w_o_reader, .ref a_lengths, w_o_refusals, w_o_two, .int z_1.1, .long o_traced])), (a_speech_values, .inl (cI, 3, .inl f_speech_values)), (a_speech_left, .inl (cI, 30, .inl f_speech_left)), (a_now, .inr (0, [w_now_left, w_now_signs, .ref a_now_wordSets, .int now_sayings, .int now_words, .int now_filled])), (a_now_wordSets, .inl (cI, 3, .inl f_now_wordSets)), (a_signs, .inr (4, [.ref a_speech, .ref a_now])), (a_lengths, .inr (1, [.ref a_signs, .ref a_lengths_length, .ref a_lengths_order, .ref a_lengths_start, .int z_1.2.1])), (a_lengths_length, .inl (cI, 512, .inl z_1.2.2.1)), (a_lengths_order, .inl (cI, 512, .inl z_1.2.2.2.1)), (a_lengths_start, .inl (cI, 34, .inl z_1.2.2.2.2)), (a_speech, .inr (7, [.ref a_speech_values, .ref a_speech_left, .int speech_choices, .int speech_worlds]))] H → va_D A [(a_o, .inr (9, [w_o_text, .ref a_speech, .ref a_now, w_o_image0, w_o_image1, .ref a_signs, w_o_reader, .ref a_lengths, w_o_refusals, w_o_two, .int z_1.1, .long o_traced])), (a_speech_values, .inl (cI, 3, .inl f_speech_values)), (a_speech_left, .inl (cI, 30, .inl f_speech_left)), (a_now, .inr (0, [w_now_left, w_now_signs, .ref a_now_wordSets, .int now_sayings, .int now_words, .int now_filled])), (a_now_wordSets, .inl (cI, 3, .inl f_now_wordSets)), (a_signs, .inr (4, [.ref a_speech, .ref a_now])), (a_lengths, .inr (1, [.ref a_signs, .ref a_lengths_length, .ref a_lengths_order, .ref a_lengths_start, .int z_1.2.1])), (a_lengths_length, .inl (cI, 512, .inl z_1.2.2.1)), (a_lengths_order, .inl (cI, 512, .inl z_1.2.2.2.1)), (a_lengths_start, .inl (cI, 34, .inl z_1.2.2.2.2)), (a_speech, .inr (7, [.ref a_speech_values, .ref a_speech_left, .int speech_choices, .int speech_worlds]))] → va_S A s.heap H locs → lv_has ls 8 [(0, .ref a_o), (1, .int p1), (2, .int p2), (3, .ref a_lengths), (4, .int x15_l4), (5, .int x15_l5), (6, .int x15_l6)] → W p l e rmX10_shortestWithin s m args below meth c H locs 0 0 Q (F0 m 48 ls [.int x48_s0]) := by
          intro x48_s0 H locs ls h hP hD hS hl
          rw [hj48] at h
          refine lv_istore (lv' := [(7, .int x48_s0), (0, .ref a_o), (1, .int p1), (2, .int p2), (3, .ref a_lengths), (4, .int x15_l4), (5, .int x15_l5), (6, .int x15_l6)]) hx hb dX10_shortestWithin_48 hl (by decide) rfl (fun ls hl => ?_)
          refine lv_iload hx hb dX10_shortestWithin_50 (lv_at hl 0 rfl) ?_
          refine lv_bipush (v := (-9)) hx hb dX10_shortestWithin_52 bc_m9 ?_
          obtain ⟨j79, hj79, h⟩ := jn_e h
          have Jj79 : ∀ (x79_l4 : Int32) (x79_l5 : Int32) (H : Heap) (locs : List Loc) (ls : Array Slot), j79 x79_l4 x79_l5 = some z → va_P D vwCl [(a_o, .inr (9, [w_o_text, .ref a_speech, .ref a_now, w_o_image0, w_o_image1, .ref a_signs, w_o_reader, .ref a_lengths, w_o_refusals, w_o_two, .int z_1.1, .long o_traced])), (a_speech_values, .inl (cI, 3, .inl f_speech_values)), (a_speech_left, .inl (cI, 30, .inl f_speech_left)), (a_now, .inr (0, [w_now_left, w_now_signs, .ref a_now_wordSets, .int now_sayings, .int now_words, .int now_filled])), (a_now_wordSets, .inl (cI, 3, .inl f_now_wordSets)), (a_signs, .inr (4, [.ref a_speech, .ref a_now])), (a_lengths, .inr (1, [.ref a_signs, .ref a_lengths_length, .ref a_lengths_order, .ref a_lengths_start, .int z_1.2.1])), (a_lengths_length, .inl (cI, 512, .inl z_1.2.2.1)), (a_lengths_order, .inl (cI, 512, .inl z_1.2.2.2.1)), (a_lengths_start, .inl (cI, 34, .inl z_1.2.2.2.2)), (a_speech, .inr (7, [.ref a_speech_values, .ref a_speech_left, .int speech_choices, .int speech_worlds]))] H → va_D A [(a_o, .inr (9, [w_o_text, .ref a_speech, .ref a_now, w_o_image0, w_o_image1, .ref a_signs, w_o_reader, .ref a_lengths, w_o_refusals, w_o_two, .int z_1.1, .long o_traced])), (a_speech_values, .inl (cI, 3, .inl f_speech_values)), (a_speech_left, .inl (cI, 30, .inl f_speech_left)), (a_now, .inr (0, [w_now_left, w_now_signs, .ref a_now_wordSets, .int now_sayings, .int now_words, .int now_filled])), (a_now_wordSets, .inl (cI, 3, .inl f_now_wordSets)), (a_signs, .inr (4, [.ref a_speech, .ref a_now])), (a_lengths, .inr (1, [.ref a_signs, .ref a_lengths_length, .ref a_lengths_order, .ref a_lengths_start, .int z_1.2.1])), (a_lengths_length, .inl (cI, 512, .inl z_1.2.2.1)), (a_lengths_order, .inl (cI, 512, .inl z_1.2.2.2.1)), (a_lengths_start, .inl (cI, 34, .inl z_1.2.2.2.2)), (a_speech, .inr (7, [.ref a_speech_values, .ref a_speech_left, .int speech_choices, .int speech_worlds]))] → va_S A s.heap H locs → lv_has ls 8 [(0, .ref a_o), (1, .int p1), (2, .int p2), (3, .ref a_lengths), (4, .int x79_l4), (5, .int x79_l5), (6, .int x15_l6)] → W p l e rmX10_shortestWithin s m args below meth c H locs 0 0 Q (F0 m 79 ls []) := by
            intro x79_l4 x79_l5 H locs ls h hP hD hS hl
            rw [hj79] at h
            refine lv_iinc (v := x15_l6 + 1) (lv' := [(6, .int (x15_l6 + 1)), (0, .ref a_o), (1, .int p1), (2, .int p2), (3, .ref a_lengths), (4, .int x79_l4), (5, .int x79_l5)]) hx hb dX10_shortestWithin_79 hl (k := 6) rfl (congrArg (x15_l6 + ·) ic_1) (by decide) rfl (fun ls hl => ?_)
            refine lv_goto (tgt := 15) hx hb dX10_shortestWithin_82 (by decide) ?_
            exact ih15 x79_l4 x79_l5 (x15_l6 + 1) H locs ls h (hP.sub [0, 10, 1, 2, 3, 4, 5, 6, 7, 8, 9] rfl) (hD.sub [0, 10, 1, 2, 3, 4, 5, 6, 7, 8, 9] (by decide) rfl) hS (lv_sub hl [1, 2, 3, 4, 5, 6, 0] rfl)
          refine lv_icmp_eq (tgt := 79) hx hb dX10_shortestWithin_54 (by decide) (fun c_54 => ?_) (fun c_54 => ?_)
          · replace h := it_e c_54 h
            exact Jj79 x15_l4 x15_l5 H locs ls h hP hD hS (lv_sub hl [1, 2, 3, 4, 5, 6, 7] rfl)
          · replace h := if_e c_54 h
            refine lv_iload hx hb dX10_shortestWithin_57 (lv_at hl 5 rfl) ?_
            refine lv_bipush (v := (-9)) hx hb dX10_shortestWithin_59 bc_m9 ?_
            obtain ⟨j71, hj71, h⟩ := jn_e h
            have Jj71 : ∀ (H : Heap) (locs : List Loc) (ls : Array Slot), j71 () = some z → va_P D vwCl [(a_o, .inr (9, [w_o_text, .ref a_speech, .ref a_now, w_o_image0, w_o_image1, .ref a_signs, w_o_reader, .ref a_lengths, w_o_refusals, w_o_two, .int z_1.1, .long o_traced])), (a_speech_values, .inl (cI, 3, .inl f_speech_values)), (a_speech_left, .inl (cI, 30, .inl f_speech_left)), (a_now, .inr (0, [w_now_left, w_now_signs, .ref a_now_wordSets, .int now_sayings, .int now_words, .int now_filled])), (a_now_wordSets, .inl (cI, 3, .inl f_now_wordSets)), (a_signs, .inr (4, [.ref a_speech, .ref a_now])), (a_lengths, .inr (1, [.ref a_signs, .ref a_lengths_length, .ref a_lengths_order, .ref a_lengths_start, .int z_1.2.1])), (a_lengths_length, .inl (cI, 512, .inl z_1.2.2.1)), (a_lengths_order, .inl (cI, 512, .inl z_1.2.2.2.1)), (a_lengths_start, .inl (cI, 34, .inl z_1.2.2.2.2)), (a_speech, .inr (7, [.ref a_speech_values, .ref a_speech_left, .int speech_choices, .int speech_worlds]))] H → va_D A [(a_o, .inr (9, [w_o_text, .ref a_speech, .ref a_now, w_o_image0, w_o_image1, .ref a_signs, w_o_reader, .ref a_lengths, w_o_refusals, w_o_two, .int z_1.1, .long o_traced])), (a_speech_values, .inl (cI, 3, .inl f_speech_values)), (a_speech_left, .inl (cI, 30, .inl f_speech_left)), (a_now, .inr (0, [w_now_left, w_now_signs, .ref a_now_wordSets, .int now_sayings, .int now_words, .int now_filled])), (a_now_wordSets, .inl (cI, 3, .inl f_now_wordSets)), (a_signs, .inr (4, [.ref a_speech, .ref a_now])), (a_lengths, .inr (1, [.ref a_signs, .ref a_lengths_length, .ref a_lengths_order, .ref a_lengths_start, .int z_1.2.1])), (a_lengths_length, .inl (cI, 512, .inl z_1.2.2.1)), (a_lengths_order, .inl (cI, 512, .inl z_1.2.2.2.1)), (a_lengths_start, .inl (cI, 34, .inl z_1.2.2.2.2)), (a_speech, .inr (7, [.ref a_speech_values, .ref a_speech_left, .int speech_choices, .int speech_worlds]))] → va_S A s.heap H locs → lv_has ls 8 [(0, .ref a_o), (1, .int p1), (2, .int p2), (3, .ref a_lengths), (6, .int x15_l6), (7, .int x48_s0)] → W p l e rmX10_shortestWithin s m args below meth c H locs 0 0 Q (F0 m 71 ls []) := by
              intro H locs ls h hP hD hS hl
              rw [hj71] at h
              refine lv_iload hx hb dX10_shortestWithin_71 (lv_at hl 4 rfl) ?_
              refine lv_istore (lv' := [(4, .int x15_l6), (0, .ref a_o), (1, .int p1), (2, .int p2), (3, .ref a_lengths), (6, .int x15_l6), (7, .int x48_s0)]) hx hb dX10_shortestWithin_73 hl (by decide) rfl (fun ls hl => ?_)
              refine lv_iload hx hb dX10_shortestWithin_75 (lv_at hl 6 rfl) ?_
              refine lv_istore (lv' := [(5, .int x48_s0), (4, .int x15_l6), (0, .ref a_o), (1, .int p1), (2, .int p2), (3, .ref a_lengths), (6, .int x15_l6), (7, .int x48_s0)]) hx hb dX10_shortestWithin_77 hl (by decide) rfl (fun ls hl => ?_)
              exact Jj79 x15_l6 x48_s0 H locs ls h hP hD hS (lv_sub hl [2, 3, 4, 5, 1, 0, 6] rfl)
            refine lv_icmp_eq (tgt := 71) hx hb dX10_shortestWithin_61 (by decide) (fun c_61 => ?_) (fun c_61 => ?_)
            · replace h := it_e c_61 h
              exact Jj71  H locs ls h hP hD hS (lv_sub hl [1, 2, 3, 4, 7, 0] rfl)
            · replace h := if_e c_61 h
              refine lv_iload hx hb dX10_shortestWithin_64 (lv_at hl 0 rfl) ?_
              refine lv_iload hx hb dX10_shortestWithin_66 (lv_at hl 6 rfl) ?_
              refine lv_icmp_ge (tgt := 79) hx hb dX10_shortestWithin_68 (by decide) (fun c_68 => ?_) (fun c_68 => ?_)
              · replace h := it_e c_68 h
                exact Jj79 x15_l4 x15_l5 H locs ls h hP hD hS (lv_sub hl [1, 2, 3, 4, 5, 6, 7] rfl)
              · replace h := if_e c_68 h
                exact Jj71  H locs ls h hP hD hS (lv_sub hl [1, 2, 3, 4, 7, 0] rfl)
        refine lv_icmp_ne (tgt := 46) hx hb dX10_shortestWithin_34 (by decide) (fun c_34 => ?_) (fun c_34 => ?_)
        · replace h := if_e c_34 h
          refine lv_bipush (v := (-9)) hx hb dX10_shortestWithin_46 bc_m9 ?_
          exact Jj48 (-9) H locs ls h hP hD hS hl
        · replace h := it_e c_34 h
          refine lv_aload_n hx hb dX10_shortestWithin_37 rfl (lv_at hl 3 rfl) ?_
          refine lv_iload hx hb dX10_shortestWithin_38 (lv_at hl 6 rfl) ?_
          obtain ⟨z_40, hc_40, h⟩ := bd_e h
          refine q_iV (As := [.int x15_l6]) (rest := []) (wF := [(a_o, .inr (9, [w_o_text, .ref a_speech, .ref a_now, w_o_image0, w_o_image1, .ref a_signs, w_o_reader, .ref a_lengths, w_o_refusals, w_o_two, .int z_1.1, .long o_traced])), (a_speech_values, .inl (cI, 3, .inl f_speech_values)), (a_speech_left, .inl (cI, 30, .inl f_speech_left)), (a_now, .inr (0, [w_now_left, w_now_signs, .ref a_now_wordSets, .int now_sayings, .int now_words, .int now_filled])), (a_now_wordSets, .inl (cI, 3, .inl f_now_wordSets)), (a_signs, .inr (4, [.ref a_speech, .ref a_now])), (a_lengths_order, .inl (cI, 512, .inl z_1.2.2.2.1)), (a_lengths_start, .inl (cI, 34, .inl z_1.2.2.2.2)), (a_speech, .inr (7, [.ref a_speech_values, .ref a_speech_left, .int speech_choices, .int speech_worlds])), (a_lengths, .inr (1, [.ref a_signs, .ref a_lengths_length, .ref a_lengths_order, .ref a_lengths_start, .int z_1.2.1])), (a_lengths_length, .inl (cI, 512, .inl z_1.2.2.1))]) hF hA hZ hK hP hD hS (c_X1_of l D cI cB cZ a_lengths (.ref a_signs) (.ref a_lengths_order) (.ref a_lengths_start) z_1.2.1 a_lengths_length z_1.2.2.1 x15_l6 z_40 hc_40) rfl gX10_shortestWithin_X1_of hdX1_of ⟨rfl, rfl⟩ (Nat.le_of_ble_eq_true rfl) (Nat.le_of_ble_eq_true rfl) 1 0 rfl rfl [6, 7] [0, 1, 2, 3, 4, 5, 8, 9, 10] rfl rfl rfl rfl (by decide) rfl hl.1 rfl (Nat.le_of_ble_eq_true rfl) (Nat.zero_le _) (Nat.zero_le _) dX10_shortestWithin_40 (fun H locs hP hD hS => ?_)
          refine lv_goto (tgt := 48) hx hb dX10_shortestWithin_43 (by decide) ?_
          exact Jj48 z_40 H locs ls h (hP.sub [0, 1, 2, 3, 4, 5, 9, 10, 6, 7, 8] rfl) (hD.sub [0, 1, 2, 3, 4, 5, 9, 10, 6, 7, 8] (by decide) rfl) hS hl
  exact L15 QF (-9) 0 0 H locs ls h hP hD hS (lv_sub hl [4, 5, 6, 3, 2, 1, 0] rfl)
abbrev rmX10_clause : Room := { frames := 7, cells := 0, slots := 0, locals := 159 }
theorem hdX10_clause : yX10_clause.cls = RX10 ∧ yX10_clause.cls ≠ "java/lang/invoke/MethodHandle" ∧ yX10_clause.cls ≠ "java/lang/invoke/VarHandle" ∧ (parseMethodDescriptor yX10_clause.desc).map (fun d => d.parameters.length) = some 2 := by decide +kernel
set_option maxRecDepth 100000 in
set_option maxHeartbeats 4000000 in
theorem c_X10_clause (l : Launch) (D : va_G) (cI cB cZ : ClassId) (a_o : Nat) (w_o_text : Value) (w_o_image0 : Value) (w_o_image1 : Value) (w_o_reader : Value) (w_o_refusals : Value) (w_o_two : Value) (o_measured : Int32) (o_traced : Int64) (a_speech : Nat) (speech_choices : Int32) (speech_worlds : Int32) (a_speech_values : Nat) (f_speech_values : Nat → Int32) (a_speech_left : Nat) (f_speech_left : Nat → Int32) (a_now : Nat) (w_now_signs : Value) (now_sayings : Int32) (now_words : Int32) (now_filled : Int32) (a_now_left : Nat) (f_now_left : Nat → Int32) (a_now_wordSets : Nat) (f_now_wordSets : Nat → Int32) (a_signs : Nat) (a_lengths : Nat) (lengths_found : Int32) (a_lengths_length : Nat) (f_lengths_length : Nat → Int32) (a_lengths_order : Nat) (f_lengths_order : Nat → Int32) (a_lengths_start : Nat) (f_lengths_start : Nat → Int32) (p1 : Int32) (p2 : Int32) (z : Int32 × Int32 × Int32 × (Nat → Int32) × (Nat → Int32) × (Nat → Int32)) (h : P_X10_clause p1 p2 o_measured speech_choices speech_worlds f_speech_values f_speech_left now_sayings now_words f_now_left f_now_wordSets lengths_found f_lengths_length f_lengths_order f_lengths_start = some z) : KI l yX10_clause wsX10_clause rmX10_clause D [(cI, .int), (cB, .byte), (cZ, .boolean)] [.ref a_o, .int p1, .int p2] [(a_o, .inr (9, [w_o_text, .ref a_speech, .ref a_now, w_o_image0, w_o_image1, .ref a_signs, w_o_reader, .ref a_lengths, w_o_refusals, w_o_two, .int o_measured, .long o_traced])), (a_speech, .inr (7, [.ref a_speech_values, .ref a_speech_left, .int speech_choices, .int speech_worlds])), (a_speech_values, .inl (cI, 3, .inl f_speech_values)), (a_speech_left, .inl (cI, 30, .inl f_speech_left)), (a_now, .inr (0, [.ref a_now_left, w_now_signs, .ref a_now_wordSets, .int now_sayings, .int now_words, .int now_filled])), (a_now_left, .inl (cI, 8, .inl f_now_left)), (a_now_wordSets, .inl (cI, 3, .inl f_now_wordSets)), (a_signs, .inr (4, [.ref a_speech, .ref a_now])), (a_lengths, .inr (1, [.ref a_signs, .ref a_lengths_length, .ref a_lengths_order, .ref a_lengths_start, .int lengths_found])), (a_lengths_length, .inl (cI, 512, .inl f_lengths_length)), (a_lengths_order, .inl (cI, 512, .inl f_lengths_order)), (a_lengths_start, .inl (cI, 34, .inl f_lengths_start))] [(a_o, .inr (9, [w_o_text, .ref a_speech, .ref a_now, w_o_image0, w_o_image1, .ref a_signs, w_o_reader, .ref a_lengths, w_o_refusals, w_o_two, .int z.2.1, .long o_traced])), (a_speech, .inr (7, [.ref a_speech_values, .ref a_speech_left, .int speech_choices, .int speech_worlds])), (a_speech_values, .inl (cI, 3, .inl f_speech_values)), (a_speech_left, .inl (cI, 30, .inl f_speech_left)), (a_now, .inr (0, [.ref a_now_left, w_now_signs, .ref a_now_wordSets, .int now_sayings, .int now_words, .int now_filled])), (a_now_left, .inl (cI, 8, .inl f_now_left)), (a_now_wordSets, .inl (cI, 3, .inl f_now_wordSets)), (a_signs, .inr (4, [.ref a_speech, .ref a_now])), (a_lengths, .inr (1, [.ref a_signs, .ref a_lengths_length, .ref a_lengths_order, .ref a_lengths_start, .int z.2.2.1])), (a_lengths_length, .inl (cI, 512, .inl z.2.2.2.1)), (a_lengths_order, .inl (cI, 512, .inl z.2.2.2.2.1)), (a_lengths_start, .inl (cI, 34, .inl z.2.2.2.2.2))] z.1 := by
  refine KI_of (own := RX10) (cc := cX10_clause) (maxL := 4) (ret := some .int) (by decide) rfl rfl (Nat.le_of_ble_eq_true rfl) (Or.inl rfl) ?_
  intro p e s m args below meth c A Q hx hb hml hown hts hA hZ hK hret H locs ls hP hD hS hl
  have hl : lv_has ls 4 [(0, .ref a_o), (1, .int p1), (2, .int p2)] := hl
  have hF : CallFix p m c cX10_clause 4 s args wsX10_clause RX10 := ⟨hx, hb, hml, hown, hts⟩
  have u_X10 : ∀ w ∈ u_ws RX10 TX10 12, w ∈ wsX10_clause := by decide +kernel
  have k_f0 := hts (.fieldLink RX10 19 "NoWordNo" "speech" "LNoWordNo$Tongue;") (by decide +kernel)
  unfold P_X10_clause at h
  refine lv_aload_n hx hb dX10_clause_0 rfl (lv_at hl 0 rfl) ?_
  refine va_get (D := D) (ci := 9) (v := .ref a_speech) (C := RX10) (T := TX10) (N := 12) hx hb hts u_X10 hown hK hP 0 rfl rfl 1 (by decide) k_f0 (fun _ h9 => h9) rfl dX10_clause_1 ?_
  refine lv_iload_n hx hb dX10_clause_4 rfl (lv_at hl 1 rfl) ?_
  obtain ⟨z_5, hc_5, h⟩ := bd_e h
  refine q_iV (As := [.int p1]) (rest := []) (wF := [(a_o, .inr (9, [w_o_text, .ref a_speech, .ref a_now, w_o_image0, w_o_image1, .ref a_signs, w_o_reader, .ref a_lengths, w_o_refusals, w_o_two, .int o_measured, .long o_traced])), (a_speech_values, .inl (cI, 3, .inl f_speech_values)), (a_speech_left, .inl (cI, 30, .inl f_speech_left)), (a_now, .inr (0, [.ref a_now_left, w_now_signs, .ref a_now_wordSets, .int now_sayings, .int now_words, .int now_filled])), (a_now_left, .inl (cI, 8, .inl f_now_left)), (a_now_wordSets, .inl (cI, 3, .inl f_now_wordSets)), (a_signs, .inr (4, [.ref a_speech, .ref a_now])), (a_lengths, .inr (1, [.ref a_signs, .ref a_lengths_length, .ref a_lengths_order, .ref a_lengths_start, .int lengths_found])), (a_lengths_length, .inl (cI, 512, .inl f_lengths_length)), (a_lengths_order, .inl (cI, 512, .inl f_lengths_order)), (a_lengths_start, .inl (cI, 34, .inl f_lengths_start)), (a_speech, .inr (7, [.ref a_speech_values, .ref a_speech_left, .int speech_choices, .int speech_worlds]))]) hF hA hZ hK hP hD hS (c_X8_isSet l D cI cB cZ a_speech (.ref a_speech_values) (.ref a_speech_left) speech_choices speech_worlds p1 z_5 hc_5) rfl gX10_clause_X8_isSet hdX8_isSet ⟨rfl, rfl⟩ (Nat.le_of_ble_eq_true rfl) (Nat.le_of_ble_eq_true rfl) 7 0 rfl rfl [1] [0, 2, 3, 4, 5, 6, 7, 8, 9, 10, 11] rfl rfl rfl rfl (by decide) rfl hl.1 rfl (Nat.le_of_ble_eq_true rfl) (Nat.zero_le _) (Nat.zero_le _) dX10_clause_5 (fun H locs hP hD hS => ?_)
  refine lv_if_eq (tgt := 20) hx hb dX10_clause_8 (by decide) (fun c_8 => ?_) (fun c_8 => ?_)
  · replace h := it_e c_8 h
    refine lv_iconst (v := (-1)) hx hb dX10_clause_20 ic_m1 ?_
    have hz := Option.some.inj h
    subst hz
    exact hret H locs 21 ls (fun ty h => by cases h; rfl) (hP.sub [0, 11, 1, 2, 3, 4, 5, 6, 7, 8, 9, 10] rfl) (hD.sub [0, 11, 1, 2, 3, 4, 5, 6, 7, 8, 9, 10] (by decide) rfl) hS dX10_clause_21
  · replace h := if_e c_8 h
    refine lv_iload_n hx hb dX10_clause_11 rfl (lv_at hl 2 rfl) ?_
    refine lv_if_lt (tgt := 20) hx hb dX10_clause_12 (by decide) (fun c_12 => ?_) (fun c_12 => ?_)
    · replace h := it_e c_12 h
      refine lv_iconst (v := (-1)) hx hb dX10_clause_20 ic_m1 ?_
      have hz := Option.some.inj h
      subst hz
      exact hret H locs 21 ls (fun ty h => by cases h; rfl) (hP.sub [0, 11, 1, 2, 3, 4, 5, 6, 7, 8, 9, 10] rfl) (hD.sub [0, 11, 1, 2, 3, 4, 5, 6, 7, 8, 9, 10] (by decide) rfl) hS dX10_clause_21
    · replace h := if_e c_12 h
      refine lv_iload_n hx hb dX10_clause_15 rfl (lv_at hl 2 rfl) ?_
      refine lv_iconst (v := 1) hx hb dX10_clause_16 ic_1 ?_
      refine lv_icmp_le (tgt := 22) hx hb dX10_clause_17 (by decide) (fun c_17 => ?_) (fun c_17 => ?_)
      · replace h := it_e c_17 h
        refine lv_aload_n hx hb dX10_clause_22 rfl (lv_at hl 0 rfl) ?_
        refine lv_aload_n hx hb dX10_clause_23 rfl (lv_at hl 0 rfl) ?_
        obtain ⟨z_24, hc_24, h⟩ := bd_e h
        refine q_iV (As := []) (rest := [.ref a_o]) (wF := [(a_speech_values, .inl (cI, 3, .inl f_speech_values)), (a_speech_left, .inl (cI, 30, .inl f_speech_left)), (a_now_wordSets, .inl (cI, 3, .inl f_now_wordSets)), (a_signs, .inr (4, [.ref a_speech, .ref a_now])), (a_lengths, .inr (1, [.ref a_signs, .ref a_lengths_length, .ref a_lengths_order, .ref a_lengths_start, .int lengths_found])), (a_lengths_length, .inl (cI, 512, .inl f_lengths_length)), (a_lengths_order, .inl (cI, 512, .inl f_lengths_order)), (a_lengths_start, .inl (cI, 34, .inl f_lengths_start)), (a_o, .inr (9, [w_o_text, .ref a_speech, .ref a_now, w_o_image0, w_o_image1, .ref a_signs, w_o_reader, .ref a_lengths, w_o_refusals, w_o_two, .int o_measured, .long o_traced])), (a_speech, .inr (7, [.ref a_speech_values, .ref a_speech_left, .int speech_choices, .int speech_worlds])), (a_now, .inr (0, [.ref a_now_left, w_now_signs, .ref a_now_wordSets, .int now_sayings, .int now_words, .int now_filled])), (a_now_left, .inl (cI, 8, .inl f_now_left))]) hF hA hZ hK hP hD hS (c_X10_contract l D cI cB cZ a_o w_o_text w_o_image0 w_o_image1 (.ref a_signs) w_o_reader (.ref a_lengths) w_o_refusals w_o_two o_measured o_traced a_speech (.ref a_speech_values) (.ref a_speech_left) speech_choices speech_worlds a_now w_now_signs (.ref a_now_wordSets) now_sayings now_words now_filled a_now_left f_now_left z_24 hc_24) rfl gX10_clause_X10_contract hdX10_contract ⟨rfl, rfl⟩ (Nat.le_of_ble_eq_true rfl) (Nat.le_of_ble_eq_true rfl) 9 0 rfl rfl [0, 11, 3, 4] [1, 2, 5, 6, 7, 8, 9, 10] rfl rfl rfl rfl (by decide) rfl hl.1 rfl (Nat.le_of_ble_eq_true rfl) (Nat.zero_le _) (Nat.zero_le _) dX10_clause_24 (fun H locs hP hD hS => ?_)
        refine lv_iload_n hx hb dX10_clause_27 rfl (lv_at hl 1 rfl) ?_
        obtain ⟨z_28, hc_28, h⟩ := bd_e h
        refine q_iV (As := [.int z_24, .int p1]) (rest := []) (wF := [(a_now_left, .inl (cI, 8, .inl f_now_left)), (a_o, .inr (9, [w_o_text, .ref a_speech, .ref a_now, w_o_image0, w_o_image1, .ref a_signs, w_o_reader, .ref a_lengths, w_o_refusals, w_o_two, .int z_28.2.1, .long o_traced])), (a_speech, .inr (7, [.ref a_speech_values, .ref a_speech_left, .int speech_choices, .int speech_worlds])), (a_speech_values, .inl (cI, 3, .inl f_speech_values)), (a_speech_left, .inl (cI, 30, .inl f_speech_left)), (a_now, .inr (0, [.ref a_now_left, w_now_signs, .ref a_now_wordSets, .int now_sayings, .int now_words, .int now_filled])), (a_now_wordSets, .inl (cI, 3, .inl f_now_wordSets)), (a_signs, .inr (4, [.ref a_speech, .ref a_now])), (a_lengths, .inr (1, [.ref a_signs, .ref a_lengths_length, .ref a_lengths_order, .ref a_lengths_start, .int z_28.2.2.1])), (a_lengths_length, .inl (cI, 512, .inl z_28.2.2.2.1)), (a_lengths_order, .inl (cI, 512, .inl z_28.2.2.2.2.1)), (a_lengths_start, .inl (cI, 34, .inl z_28.2.2.2.2.2))]) hF hA hZ hK hP hD hS (c_X10_shortestWithin l D cI cB cZ a_o w_o_text w_o_image0 w_o_image1 w_o_reader w_o_refusals w_o_two o_measured o_traced a_speech speech_choices speech_worlds a_speech_values f_speech_values a_speech_left f_speech_left a_now (.ref a_now_left) w_now_signs now_sayings now_words now_filled a_now_wordSets f_now_wordSets a_signs a_lengths lengths_found a_lengths_length f_lengths_length a_lengths_order f_lengths_order a_lengths_start f_lengths_start z_24 p1 z_28 hc_28) rfl gX10_clause_X10_shortestWithin hdX10_shortestWithin ⟨rfl, rfl⟩ (Nat.le_of_ble_eq_true rfl) (Nat.le_of_ble_eq_true rfl) 9 0 rfl rfl [8, 9, 0, 1, 10, 2, 3, 4, 5, 6, 7] [11] rfl rfl rfl rfl (by decide) rfl hl.1 rfl (Nat.le_of_ble_eq_true rfl) (Nat.zero_le _) (Nat.zero_le _) dX10_clause_28 (fun H locs hP hD hS => ?_)
        refine lv_istore_n (lv' := [(3, .int z_28.1), (0, .ref a_o), (1, .int p1), (2, .int p2)]) hx hb dX10_clause_31 rfl hl (by decide) rfl (fun ls hl => ?_)
        refine lv_iload_n hx hb dX10_clause_32 rfl (lv_at hl 0 rfl) ?_
        refine lv_bipush (v := (-9)) hx hb dX10_clause_33 bc_m9 ?_
        refine lv_icmp_ne (tgt := 41) hx hb dX10_clause_35 (by decide) (fun c_35 => ?_) (fun c_35 => ?_)
        · replace h := if_e c_35 h
          refine lv_iload_n hx hb dX10_clause_41 rfl (lv_at hl 3 rfl) ?_
          refine lv_if_ne (tgt := 49) hx hb dX10_clause_42 (by decide) (fun c_42 => ?_) (fun c_42 => ?_)
          · replace h := if_e c_42 h
            refine lv_aload_n hx hb dX10_clause_49 rfl (lv_at hl 1 rfl) ?_
            obtain ⟨z_50, hc_50, h⟩ := bd_e h
            refine q_rV (As := []) (rest := []) (wF := [(a_now_left, .inl (cI, 8, .inl f_now_left)), (a_o, .inr (9, [w_o_text, .ref a_speech, .ref a_now, w_o_image0, w_o_image1, .ref a_signs, w_o_reader, .ref a_lengths, w_o_refusals, w_o_two, .int z_50.1, .long o_traced])), (a_speech, .inr (7, [.ref a_speech_values, .ref a_speech_left, .int speech_choices, .int speech_worlds])), (a_speech_values, .inl (cI, 3, .inl f_speech_values)), (a_speech_left, .inl (cI, 30, .inl f_speech_left)), (a_now, .inr (0, [.ref a_now_left, w_now_signs, .ref a_now_wordSets, .int now_sayings, .int now_words, .int now_filled])), (a_now_wordSets, .inl (cI, 3, .inl f_now_wordSets)), (a_signs, .inr (4, [.ref a_speech, .ref a_now])), (a_lengths, .inr (1, [.ref a_signs, .ref a_lengths_length, .ref a_lengths_order, .ref a_lengths_start, .int z_50.2.1])), (a_lengths_length, .inl (cI, 512, .inl z_50.2.2.1)), (a_lengths_order, .inl (cI, 512, .inl z_50.2.2.2.1)), (a_lengths_start, .inl (cI, 34, .inl z_50.2.2.2.2))]) hF hA hZ hK hP hD hS (c_X10_lengthsNow l D cI cB cZ a_o w_o_text w_o_image0 w_o_image1 w_o_reader w_o_refusals w_o_two z_28.2.1 o_traced a_speech speech_choices speech_worlds a_speech_values f_speech_values a_speech_left f_speech_left a_now (.ref a_now_left) w_now_signs now_sayings now_words now_filled a_now_wordSets f_now_wordSets a_signs a_lengths z_28.2.2.1 a_lengths_length z_28.2.2.2.1 a_lengths_order z_28.2.2.2.2.1 a_lengths_start z_28.2.2.2.2.2 z_50 hc_50) rfl gX10_clause_X10_lengthsNow hdX10_lengthsNow ⟨rfl, rfl⟩ (Nat.le_of_ble_eq_true rfl) (Nat.le_of_ble_eq_true rfl) 9 0 rfl rfl [1, 2, 3, 4, 5, 6, 7, 8, 9, 10, 11] [0] rfl rfl rfl rfl (by decide) rfl hl.1 rfl (Nat.le_of_ble_eq_true rfl) (Nat.zero_le _) (Nat.zero_le _) dX10_clause_50 (fun H locs hP hD hS => ?_)
            refine lv_iload_n hx hb dX10_clause_53 rfl (lv_at hl 0 rfl) ?_
            obtain ⟨z_54, hc_54, h⟩ := bd_e h
            refine q_iV (As := [.int z_28.1]) (rest := []) (wF := [(a_now_left, .inl (cI, 8, .inl f_now_left)), (a_o, .inr (9, [w_o_text, .ref a_speech, .ref a_now, w_o_image0, w_o_image1, .ref a_signs, w_o_reader, .ref a_lengths, w_o_refusals, w_o_two, .int z_50.1, .long o_traced])), (a_speech, .inr (7, [.ref a_speech_values, .ref a_speech_left, .int speech_choices, .int speech_worlds])), (a_speech_values, .inl (cI, 3, .inl f_speech_values)), (a_speech_left, .inl (cI, 30, .inl f_speech_left)), (a_now, .inr (0, [.ref a_now_left, w_now_signs, .ref a_now_wordSets, .int now_sayings, .int now_words, .int now_filled])), (a_now_wordSets, .inl (cI, 3, .inl f_now_wordSets)), (a_signs, .inr (4, [.ref a_speech, .ref a_now])), (a_lengths_order, .inl (cI, 512, .inl z_50.2.2.2.1)), (a_lengths_start, .inl (cI, 34, .inl z_50.2.2.2.2)), (a_lengths, .inr (1, [.ref a_signs, .ref a_lengths_length, .ref a_lengths_order, .ref a_lengths_start, .int z_50.2.1])), (a_lengths_length, .inl (cI, 512, .inl z_50.2.2.1))]) hF hA hZ hK hP hD hS (c_X1_of l D cI cB cZ a_lengths (.ref a_signs) (.ref a_lengths_order) (.ref a_lengths_start) z_50.2.1 a_lengths_length z_50.2.2.1 z_28.1 z_54 hc_54) rfl gX10_clause_X1_of hdX1_of ⟨rfl, rfl⟩ (Nat.le_of_ble_eq_true rfl) (Nat.le_of_ble_eq_true rfl) 1 0 rfl rfl [8, 9] [0, 1, 2, 3, 4, 5, 6, 7, 10, 11] rfl rfl rfl rfl (by decide) rfl hl.1 rfl (Nat.le_of_ble_eq_true rfl) (Nat.zero_le _) (Nat.zero_le _) dX10_clause_54 (fun H locs hP hD hS => ?_)
            have hz := Option.some.inj h
            subst hz
            exact hret H locs 57 ls (fun ty h => by cases h; rfl) (hP.sub [1, 2, 3, 4, 5, 0, 6, 7, 10, 11, 8, 9] rfl) (hD.sub [1, 2, 3, 4, 5, 0, 6, 7, 10, 11, 8, 9] (by decide) rfl) hS dX10_clause_57
          · replace h := it_e c_42 h
            refine lv_iload_n hx hb dX10_clause_45 rfl (lv_at hl 0 rfl) ?_
            refine lv_goto (tgt := 57) hx hb dX10_clause_46 (by decide) ?_
            have hz := Option.some.inj h
            subst hz
            exact hret H locs 57 ls (fun ty h => by cases h; rfl) (hP.sub [1, 2, 3, 4, 5, 0, 6, 7, 8, 9, 10, 11] rfl) (hD.sub [1, 2, 3, 4, 5, 0, 6, 7, 8, 9, 10, 11] (by decide) rfl) hS dX10_clause_57
        · replace h := it_e c_35 h
          refine lv_bipush (v := (-9)) hx hb dX10_clause_38 bc_m9 ?_
          have hz := Option.some.inj h
          subst hz
          exact hret H locs 40 ls (fun ty h => by cases h; rfl) (hP.sub [1, 2, 3, 4, 5, 0, 6, 7, 8, 9, 10, 11] rfl) (hD.sub [1, 2, 3, 4, 5, 0, 6, 7, 8, 9, 10, 11] (by decide) rfl) hS dX10_clause_40
      · replace h := if_e c_17 h
        refine lv_iconst (v := (-1)) hx hb dX10_clause_20 ic_m1 ?_
        have hz := Option.some.inj h
        subst hz
        exact hret H locs 21 ls (fun ty h => by cases h; rfl) (hP.sub [0, 11, 1, 2, 3, 4, 5, 6, 7, 8, 9, 10] rfl) (hD.sub [0, 11, 1, 2, 3, 4, 5, 6, 7, 8, 9, 10] (by decide) rfl) hS dX10_clause_21
abbrev rmJ6_bitCount_0f7a4 : Room := { frames := 0, cells := 0, slots := 0, locals := 0 }
theorem hdJ6_bitCount_0f7a4 : yJ6_bitCount_0f7a4.cls ≠ "java/lang/invoke/MethodHandle" ∧ yJ6_bitCount_0f7a4.cls ≠ "java/lang/invoke/VarHandle" ∧ (parseMethodDescriptor yJ6_bitCount_0f7a4.desc).map (fun d => d.parameters.length) = some 1 := by decide +kernel
set_option maxRecDepth 100000 in
set_option maxHeartbeats 4000000 in
theorem c_J6_bitCount_0f7a4 (l : Launch) (D : va_G) (cI cB cZ : ClassId) (p0 : Int32) (z : Int32) (h : P_J6_bitCount_0f7a4 p0 = some z) : KI l yJ6_bitCount_0f7a4 wsJ6_bitCount_0f7a4 rmJ6_bitCount_0f7a4 D [(cI, .int), (cB, .byte), (cZ, .boolean)] [.int p0] [] [] z := by
  refine KI_of (own := RJ6) (cc := cJ6_bitCount_0f7a4) (maxL := 1) (ret := some .int) (by decide) rfl rfl (Nat.le_of_ble_eq_true rfl) (Or.inl rfl) ?_
  intro p e s m args below meth c A Q hx hb hml hown hts hA hZ hK hret H locs ls hP hD hS hl
  have hl : lv_has ls 1 [(0, .int p0)] := hl
  have hF : CallFix p m c cJ6_bitCount_0f7a4 1 s args wsJ6_bitCount_0f7a4 RJ6 := ⟨hx, hb, hml, hown, hts⟩
  have k_c0 := hts (.constant RJ6 265 (1431655765)) (by decide +kernel)
  have k_c1 := hts (.constant RJ6 266 (858993459)) (by decide +kernel)
  have k_c2 := hts (.constant RJ6 267 (252645135)) (by decide +kernel)
  unfold P_J6_bitCount_0f7a4 at h
  refine lv_iload_n hx hb dJ6_bitCount_0f7a4_0 rfl (lv_at hl 0 rfl) ?_
  refine lv_iload_n hx hb dJ6_bitCount_0f7a4_1 rfl (lv_at hl 0 rfl) ?_
  refine lv_iconst (v := 1) hx hb dJ6_bitCount_0f7a4_2 ic_1 ?_
  refine lv_iushr hx hb dJ6_bitCount_0f7a4_3 rfl ?_
  refine lv_ldcw (v := 1431655765) hx hb hown k_c0 dJ6_bitCount_0f7a4_4 ?_
  refine lv_iand hx hb dJ6_bitCount_0f7a4_7 ?_
  refine lv_isub hx hb dJ6_bitCount_0f7a4_8 ?_
  refine lv_istore_n (lv' := [(0, .int (p0 - (((p0.toUInt32 >>> ((1 : Int32).toUInt32 &&& Int32.toUInt32 31)).toInt32) &&& 1431655765)))]) hx hb dJ6_bitCount_0f7a4_9 rfl hl (by decide) rfl (fun ls hl => ?_)
  refine lv_iload_n hx hb dJ6_bitCount_0f7a4_10 rfl (lv_at hl 0 rfl) ?_
  refine lv_ldcw (v := 858993459) hx hb hown k_c1 dJ6_bitCount_0f7a4_11 ?_
  refine lv_iand hx hb dJ6_bitCount_0f7a4_14 ?_
  refine lv_iload_n hx hb dJ6_bitCount_0f7a4_15 rfl (lv_at hl 0 rfl) ?_
  refine lv_iconst (v := 2) hx hb dJ6_bitCount_0f7a4_16 ic_2 ?_
  refine lv_iushr hx hb dJ6_bitCount_0f7a4_17 rfl ?_
  refine lv_ldcw (v := 858993459) hx hb hown k_c1 dJ6_bitCount_0f7a4_18 ?_
  refine lv_iand hx hb dJ6_bitCount_0f7a4_21 ?_
  refine lv_iadd hx hb dJ6_bitCount_0f7a4_22 ?_
  refine lv_istore_n (lv' := [(0, .int (((p0 - (((p0.toUInt32 >>> ((1 : Int32).toUInt32 &&& Int32.toUInt32 31)).toInt32) &&& 1431655765)) &&& 858993459) + ((((p0 - (((p0.toUInt32 >>> ((1 : Int32).toUInt32 &&& Int32.toUInt32 31)).toInt32) &&& 1431655765)).toUInt32 >>> ((2 : Int32).toUInt32 &&& Int32.toUInt32 31)).toInt32) &&& 858993459)))]) hx hb dJ6_bitCount_0f7a4_23 rfl hl (by decide) rfl (fun ls hl => ?_)
  refine lv_iload_n hx hb dJ6_bitCount_0f7a4_24 rfl (lv_at hl 0 rfl) ?_
  refine lv_iload_n hx hb dJ6_bitCount_0f7a4_25 rfl (lv_at hl 0 rfl) ?_
  refine lv_iconst (v := 4) hx hb dJ6_bitCount_0f7a4_26 ic_4 ?_
  refine lv_iushr hx hb dJ6_bitCount_0f7a4_27 rfl ?_
  refine lv_iadd hx hb dJ6_bitCount_0f7a4_28 ?_
  refine lv_ldcw (v := 252645135) hx hb hown k_c2 dJ6_bitCount_0f7a4_29 ?_
  refine lv_iand hx hb dJ6_bitCount_0f7a4_32 ?_
  refine lv_istore_n (lv' := [(0, .int (((((p0 - (((p0.toUInt32 >>> ((1 : Int32).toUInt32 &&& Int32.toUInt32 31)).toInt32) &&& 1431655765)) &&& 858993459) + ((((p0 - (((p0.toUInt32 >>> ((1 : Int32).toUInt32 &&& Int32.toUInt32 31)).toInt32) &&& 1431655765)).toUInt32 >>> ((2 : Int32).toUInt32 &&& Int32.toUInt32 31)).toInt32) &&& 858993459)) + (((((p0 - (((p0.toUInt32 >>> ((1 : Int32).toUInt32 &&& Int32.toUInt32 31)).toInt32) &&& 1431655765)) &&& 858993459) + ((((p0 - (((p0.toUInt32 >>> ((1 : Int32).toUInt32 &&& Int32.toUInt32 31)).toInt32) &&& 1431655765)).toUInt32 >>> ((2 : Int32).toUInt32 &&& Int32.toUInt32 31)).toInt32) &&& 858993459)).toUInt32 >>> ((4 : Int32).toUInt32 &&& Int32.toUInt32 31)).toInt32)) &&& 252645135))]) hx hb dJ6_bitCount_0f7a4_33 rfl hl (by decide) rfl (fun ls hl => ?_)
  refine lv_iload_n hx hb dJ6_bitCount_0f7a4_34 rfl (lv_at hl 0 rfl) ?_
  refine lv_iload_n hx hb dJ6_bitCount_0f7a4_35 rfl (lv_at hl 0 rfl) ?_
  refine lv_bipush (v := 8) hx hb dJ6_bitCount_0f7a4_36 bc_8 ?_
  refine lv_iushr hx hb dJ6_bitCount_0f7a4_38 rfl ?_
  refine lv_iadd hx hb dJ6_bitCount_0f7a4_39 ?_
  refine lv_istore_n (lv' := [(0, .int ((((((p0 - (((p0.toUInt32 >>> ((1 : Int32).toUInt32 &&& Int32.toUInt32 31)).toInt32) &&& 1431655765)) &&& 858993459) + ((((p0 - (((p0.toUInt32 >>> ((1 : Int32).toUInt32 &&& Int32.toUInt32 31)).toInt32) &&& 1431655765)).toUInt32 >>> ((2 : Int32).toUInt32 &&& Int32.toUInt32 31)).toInt32) &&& 858993459)) + (((((p0 - (((p0.toUInt32 >>> ((1 : Int32).toUInt32 &&& Int32.toUInt32 31)).toInt32) &&& 1431655765)) &&& 858993459) + ((((p0 - (((p0.toUInt32 >>> ((1 : Int32).toUInt32 &&& Int32.toUInt32 31)).toInt32) &&& 1431655765)).toUInt32 >>> ((2 : Int32).toUInt32 &&& Int32.toUInt32 31)).toInt32) &&& 858993459)).toUInt32 >>> ((4 : Int32).toUInt32 &&& Int32.toUInt32 31)).toInt32)) &&& 252645135) + (((((((p0 - (((p0.toUInt32 >>> ((1 : Int32).toUInt32 &&& Int32.toUInt32 31)).toInt32) &&& 1431655765)) &&& 858993459) + ((((p0 - (((p0.toUInt32 >>> ((1 : Int32).toUInt32 &&& Int32.toUInt32 31)).toInt32) &&& 1431655765)).toUInt32 >>> ((2 : Int32).toUInt32 &&& Int32.toUInt32 31)).toInt32) &&& 858993459)) + (((((p0 - (((p0.toUInt32 >>> ((1 : Int32).toUInt32 &&& Int32.toUInt32 31)).toInt32) &&& 1431655765)) &&& 858993459) + ((((p0 - (((p0.toUInt32 >>> ((1 : Int32).toUInt32 &&& Int32.toUInt32 31)).toInt32) &&& 1431655765)).toUInt32 >>> ((2 : Int32).toUInt32 &&& Int32.toUInt32 31)).toInt32) &&& 858993459)).toUInt32 >>> ((4 : Int32).toUInt32 &&& Int32.toUInt32 31)).toInt32)) &&& 252645135).toUInt32 >>> ((8 : Int32).toUInt32 &&& Int32.toUInt32 31)).toInt32)))]) hx hb dJ6_bitCount_0f7a4_40 rfl hl (by decide) rfl (fun ls hl => ?_)
  refine lv_iload_n hx hb dJ6_bitCount_0f7a4_41 rfl (lv_at hl 0 rfl) ?_
  refine lv_iload_n hx hb dJ6_bitCount_0f7a4_42 rfl (lv_at hl 0 rfl) ?_
  refine lv_bipush (v := 16) hx hb dJ6_bitCount_0f7a4_43 bc_16 ?_
  refine lv_iushr hx hb dJ6_bitCount_0f7a4_45 rfl ?_
  refine lv_iadd hx hb dJ6_bitCount_0f7a4_46 ?_
  refine lv_istore_n (lv' := [(0, .int (((((((p0 - (((p0.toUInt32 >>> ((1 : Int32).toUInt32 &&& Int32.toUInt32 31)).toInt32) &&& 1431655765)) &&& 858993459) + ((((p0 - (((p0.toUInt32 >>> ((1 : Int32).toUInt32 &&& Int32.toUInt32 31)).toInt32) &&& 1431655765)).toUInt32 >>> ((2 : Int32).toUInt32 &&& Int32.toUInt32 31)).toInt32) &&& 858993459)) + (((((p0 - (((p0.toUInt32 >>> ((1 : Int32).toUInt32 &&& Int32.toUInt32 31)).toInt32) &&& 1431655765)) &&& 858993459) + ((((p0 - (((p0.toUInt32 >>> ((1 : Int32).toUInt32 &&& Int32.toUInt32 31)).toInt32) &&& 1431655765)).toUInt32 >>> ((2 : Int32).toUInt32 &&& Int32.toUInt32 31)).toInt32) &&& 858993459)).toUInt32 >>> ((4 : Int32).toUInt32 &&& Int32.toUInt32 31)).toInt32)) &&& 252645135) + (((((((p0 - (((p0.toUInt32 >>> ((1 : Int32).toUInt32 &&& Int32.toUInt32 31)).toInt32) &&& 1431655765)) &&& 858993459) + ((((p0 - (((p0.toUInt32 >>> ((1 : Int32).toUInt32 &&& Int32.toUInt32 31)).toInt32) &&& 1431655765)).toUInt32 >>> ((2 : Int32).toUInt32 &&& Int32.toUInt32 31)).toInt32) &&& 858993459)) + (((((p0 - (((p0.toUInt32 >>> ((1 : Int32).toUInt32 &&& Int32.toUInt32 31)).toInt32) &&& 1431655765)) &&& 858993459) + ((((p0 - (((p0.toUInt32 >>> ((1 : Int32).toUInt32 &&& Int32.toUInt32 31)).toInt32) &&& 1431655765)).toUInt32 >>> ((2 : Int32).toUInt32 &&& Int32.toUInt32 31)).toInt32) &&& 858993459)).toUInt32 >>> ((4 : Int32).toUInt32 &&& Int32.toUInt32 31)).toInt32)) &&& 252645135).toUInt32 >>> ((8 : Int32).toUInt32 &&& Int32.toUInt32 31)).toInt32)) + ((((((((p0 - (((p0.toUInt32 >>> ((1 : Int32).toUInt32 &&& Int32.toUInt32 31)).toInt32) &&& 1431655765)) &&& 858993459) + ((((p0 - (((p0.toUInt32 >>> ((1 : Int32).toUInt32 &&& Int32.toUInt32 31)).toInt32) &&& 1431655765)).toUInt32 >>> ((2 : Int32).toUInt32 &&& Int32.toUInt32 31)).toInt32) &&& 858993459)) + (((((p0 - (((p0.toUInt32 >>> ((1 : Int32).toUInt32 &&& Int32.toUInt32 31)).toInt32) &&& 1431655765)) &&& 858993459) + ((((p0 - (((p0.toUInt32 >>> ((1 : Int32).toUInt32 &&& Int32.toUInt32 31)).toInt32) &&& 1431655765)).toUInt32 >>> ((2 : Int32).toUInt32 &&& Int32.toUInt32 31)).toInt32) &&& 858993459)).toUInt32 >>> ((4 : Int32).toUInt32 &&& Int32.toUInt32 31)).toInt32)) &&& 252645135) + (((((((p0 - (((p0.toUInt32 >>> ((1 : Int32).toUInt32 &&& Int32.toUInt32 31)).toInt32) &&& 1431655765)) &&& 858993459) + ((((p0 - (((p0.toUInt32 >>> ((1 : Int32).toUInt32 &&& Int32.toUInt32 31)).toInt32) &&& 1431655765)).toUInt32 >>> ((2 : Int32).toUInt32 &&& Int32.toUInt32 31)).toInt32) &&& 858993459)) + (((((p0 - (((p0.toUInt32 >>> ((1 : Int32).toUInt32 &&& Int32.toUInt32 31)).toInt32) &&& 1431655765)) &&& 858993459) + ((((p0 - (((p0.toUInt32 >>> ((1 : Int32).toUInt32 &&& Int32.toUInt32 31)).toInt32) &&& 1431655765)).toUInt32 >>> ((2 : Int32).toUInt32 &&& Int32.toUInt32 31)).toInt32) &&& 858993459)).toUInt32 >>> ((4 : Int32).toUInt32 &&& Int32.toUInt32 31)).toInt32)) &&& 252645135).toUInt32 >>> ((8 : Int32).toUInt32 &&& Int32.toUInt32 31)).toInt32)).toUInt32 >>> ((16 : Int32).toUInt32 &&& Int32.toUInt32 31)).toInt32)))]) hx hb dJ6_bitCount_0f7a4_47 rfl hl (by decide) rfl (fun ls hl => ?_)
  refine lv_iload_n hx hb dJ6_bitCount_0f7a4_48 rfl (lv_at hl 0 rfl) ?_
  refine lv_bipush (v := 63) hx hb dJ6_bitCount_0f7a4_49 bc_63 ?_
  refine lv_iand hx hb dJ6_bitCount_0f7a4_51 ?_
  have hz := Option.some.inj h
  subst hz
  exact hret H locs 52 ls (fun ty h => by cases h; rfl) hP hD hS dJ6_bitCount_0f7a4_52
abbrev rmX10_lostWithout : Room := { frames := 4, cells := 0, slots := 0, locals := 85 }
theorem hdX10_lostWithout : yX10_lostWithout.cls = RX10 ∧ yX10_lostWithout.cls ≠ "java/lang/invoke/MethodHandle" ∧ yX10_lostWithout.cls ≠ "java/lang/invoke/VarHandle" ∧ (parseMethodDescriptor yX10_lostWithout.desc).map (fun d => d.parameters.length) = some 1 := by decide +kernel
set_option maxRecDepth 100000 in
set_option maxHeartbeats 4000000 in
theorem c_X10_lostWithout (l : Launch) (D : va_G) (cI cB cZ : ClassId) (a_o : Nat) (w_o_text : Value) (w_o_image0 : Value) (w_o_image1 : Value) (w_o_signs : Value) (w_o_reader : Value) (w_o_lengths : Value) (w_o_refusals : Value) (w_o_two : Value) (o_measured : Int32) (o_traced : Int64) (a_speech : Nat) (w_speech_values : Value) (w_speech_left : Value) (speech_choices : Int32) (speech_worlds : Int32) (a_now : Nat) (w_now_signs : Value) (w_now_wordSets : Value) (now_sayings : Int32) (now_words : Int32) (now_filled : Int32) (a_now_left : Nat) (f_now_left : Nat → Int32) (p1 : Int32) (z : Int32) (h : P_X10_lostWithout p1 speech_worlds now_sayings f_now_left = some z) : KI l yX10_lostWithout wsX10_lostWithout rmX10_lostWithout D [(cI, .int), (cB, .byte), (cZ, .boolean)] [.ref a_o, .int p1] [(a_o, .inr (9, [w_o_text, .ref a_speech, .ref a_now, w_o_image0, w_o_image1, w_o_signs, w_o_reader, w_o_lengths, w_o_refusals, w_o_two, .int o_measured, .long o_traced])), (a_speech, .inr (7, [w_speech_values, w_speech_left, .int speech_choices, .int speech_worlds])), (a_now, .inr (0, [.ref a_now_left, w_now_signs, w_now_wordSets, .int now_sayings, .int now_words, .int now_filled])), (a_now_left, .inl (cI, 8, .inl f_now_left))] [(a_o, .inr (9, [w_o_text, .ref a_speech, .ref a_now, w_o_image0, w_o_image1, w_o_signs, w_o_reader, w_o_lengths, w_o_refusals, w_o_two, .int o_measured, .long o_traced])), (a_speech, .inr (7, [w_speech_values, w_speech_left, .int speech_choices, .int speech_worlds])), (a_now, .inr (0, [.ref a_now_left, w_now_signs, w_now_wordSets, .int now_sayings, .int now_words, .int now_filled])), (a_now_left, .inl (cI, 8, .inl f_now_left))] z := by
  refine KI_of (own := RX10) (cc := cX10_lostWithout) (maxL := 2) (ret := some .int) (by decide) rfl rfl (Nat.le_of_ble_eq_true rfl) (Or.inl rfl) ?_
  intro p e s m args below meth c A Q hx hb hml hown hts hA hZ hK hret H locs ls hP hD hS hl
  have hl : lv_has ls 2 [(0, .ref a_o), (1, .int p1)] := hl
  have hF : CallFix p m c cX10_lostWithout 2 s args wsX10_lostWithout RX10 := ⟨hx, hb, hml, hown, hts⟩
  unfold P_X10_lostWithout at h
  refine lv_aload_n hx hb dX10_lostWithout_0 rfl (lv_at hl 0 rfl) ?_
  refine lv_iload_n hx hb dX10_lostWithout_1 rfl (lv_at hl 1 rfl) ?_
  obtain ⟨z_2, hc_2, h⟩ := bd_e h
  refine q_iV (As := [.int p1]) (rest := []) (wF := [(a_o, .inr (9, [w_o_text, .ref a_speech, .ref a_now, w_o_image0, w_o_image1, w_o_signs, w_o_reader, w_o_lengths, w_o_refusals, w_o_two, .int o_measured, .long o_traced])), (a_speech, .inr (7, [w_speech_values, w_speech_left, .int speech_choices, .int speech_worlds])), (a_now, .inr (0, [.ref a_now_left, w_now_signs, w_now_wordSets, .int now_sayings, .int now_words, .int now_filled])), (a_now_left, .inl (cI, 8, .inl f_now_left))]) hF hA hZ hK hP hD hS (c_X10_contractWithout l D cI cB cZ a_o w_o_text w_o_image0 w_o_image1 w_o_signs w_o_reader w_o_lengths w_o_refusals w_o_two o_measured o_traced a_speech w_speech_values w_speech_left speech_choices speech_worlds a_now w_now_signs w_now_wordSets now_sayings now_words now_filled a_now_left f_now_left p1 z_2 hc_2) rfl gX10_lostWithout_X10_contractWithout hdX10_contractWithout ⟨rfl, rfl⟩ (Nat.le_of_ble_eq_true rfl) (Nat.le_of_ble_eq_true rfl) 9 0 rfl rfl [0, 1, 2, 3] [] rfl rfl rfl rfl (by decide) rfl hl.1 rfl (Nat.le_of_ble_eq_true rfl) (Nat.zero_le _) (Nat.zero_le _) dX10_lostWithout_2 (fun H locs hP hD hS => ?_)
  obtain ⟨z_5, hc_5, h⟩ := bd_e h
  refine q_iS (As := [.int z_2]) (rest := []) (wF := [(a_o, .inr (9, [w_o_text, .ref a_speech, .ref a_now, w_o_image0, w_o_image1, w_o_signs, w_o_reader, w_o_lengths, w_o_refusals, w_o_two, .int o_measured, .long o_traced])), (a_speech, .inr (7, [w_speech_values, w_speech_left, .int speech_choices, .int speech_worlds])), (a_now, .inr (0, [.ref a_now_left, w_now_signs, w_now_wordSets, .int now_sayings, .int now_words, .int now_filled])), (a_now_left, .inl (cI, 8, .inl f_now_left))]) hF hA hZ hK hP hD hS (c_J6_bitCount_0f7a4 l D cI cB cZ z_2 z_5 hc_5) rfl gX10_lostWithout_J6_bitCount_0f7a4 hdJ6_bitCount_0f7a4 ⟨rfl, rfl⟩ (Nat.le_of_ble_eq_true rfl) (Nat.le_of_ble_eq_true rfl) [] [0, 1, 2, 3] rfl rfl rfl rfl (by decide) rfl hl.1 rfl (Nat.le_of_ble_eq_true rfl) (Nat.zero_le _) (Nat.zero_le _) dX10_lostWithout_5 (fun H locs hP hD hS => ?_)
  refine lv_aload_n hx hb dX10_lostWithout_8 rfl (lv_at hl 0 rfl) ?_
  obtain ⟨z_9, hc_9, h⟩ := bd_e h
  refine q_iV (As := []) (rest := [.int z_5]) (wF := [(a_o, .inr (9, [w_o_text, .ref a_speech, .ref a_now, w_o_image0, w_o_image1, w_o_signs, w_o_reader, w_o_lengths, w_o_refusals, w_o_two, .int o_measured, .long o_traced])), (a_speech, .inr (7, [w_speech_values, w_speech_left, .int speech_choices, .int speech_worlds])), (a_now, .inr (0, [.ref a_now_left, w_now_signs, w_now_wordSets, .int now_sayings, .int now_words, .int now_filled])), (a_now_left, .inl (cI, 8, .inl f_now_left))]) hF hA hZ hK hP hD hS (c_X10_contract l D cI cB cZ a_o w_o_text w_o_image0 w_o_image1 w_o_signs w_o_reader w_o_lengths w_o_refusals w_o_two o_measured o_traced a_speech w_speech_values w_speech_left speech_choices speech_worlds a_now w_now_signs w_now_wordSets now_sayings now_words now_filled a_now_left f_now_left z_9 hc_9) rfl gX10_lostWithout_X10_contract hdX10_contract ⟨rfl, rfl⟩ (Nat.le_of_ble_eq_true rfl) (Nat.le_of_ble_eq_true rfl) 9 0 rfl rfl [0, 1, 2, 3] [] rfl rfl rfl rfl (by decide) rfl hl.1 rfl (Nat.le_of_ble_eq_true rfl) (Nat.zero_le _) (Nat.zero_le _) dX10_lostWithout_9 (fun H locs hP hD hS => ?_)
  obtain ⟨z_12, hc_12, h⟩ := bd_e h
  refine q_iS (As := [.int z_9]) (rest := [.int z_5]) (wF := [(a_o, .inr (9, [w_o_text, .ref a_speech, .ref a_now, w_o_image0, w_o_image1, w_o_signs, w_o_reader, w_o_lengths, w_o_refusals, w_o_two, .int o_measured, .long o_traced])), (a_speech, .inr (7, [w_speech_values, w_speech_left, .int speech_choices, .int speech_worlds])), (a_now, .inr (0, [.ref a_now_left, w_now_signs, w_now_wordSets, .int now_sayings, .int now_words, .int now_filled])), (a_now_left, .inl (cI, 8, .inl f_now_left))]) hF hA hZ hK hP hD hS (c_J6_bitCount_0f7a4 l D cI cB cZ z_9 z_12 hc_12) rfl gX10_lostWithout_J6_bitCount_0f7a4 hdJ6_bitCount_0f7a4 ⟨rfl, rfl⟩ (Nat.le_of_ble_eq_true rfl) (Nat.le_of_ble_eq_true rfl) [] [0, 1, 2, 3] rfl rfl rfl rfl (by decide) rfl hl.1 rfl (Nat.le_of_ble_eq_true rfl) (Nat.zero_le _) (Nat.zero_le _) dX10_lostWithout_12 (fun H locs hP hD hS => ?_)
  refine lv_isub hx hb dX10_lostWithout_15 ?_
  have hz := Option.some.inj h
  subst hz
  exact hret H locs 16 ls (fun ty h => by cases h; rfl) hP hD hS dX10_lostWithout_16
abbrev rmX10_lost : Room := { frames := 5, cells := 0, slots := 0, locals := 106 }
theorem hdX10_lost : yX10_lost.cls = RX10 ∧ yX10_lost.cls ≠ "java/lang/invoke/MethodHandle" ∧ yX10_lost.cls ≠ "java/lang/invoke/VarHandle" ∧ (parseMethodDescriptor yX10_lost.desc).map (fun d => d.parameters.length) = some 1 := by decide +kernel
set_option maxRecDepth 100000 in
set_option maxHeartbeats 4000000 in
theorem c_X10_lost (l : Launch) (D : va_G) (cI cB cZ : ClassId) (a_o : Nat) (w_o_text : Value) (w_o_image0 : Value) (w_o_image1 : Value) (w_o_signs : Value) (w_o_reader : Value) (w_o_lengths : Value) (w_o_refusals : Value) (w_o_two : Value) (o_measured : Int32) (o_traced : Int64) (a_speech : Nat) (w_speech_values : Value) (w_speech_left : Value) (speech_choices : Int32) (speech_worlds : Int32) (a_now : Nat) (w_now_signs : Value) (w_now_wordSets : Value) (now_sayings : Int32) (now_words : Int32) (now_filled : Int32) (a_now_left : Nat) (f_now_left : Nat → Int32) (p1 : Int32) (z : Int32) (h : P_X10_lost p1 speech_worlds now_sayings f_now_left = some z) : KI l yX10_lost wsX10_lost rmX10_lost D [(cI, .int), (cB, .byte), (cZ, .boolean)] [.ref a_o, .int p1] [(a_o, .inr (9, [w_o_text, .ref a_speech, .ref a_now, w_o_image0, w_o_image1, w_o_signs, w_o_reader, w_o_lengths, w_o_refusals, w_o_two, .int o_measured, .long o_traced])), (a_speech, .inr (7, [w_speech_values, w_speech_left, .int speech_choices, .int speech_worlds])), (a_now, .inr (0, [.ref a_now_left, w_now_signs, w_now_wordSets, .int now_sayings, .int now_words, .int now_filled])), (a_now_left, .inl (cI, 8, .inl f_now_left))] [(a_o, .inr (9, [w_o_text, .ref a_speech, .ref a_now, w_o_image0, w_o_image1, w_o_signs, w_o_reader, w_o_lengths, w_o_refusals, w_o_two, .int o_measured, .long o_traced])), (a_speech, .inr (7, [w_speech_values, w_speech_left, .int speech_choices, .int speech_worlds])), (a_now, .inr (0, [.ref a_now_left, w_now_signs, w_now_wordSets, .int now_sayings, .int now_words, .int now_filled])), (a_now_left, .inl (cI, 8, .inl f_now_left))] z := by
  refine KI_of (own := RX10) (cc := cX10_lost) (maxL := 2) (ret := some .int) (by decide) rfl rfl (Nat.le_of_ble_eq_true rfl) (Or.inl rfl) ?_
  intro p e s m args below meth c A Q hx hb hml hown hts hA hZ hK hret H locs ls hP hD hS hl
  have hl : lv_has ls 2 [(0, .ref a_o), (1, .int p1)] := hl
  have hF : CallFix p m c cX10_lost 2 s args wsX10_lost RX10 := ⟨hx, hb, hml, hown, hts⟩
  have u_X10 : ∀ w ∈ u_ws RX10 TX10 12, w ∈ wsX10_lost := by decide +kernel
  have k_f0 := hts (.fieldLink RX10 26 "NoWordNo" "now" "LNoWordNo$Kept;") (by decide +kernel)
  unfold P_X10_lost at h
  refine lv_aload_n hx hb dX10_lost_0 rfl (lv_at hl 0 rfl) ?_
  refine va_get (D := D) (ci := 9) (v := .ref a_now) (C := RX10) (T := TX10) (N := 12) hx hb hts u_X10 hown hK hP 0 rfl rfl 2 (by decide) k_f0 (fun _ h9 => h9) rfl dX10_lost_1 ?_
  refine lv_iload_n hx hb dX10_lost_4 rfl (lv_at hl 1 rfl) ?_
  obtain ⟨z_5, hc_5, h⟩ := bd_e h
  refine q_iV (As := [.int p1]) (rest := []) (wF := [(a_o, .inr (9, [w_o_text, .ref a_speech, .ref a_now, w_o_image0, w_o_image1, w_o_signs, w_o_reader, w_o_lengths, w_o_refusals, w_o_two, .int o_measured, .long o_traced])), (a_speech, .inr (7, [w_speech_values, w_speech_left, .int speech_choices, .int speech_worlds])), (a_now_left, .inl (cI, 8, .inl f_now_left)), (a_now, .inr (0, [.ref a_now_left, w_now_signs, w_now_wordSets, .int now_sayings, .int now_words, .int now_filled]))]) hF hA hZ hK hP hD hS (c_X0_isSaying l D cI cB cZ a_now (.ref a_now_left) w_now_signs w_now_wordSets now_sayings now_words now_filled p1 z_5 hc_5) rfl gX10_lost_X0_isSaying hdX0_isSaying ⟨rfl, rfl⟩ (Nat.le_of_ble_eq_true rfl) (Nat.le_of_ble_eq_true rfl) 0 0 rfl rfl [2] [0, 1, 3] rfl rfl rfl rfl (by decide) rfl hl.1 rfl (Nat.le_of_ble_eq_true rfl) (Nat.zero_le _) (Nat.zero_le _) dX10_lost_5 (fun H locs hP hD hS => ?_)
  refine lv_if_eq (tgt := 19) hx hb dX10_lost_8 (by decide) (fun c_8 => ?_) (fun c_8 => ?_)
  · replace h := it_e c_8 h
    refine lv_iconst (v := (-1)) hx hb dX10_lost_19 ic_m1 ?_
    have hz := Option.some.inj h
    subst hz
    exact hret H locs 20 ls (fun ty h => by cases h; rfl) (hP.sub [0, 1, 3, 2] rfl) (hD.sub [0, 1, 3, 2] (by decide) rfl) hS dX10_lost_20
  · replace h := if_e c_8 h
    refine lv_aload_n hx hb dX10_lost_11 rfl (lv_at hl 0 rfl) ?_
    refine lv_iload_n hx hb dX10_lost_12 rfl (lv_at hl 1 rfl) ?_
    obtain ⟨z_13, hc_13, h⟩ := bd_e h
    refine q_iV (As := [.int p1]) (rest := []) (wF := [(a_o, .inr (9, [w_o_text, .ref a_speech, .ref a_now, w_o_image0, w_o_image1, w_o_signs, w_o_reader, w_o_lengths, w_o_refusals, w_o_two, .int o_measured, .long o_traced])), (a_speech, .inr (7, [w_speech_values, w_speech_left, .int speech_choices, .int speech_worlds])), (a_now, .inr (0, [.ref a_now_left, w_now_signs, w_now_wordSets, .int now_sayings, .int now_words, .int now_filled])), (a_now_left, .inl (cI, 8, .inl f_now_left))]) hF hA hZ hK hP hD hS (c_X10_lostWithout l D cI cB cZ a_o w_o_text w_o_image0 w_o_image1 w_o_signs w_o_reader w_o_lengths w_o_refusals w_o_two o_measured o_traced a_speech w_speech_values w_speech_left speech_choices speech_worlds a_now w_now_signs w_now_wordSets now_sayings now_words now_filled a_now_left f_now_left p1 z_13 hc_13) rfl gX10_lost_X10_lostWithout hdX10_lostWithout ⟨rfl, rfl⟩ (Nat.le_of_ble_eq_true rfl) (Nat.le_of_ble_eq_true rfl) 9 0 rfl rfl [0, 1, 3, 2] [] rfl rfl rfl rfl (by decide) rfl hl.1 rfl (Nat.le_of_ble_eq_true rfl) (Nat.zero_le _) (Nat.zero_le _) dX10_lost_13 (fun H locs hP hD hS => ?_)
    refine lv_goto (tgt := 20) hx hb dX10_lost_16 (by decide) ?_
    have hz := Option.some.inj h
    subst hz
    exact hret H locs 20 ls (fun ty h => by cases h; rfl) hP hD hS dX10_lost_20
abbrev rmX10_isSeen : Room := { frames := 0, cells := 0, slots := 0, locals := 0 }
theorem hdX10_isSeen : yX10_isSeen.cls ≠ "java/lang/invoke/MethodHandle" ∧ yX10_isSeen.cls ≠ "java/lang/invoke/VarHandle" ∧ (parseMethodDescriptor yX10_isSeen.desc).map (fun d => d.parameters.length) = some 1 := by decide +kernel
set_option maxRecDepth 100000 in
set_option maxHeartbeats 4000000 in
theorem c_X10_isSeen (l : Launch) (D : va_G) (cI cB cZ : ClassId) (p0 : Int32) (z : Int32) (h : P_X10_isSeen p0 = some z) : KI l yX10_isSeen wsX10_isSeen rmX10_isSeen D [(cI, .int), (cB, .byte), (cZ, .boolean)] [.int p0] [] [] z := by
  refine KI_of (own := RX10) (cc := cX10_isSeen) (maxL := 1) (ret := some .boolean) (by decide) rfl rfl (Nat.le_of_ble_eq_true rfl) (Or.inr rfl) ?_
  intro p e s m args below meth c A Q hx hb hml hown hts hA hZ hK hret H locs ls hP hD hS hl
  have hl : lv_has ls 1 [(0, .int p0)] := hl
  have hF : CallFix p m c cX10_isSeen 1 s args wsX10_isSeen RX10 := ⟨hx, hb, hml, hown, hts⟩
  unfold P_X10_isSeen at h
  refine lv_iload_n hx hb dX10_isSeen_0 rfl (lv_at hl 0 rfl) ?_
  refine lv_if_lt (tgt := 14) hx hb dX10_isSeen_1 (by decide) (fun c_1 => ?_) (fun c_1 => ?_)
  · replace h := it_e c_1 h
    refine lv_iconst (v := 0) hx hb dX10_isSeen_14 ic_0 ?_
    have hz := Option.some.inj h
    subst hz
    exact hret H locs 15 ls (fun ty h => by cases h; exact nar_0) hP hD hS dX10_isSeen_15
  · replace h := if_e c_1 h
    refine lv_iload_n hx hb dX10_isSeen_4 rfl (lv_at hl 0 rfl) ?_
    refine lv_bipush (v := 7) hx hb dX10_isSeen_5 bc_7 ?_
    refine lv_icmp_gt (tgt := 14) hx hb dX10_isSeen_7 (by decide) (fun c_7 => ?_) (fun c_7 => ?_)
    · replace h := it_e c_7 h
      refine lv_iconst (v := 0) hx hb dX10_isSeen_14 ic_0 ?_
      have hz := Option.some.inj h
      subst hz
      exact hret H locs 15 ls (fun ty h => by cases h; exact nar_0) hP hD hS dX10_isSeen_15
    · replace h := if_e c_7 h
      refine lv_iconst (v := 1) hx hb dX10_isSeen_10 ic_1 ?_
      refine lv_goto (tgt := 15) hx hb dX10_isSeen_11 (by decide) ?_
      have hz := Option.some.inj h
      subst hz
      exact hret H locs 15 ls (fun ty h => by cases h; exact nar_1) hP hD hS dX10_isSeen_15
abbrev rmX8_worlds : Room := { frames := 0, cells := 0, slots := 0, locals := 0 }
theorem hdX8_worlds : yX8_worlds.cls = RX8 ∧ yX8_worlds.cls ≠ "java/lang/invoke/MethodHandle" ∧ yX8_worlds.cls ≠ "java/lang/invoke/VarHandle" ∧ (parseMethodDescriptor yX8_worlds.desc).map (fun d => d.parameters.length) = some 0 := by decide +kernel
set_option maxRecDepth 100000 in
set_option maxHeartbeats 4000000 in
theorem c_X8_worlds (l : Launch) (D : va_G) (cI cB cZ : ClassId) (a_o : Nat) (w_o_values : Value) (w_o_left : Value) (o_choices : Int32) (o_worlds : Int32) (z : Int32) (h : P_X8_worlds o_worlds = some z) : KI l yX8_worlds wsX8_worlds rmX8_worlds D [(cI, .int), (cB, .byte), (cZ, .boolean)] [.ref a_o] [(a_o, .inr (7, [w_o_values, w_o_left, .int o_choices, .int o_worlds]))] [(a_o, .inr (7, [w_o_values, w_o_left, .int o_choices, .int o_worlds]))] z := by
  refine KI_of (own := RX8) (cc := cX8_worlds) (maxL := 1) (ret := some .int) (by decide) rfl rfl (Nat.le_of_ble_eq_true rfl) (Or.inl rfl) ?_
  intro p e s m args below meth c A Q hx hb hml hown hts hA hZ hK hret H locs ls hP hD hS hl
  have hl : lv_has ls 1 [(0, .ref a_o)] := hl
  have hF : CallFix p m c cX8_worlds 1 s args wsX8_worlds RX8 := ⟨hx, hb, hml, hown, hts⟩
  have u_X8 : ∀ w ∈ u_ws RX8 TX8 4, w ∈ wsX8_worlds := by decide +kernel
  have k_f0 := hts (.fieldLink RX8 20 "NoWordNo$Tongue" "worlds" "I") (by decide +kernel)
  unfold P_X8_worlds at h
  refine lv_aload_n hx hb dX8_worlds_0 rfl (lv_at hl 0 rfl) ?_
  refine va_get (D := D) (ci := 7) (v := .int o_worlds) (C := RX8) (T := TX8) (N := 4) hx hb hts u_X8 hown hK hP 0 rfl rfl 3 (by decide) k_f0 (fun _ h9 => h9) rfl dX8_worlds_1 ?_
  have hz := Option.some.inj h
  subst hz
  exact hret H locs 4 ls (fun ty h => by cases h; rfl) hP hD hS dX8_worlds_4
abbrev rmX4_has : Room := { frames := 0, cells := 0, slots := 0, locals := 0 }
theorem hdX4_has : yX4_has.cls ≠ "java/lang/invoke/MethodHandle" ∧ yX4_has.cls ≠ "java/lang/invoke/VarHandle" ∧ (parseMethodDescriptor yX4_has.desc).map (fun d => d.parameters.length) = some 2 := by decide +kernel
set_option maxRecDepth 100000 in
set_option maxHeartbeats 4000000 in
theorem c_X4_has (l : Launch) (D : va_G) (cI cB cZ : ClassId) (p0 : Int32) (p1 : Int32) (z : Int32) (h : P_X4_has p0 p1 = some z) : KI l yX4_has wsX4_has rmX4_has D [(cI, .int), (cB, .byte), (cZ, .boolean)] [.int p0, .int p1] [] [] z := by
  refine KI_of (own := RX4) (cc := cX4_has) (maxL := 2) (ret := some .boolean) (by decide) rfl rfl (Nat.le_of_ble_eq_true rfl) (Or.inr rfl) ?_
  intro p e s m args below meth c A Q hx hb hml hown hts hA hZ hK hret H locs ls hP hD hS hl
  have hl : lv_has ls 2 [(0, .int p0), (1, .int p1)] := hl
  have hF : CallFix p m c cX4_has 2 s args wsX4_has RX4 := ⟨hx, hb, hml, hown, hts⟩
  unfold P_X4_has at h
  refine lv_iload_n hx hb dX4_has_0 rfl (lv_at hl 1 rfl) ?_
  refine lv_if_lt (tgt := 22) hx hb dX4_has_1 (by decide) (fun c_1 => ?_) (fun c_1 => ?_)
  · replace h := it_e c_1 h
    refine lv_iconst (v := 0) hx hb dX4_has_22 ic_0 ?_
    have hz := Option.some.inj h
    subst hz
    exact hret H locs 23 ls (fun ty h => by cases h; exact nar_0) hP hD hS dX4_has_23
  · replace h := if_e c_1 h
    refine lv_iload_n hx hb dX4_has_4 rfl (lv_at hl 1 rfl) ?_
    refine lv_bipush (v := 9) hx hb dX4_has_5 bc_9 ?_
    refine lv_icmp_ge (tgt := 22) hx hb dX4_has_7 (by decide) (fun c_7 => ?_) (fun c_7 => ?_)
    · replace h := it_e c_7 h
      refine lv_iconst (v := 0) hx hb dX4_has_22 ic_0 ?_
      have hz := Option.some.inj h
      subst hz
      exact hret H locs 23 ls (fun ty h => by cases h; exact nar_0) hP hD hS dX4_has_23
    · replace h := if_e c_7 h
      refine lv_iload_n hx hb dX4_has_10 rfl (lv_at hl 0 rfl) ?_
      refine lv_iconst (v := 1) hx hb dX4_has_11 ic_1 ?_
      refine lv_iload_n hx hb dX4_has_12 rfl (lv_at hl 1 rfl) ?_
      refine lv_ishl hx hb dX4_has_13 ?_
      refine lv_iand hx hb dX4_has_14 ?_
      refine lv_if_eq (tgt := 22) hx hb dX4_has_15 (by decide) (fun c_15 => ?_) (fun c_15 => ?_)
      · replace h := it_e c_15 h
        refine lv_iconst (v := 0) hx hb dX4_has_22 ic_0 ?_
        have hz := Option.some.inj h
        subst hz
        exact hret H locs 23 ls (fun ty h => by cases h; exact nar_0) hP hD hS dX4_has_23
      · replace h := if_e c_15 h
        refine lv_iconst (v := 1) hx hb dX4_has_18 ic_1 ?_
        refine lv_goto (tgt := 23) hx hb dX4_has_19 (by decide) ?_
        have hz := Option.some.inj h
        subst hz
        exact hret H locs 23 ls (fun ty h => by cases h; exact nar_1) hP hD hS dX4_has_23
abbrev rmX8_looksLike : Room := { frames := 3, cells := 0, slots := 0, locals := 66 }
theorem hdX8_looksLike : yX8_looksLike.cls = RX8 ∧ yX8_looksLike.cls ≠ "java/lang/invoke/MethodHandle" ∧ yX8_looksLike.cls ≠ "java/lang/invoke/VarHandle" ∧ (parseMethodDescriptor yX8_looksLike.desc).map (fun d => d.parameters.length) = some 2 := by decide +kernel
set_option maxRecDepth 100000 in
set_option maxHeartbeats 4000000 in
theorem c_X8_looksLike (l : Launch) (D : va_G) (cI cB cZ : ClassId) (a_o : Nat) (o_choices : Int32) (o_worlds : Int32) (a_values : Nat) (f_values : Nat → Int32) (a_left : Nat) (f_left : Nat → Int32) (p1 : Int32) (p2 : Int32) (z : Int32) (h : P_X8_looksLike p1 p2 o_choices o_worlds f_values f_left = some z) : KI l yX8_looksLike wsX8_looksLike rmX8_looksLike D [(cI, .int), (cB, .byte), (cZ, .boolean)] [.ref a_o, .int p1, .int p2] [(a_o, .inr (7, [.ref a_values, .ref a_left, .int o_choices, .int o_worlds])), (a_values, .inl (cI, 3, .inl f_values)), (a_left, .inl (cI, 30, .inl f_left))] [(a_o, .inr (7, [.ref a_values, .ref a_left, .int o_choices, .int o_worlds])), (a_values, .inl (cI, 3, .inl f_values)), (a_left, .inl (cI, 30, .inl f_left))] z := by
  refine KI_of (own := RX8) (cc := cX8_looksLike) (maxL := 5) (ret := some .int) (by decide) rfl rfl (Nat.le_of_ble_eq_true rfl) (Or.inl rfl) ?_
  intro p e s m args below meth c A Q hx hb hml hown hts hA hZ hK hret H locs ls hP hD hS hl
  have hl : lv_has ls 5 [(0, .ref a_o), (1, .int p1), (2, .int p2)] := hl
  have hF : CallFix p m c cX8_looksLike 5 s args wsX8_looksLike RX8 := ⟨hx, hb, hml, hown, hts⟩
  have u_X8 : ∀ w ∈ u_ws RX8 TX8 4, w ∈ wsX8_looksLike := by decide +kernel
  have k_f0 := hts (.fieldLink RX8 16 "NoWordNo$Tongue" "choices" "I") (by decide +kernel)
  unfold P_X8_looksLike at h
  refine lv_aload_n hx hb dX8_looksLike_0 rfl (lv_at hl 0 rfl) ?_
  obtain ⟨z_1, hc_1, h⟩ := bd_e h
  refine q_iV (As := []) (rest := []) (wF := [(a_values, .inl (cI, 3, .inl f_values)), (a_left, .inl (cI, 30, .inl f_left)), (a_o, .inr (7, [.ref a_values, .ref a_left, .int o_choices, .int o_worlds]))]) hF hA hZ hK hP hD hS (c_X8_all l D cI cB cZ a_o (.ref a_values) (.ref a_left) o_choices o_worlds z_1 hc_1) rfl gX8_looksLike_X8_all hdX8_all ⟨rfl, rfl⟩ (Nat.le_of_ble_eq_true rfl) (Nat.le_of_ble_eq_true rfl) 7 0 rfl rfl [0] [1, 2] rfl rfl rfl rfl (by decide) rfl hl.1 rfl (Nat.le_of_ble_eq_true rfl) (Nat.zero_le _) (Nat.zero_le _) dX8_looksLike_1 (fun H locs hP hD hS => ?_)
  refine lv_istore_n (lv' := [(3, .int z_1), (0, .ref a_o), (1, .int p1), (2, .int p2)]) hx hb dX8_looksLike_4 rfl hl (by decide) rfl (fun ls hl => ?_)
  refine lv_iconst (v := 0) hx hb dX8_looksLike_5 ic_0 ?_
  refine lv_istore (lv' := [(4, .int 0), (3, .int z_1), (0, .ref a_o), (1, .int p1), (2, .int p2)]) hx hb dX8_looksLike_6 hl (by decide) rfl (fun ls hl => ?_)
  have L8 : ∀ (n : Nat), ∀ (x8_l3 : Int32) (x8_l4 : Int32) (H : Heap) (locs : List Loc) (ls : Array Slot), P_X8_looksLike_8 p1 p2 o_choices f_values f_left n x8_l3 x8_l4 = some z → va_P D vwCl [(a_values, .inl (cI, 3, .inl f_values)), (a_left, .inl (cI, 30, .inl f_left)), (a_o, .inr (7, [.ref a_values, .ref a_left, .int o_choices, .int o_worlds]))] H → va_D A [(a_values, .inl (cI, 3, .inl f_values)), (a_left, .inl (cI, 30, .inl f_left)), (a_o, .inr (7, [.ref a_values, .ref a_left, .int o_choices, .int o_worlds]))] → va_S A s.heap H locs → lv_has ls 5 [(0, .ref a_o), (1, .int p1), (2, .int p2), (3, .int x8_l3), (4, .int x8_l4)] → W p l e rmX8_looksLike s m args below meth c H locs 0 0 Q (F0 m 8 ls []) := by
    intro n
    induction n with
    | zero =>
      intro x8_l3 x8_l4 H locs ls h
      exact no_e h
    | succ n ih8 =>
      intro x8_l3 x8_l4 H locs ls h hP hD hS hl
      rw [P_X8_looksLike_8] at h
      refine lv_iload hx hb dX8_looksLike_8 (lv_at hl 4 rfl) ?_
      refine lv_aload_n hx hb dX8_looksLike_10 rfl (lv_at hl 0 rfl) ?_
      refine va_get (D := D) (ci := 7) (v := .int o_choices) (C := RX8) (T := TX8) (N := 4) hx hb hts u_X8 hown hK hP 2 rfl rfl 2 (by decide) k_f0 (fun _ h9 => h9) rfl dX8_looksLike_11 ?_
      refine lv_icmp_ge (tgt := 50) hx hb dX8_looksLike_14 (by decide) (fun c_14 => ?_) (fun c_14 => ?_)
      · replace h := it_e c_14 h
        refine lv_iload_n hx hb dX8_looksLike_50 rfl (lv_at hl 3 rfl) ?_
        have hz := Option.some.inj h
        subst hz
        exact hret H locs 51 ls (fun ty h => by cases h; rfl) (hP.sub [2, 0, 1] rfl) (hD.sub [2, 0, 1] (by decide) rfl) hS dX8_looksLike_51
      · replace h := if_e c_14 h
        refine lv_iload_n hx hb dX8_looksLike_17 rfl (lv_at hl 1 rfl) ?_
        refine lv_iconst (v := 1) hx hb dX8_looksLike_18 ic_1 ?_
        refine lv_iload hx hb dX8_looksLike_19 (lv_at hl 4 rfl) ?_
        refine lv_ishl hx hb dX8_looksLike_21 ?_
        refine lv_iand hx hb dX8_looksLike_22 ?_
        obtain ⟨j44, hj44, h⟩ := jn_e h
        have Jj44 : ∀ (x44_l3 : Int32) (H : Heap) (locs : List Loc) (ls : Array Slot), j44 x44_l3 = some z → va_P D vwCl [(a_values, .inl (cI, 3, .inl f_values)), (a_left, .inl (cI, 30, .inl f_left)), (a_o, .inr (7, [.ref a_values, .ref a_left, .int o_choices, .int o_worlds]))] H → va_D A [(a_values, .inl (cI, 3, .inl f_values)), (a_left, .inl (cI, 30, .inl f_left)), (a_o, .inr (7, [.ref a_values, .ref a_left, .int o_choices, .int o_worlds]))] → va_S A s.heap H locs → lv_has ls 5 [(0, .ref a_o), (1, .int p1), (2, .int p2), (3, .int x44_l3), (4, .int x8_l4)] → W p l e rmX8_looksLike s m args below meth c H locs 0 0 Q (F0 m 44 ls []) := by
          intro x44_l3 H locs ls h hP hD hS hl
          rw [hj44] at h
          refine lv_iinc (v := x8_l4 + 1) (lv' := [(4, .int (x8_l4 + 1)), (0, .ref a_o), (1, .int p1), (2, .int p2), (3, .int x44_l3)]) hx hb dX8_looksLike_44 hl (k := 4) rfl (congrArg (x8_l4 + ·) ic_1) (by decide) rfl (fun ls hl => ?_)
          refine lv_goto (tgt := 8) hx hb dX8_looksLike_47 (by decide) ?_
          exact ih8 x44_l3 (x8_l4 + 1) H locs ls h hP hD hS (lv_sub hl [1, 2, 3, 4, 0] rfl)
        refine lv_if_eq (tgt := 44) hx hb dX8_looksLike_23 (by decide) (fun c_23 => ?_) (fun c_23 => ?_)
        · replace h := it_e c_23 h
          exact Jj44 x8_l3 H locs ls h hP hD hS hl
        · replace h := if_e c_23 h
          refine lv_iload_n hx hb dX8_looksLike_26 rfl (lv_at hl 3 rfl) ?_
          refine lv_aload_n hx hb dX8_looksLike_27 rfl (lv_at hl 0 rfl) ?_
          refine lv_iload hx hb dX8_looksLike_28 (lv_at hl 4 rfl) ?_
          refine lv_aload_n hx hb dX8_looksLike_30 rfl (lv_at hl 0 rfl) ?_
          refine lv_iconst (v := 1) hx hb dX8_looksLike_31 ic_1 ?_
          refine lv_iload_n hx hb dX8_looksLike_32 rfl (lv_at hl 2 rfl) ?_
          refine lv_ishl hx hb dX8_looksLike_33 ?_
          refine lv_iload hx hb dX8_looksLike_34 (lv_at hl 4 rfl) ?_
          obtain ⟨z_36, hc_36, h⟩ := bd_e h
          refine q_iV (As := [.int (1 <<< (p2 &&& 31)), .int x8_l4]) (rest := [.int x8_l4, .ref a_o, .int x8_l3]) (wF := [(a_o, .inr (7, [.ref a_values, .ref a_left, .int o_choices, .int o_worlds])), (a_values, .inl (cI, 3, .inl f_values)), (a_left, .inl (cI, 30, .inl f_left))]) hF hA hZ hK hP hD hS (c_X8_fixedIn l D cI cB cZ a_o o_choices o_worlds a_values f_values a_left f_left (1 <<< (p2 &&& 31)) x8_l4 z_36 hc_36) rfl gX8_looksLike_X8_fixedIn hdX8_fixedIn ⟨rfl, rfl⟩ (Nat.le_of_ble_eq_true rfl) (Nat.le_of_ble_eq_true rfl) 7 0 rfl rfl [2, 0, 1] [] rfl rfl rfl rfl (by decide) rfl hl.1 rfl (Nat.le_of_ble_eq_true rfl) (Nat.zero_le _) (Nat.zero_le _) dX8_looksLike_36 (fun H locs hP hD hS => ?_)
          obtain ⟨z_39, hc_39, h⟩ := bd_e h
          refine q_iV (As := [.int x8_l4, .int z_36]) (rest := [.int x8_l3]) (wF := [(a_values, .inl (cI, 3, .inl f_values)), (a_o, .inr (7, [.ref a_values, .ref a_left, .int o_choices, .int o_worlds])), (a_left, .inl (cI, 30, .inl f_left))]) hF hA hZ hK hP hD hS (c_X8_leftBy l D cI cB cZ a_o (.ref a_values) o_choices o_worlds a_left f_left x8_l4 z_36 z_39 hc_39) rfl gX8_looksLike_X8_leftBy hdX8_leftBy ⟨rfl, rfl⟩ (Nat.le_of_ble_eq_true rfl) (Nat.le_of_ble_eq_true rfl) 7 0 rfl rfl [0, 2] [1] rfl rfl rfl rfl (by decide) rfl hl.1 rfl (Nat.le_of_ble_eq_true rfl) (Nat.zero_le _) (Nat.zero_le _) dX8_looksLike_39 (fun H locs hP hD hS => ?_)
          refine lv_iand hx hb dX8_looksLike_42 ?_
          refine lv_istore_n (lv' := [(3, .int (x8_l3 &&& z_39)), (0, .ref a_o), (1, .int p1), (2, .int p2), (4, .int x8_l4)]) hx hb dX8_looksLike_43 rfl hl (by decide) rfl (fun ls hl => ?_)
          exact Jj44 (x8_l3 &&& z_39) H locs ls h (hP.sub [0, 2, 1] rfl) (hD.sub [0, 2, 1] (by decide) rfl) hS (lv_sub hl [1, 2, 3, 0, 4] rfl)
  exact L8 QF z_1 0 H locs ls h hP hD hS (lv_sub hl [2, 3, 4, 1, 0] rfl)
abbrev rmX9_inCommon : Room := { frames := 4, cells := 0, slots := 0, locals := 90 }
theorem hdX9_inCommon : yX9_inCommon.cls = RX9 ∧ yX9_inCommon.cls ≠ "java/lang/invoke/MethodHandle" ∧ yX9_inCommon.cls ≠ "java/lang/invoke/VarHandle" ∧ (parseMethodDescriptor yX9_inCommon.desc).map (fun d => d.parameters.length) = some 4 := by decide +kernel
set_option maxRecDepth 100000 in
set_option maxHeartbeats 4000000 in
theorem c_X9_inCommon (l : Launch) (D : va_G) (cI cB cZ : ClassId) (a_o : Nat) (a_tongue : Nat) (tongue_choices : Int32) (tongue_worlds : Int32) (a_tongue_values : Nat) (f_tongue_values : Nat → Int32) (a_tongue_left : Nat) (f_tongue_left : Nat → Int32) (p1 : Int32) (p2 : Int32) (p3 : Int32) (p4 : Int32) (z : Int32) (h : P_X9_inCommon p1 p2 p3 p4 tongue_choices tongue_worlds f_tongue_values f_tongue_left = some z) : KI l yX9_inCommon wsX9_inCommon rmX9_inCommon D [(cI, .int), (cB, .byte), (cZ, .boolean)] [.ref a_o, .int p1, .int p2, .int p3, .int p4] [(a_o, .inr (8, [.ref a_tongue])), (a_tongue, .inr (7, [.ref a_tongue_values, .ref a_tongue_left, .int tongue_choices, .int tongue_worlds])), (a_tongue_values, .inl (cI, 3, .inl f_tongue_values)), (a_tongue_left, .inl (cI, 30, .inl f_tongue_left))] [(a_o, .inr (8, [.ref a_tongue])), (a_tongue, .inr (7, [.ref a_tongue_values, .ref a_tongue_left, .int tongue_choices, .int tongue_worlds])), (a_tongue_values, .inl (cI, 3, .inl f_tongue_values)), (a_tongue_left, .inl (cI, 30, .inl f_tongue_left))] z := by
  refine KI_of (own := RX9) (cc := cX9_inCommon) (maxL := 9) (ret := some .int) (by decide) rfl rfl (Nat.le_of_ble_eq_true rfl) (Or.inl rfl) ?_
  intro p e s m args below meth c A Q hx hb hml hown hts hA hZ hK hret H locs ls hP hD hS hl
  have hl : lv_has ls 9 [(0, .ref a_o), (1, .int p1), (2, .int p2), (3, .int p3), (4, .int p4)] := hl
  have hF : CallFix p m c cX9_inCommon 9 s args wsX9_inCommon RX9 := ⟨hx, hb, hml, hown, hts⟩
  have u_X9 : ∀ w ∈ u_ws RX9 TX9 1, w ∈ wsX9_inCommon := by decide +kernel
  have k_f0 := hts (.fieldLink RX9 7 "NoWordNo$Two" "tongue" "LNoWordNo$Tongue;") (by decide +kernel)
  unfold P_X9_inCommon at h
  refine lv_iload hx hb dX9_inCommon_0 (lv_at hl 4 rfl) ?_
  refine lv_iconst (v := 1) hx hb dX9_inCommon_2 ic_1 ?_
  refine lv_iload_n hx hb dX9_inCommon_3 rfl (lv_at hl 3 rfl) ?_
  refine lv_ishl hx hb dX9_inCommon_4 ?_
  refine lv_iand hx hb dX9_inCommon_5 ?_
  refine lv_istore (lv' := [(5, .int (p4 &&& (1 <<< (p3 &&& 31)))), (0, .ref a_o), (1, .int p1), (2, .int p2), (3, .int p3), (4, .int p4)]) hx hb dX9_inCommon_6 hl (by decide) rfl (fun ls hl => ?_)
  refine lv_iconst (v := 0) hx hb dX9_inCommon_8 ic_0 ?_
  refine lv_istore (lv' := [(6, .int 0), (5, .int (p4 &&& (1 <<< (p3 &&& 31)))), (0, .ref a_o), (1, .int p1), (2, .int p2), (3, .int p3), (4, .int p4)]) hx hb dX9_inCommon_9 hl (by decide) rfl (fun ls hl => ?_)
  have L11 : ∀ (n : Nat), ∀ (x11_l5 : Int32) (x11_l6 : Int32) (H : Heap) (locs : List Loc) (ls : Array Slot), P_X9_inCommon_11 p1 p2 p4 tongue_choices tongue_worlds f_tongue_values f_tongue_left n x11_l5 x11_l6 = some z → va_P D vwCl [(a_o, .inr (8, [.ref a_tongue])), (a_tongue, .inr (7, [.ref a_tongue_values, .ref a_tongue_left, .int tongue_choices, .int tongue_worlds])), (a_tongue_values, .inl (cI, 3, .inl f_tongue_values)), (a_tongue_left, .inl (cI, 30, .inl f_tongue_left))] H → va_D A [(a_o, .inr (8, [.ref a_tongue])), (a_tongue, .inr (7, [.ref a_tongue_values, .ref a_tongue_left, .int tongue_choices, .int tongue_worlds])), (a_tongue_values, .inl (cI, 3, .inl f_tongue_values)), (a_tongue_left, .inl (cI, 30, .inl f_tongue_left))] → va_S A s.heap H locs → lv_has ls 9 [(0, .ref a_o), (1, .int p1), (2, .int p2), (4, .int p4), (5, .int x11_l5), (6, .int x11_l6)] → W p l e rmX9_inCommon s m args below meth c H locs 0 0 Q (F0 m 11 ls []) := by
    intro n
    induction n with
    | zero =>
      intro x11_l5 x11_l6 H locs ls h
      exact no_e h
    | succ n ih11 =>
      intro x11_l5 x11_l6 H locs ls h hP hD hS hl
      rw [P_X9_inCommon_11] at h
      refine lv_iload hx hb dX9_inCommon_11 (lv_at hl 5 rfl) ?_
      refine lv_aload_n hx hb dX9_inCommon_13 rfl (lv_at hl 0 rfl) ?_
      refine va_get (D := D) (ci := 8) (v := .ref a_tongue) (C := RX9) (T := TX9) (N := 1) hx hb hts u_X9 hown hK hP 0 rfl rfl 0 (by decide) k_f0 (fun _ h9 => h9) rfl dX9_inCommon_14 ?_
      obtain ⟨z_17, hc_17, h⟩ := bd_e h
      refine q_iV (As := []) (rest := [.int x11_l6]) (wF := [(a_o, .inr (8, [.ref a_tongue])), (a_tongue_values, .inl (cI, 3, .inl f_tongue_values)), (a_tongue_left, .inl (cI, 30, .inl f_tongue_left)), (a_tongue, .inr (7, [.ref a_tongue_values, .ref a_tongue_left, .int tongue_choices, .int tongue_worlds]))]) hF hA hZ hK hP hD hS (c_X8_worlds l D cI cB cZ a_tongue (.ref a_tongue_values) (.ref a_tongue_left) tongue_choices tongue_worlds z_17 hc_17) rfl gX9_inCommon_X8_worlds hdX8_worlds ⟨rfl, rfl⟩ (Nat.le_of_ble_eq_true rfl) (Nat.le_of_ble_eq_true rfl) 7 0 rfl rfl [1] [0, 2, 3] rfl rfl rfl rfl (by decide) rfl hl.1 rfl (Nat.le_of_ble_eq_true rfl) (Nat.zero_le _) (Nat.zero_le _) dX9_inCommon_17 (fun H locs hP hD hS => ?_)
      refine lv_icmp_ge (tgt := 93) hx hb dX9_inCommon_20 (by decide) (fun c_20 => ?_) (fun c_20 => ?_)
      · replace h := it_e c_20 h
        refine lv_iload hx hb dX9_inCommon_93 (lv_at hl 4 rfl) ?_
        have hz := Option.some.inj h
        subst hz
        exact hret H locs 95 ls (fun ty h => by cases h; rfl) (hP.sub [0, 3, 1, 2] rfl) (hD.sub [0, 3, 1, 2] (by decide) rfl) hS dX9_inCommon_95
      · replace h := if_e c_20 h
        refine lv_iconst (v := 0) hx hb dX9_inCommon_23 ic_0 ?_
        refine lv_istore (lv' := [(7, .int 0), (0, .ref a_o), (1, .int p1), (2, .int p2), (4, .int p4), (5, .int x11_l5), (6, .int x11_l6)]) hx hb dX9_inCommon_24 hl (by decide) rfl (fun ls hl => ?_)
        obtain ⟨k87, hk87, h⟩ := jn_e h
        have Jk87 : ∀ (x87_l5 : Int32) (H : Heap) (locs : List Loc) (ls : Array Slot), k87 x87_l5 = some z → va_P D vwCl [(a_o, .inr (8, [.ref a_tongue])), (a_tongue_values, .inl (cI, 3, .inl f_tongue_values)), (a_tongue_left, .inl (cI, 30, .inl f_tongue_left)), (a_tongue, .inr (7, [.ref a_tongue_values, .ref a_tongue_left, .int tongue_choices, .int tongue_worlds]))] H → va_D A [(a_o, .inr (8, [.ref a_tongue])), (a_tongue_values, .inl (cI, 3, .inl f_tongue_values)), (a_tongue_left, .inl (cI, 30, .inl f_tongue_left)), (a_tongue, .inr (7, [.ref a_tongue_values, .ref a_tongue_left, .int tongue_choices, .int tongue_worlds]))] → va_S A s.heap H locs → lv_has ls 9 [(0, .ref a_o), (1, .int p1), (2, .int p2), (4, .int p4), (5, .int x87_l5), (6, .int x11_l6)] → W p l e rmX9_inCommon s m args below meth c H locs 0 0 Q (F0 m 87 ls []) := by
          intro x87_l5 H locs ls h hP hD hS hl
          rw [hk87] at h
          refine lv_iinc (v := x11_l6 + 1) (lv' := [(6, .int (x11_l6 + 1)), (0, .ref a_o), (1, .int p1), (2, .int p2), (4, .int p4), (5, .int x87_l5)]) hx hb dX9_inCommon_87 hl (k := 5) rfl (congrArg (x11_l6 + ·) ic_1) (by decide) rfl (fun ls hl => ?_)
          refine lv_goto (tgt := 11) hx hb dX9_inCommon_90 (by decide) ?_
          exact ih11 x87_l5 (x11_l6 + 1) H locs ls h (hP.sub [0, 3, 1, 2] rfl) (hD.sub [0, 3, 1, 2] (by decide) rfl) hS (lv_sub hl [1, 2, 3, 4, 5, 0] rfl)
        have L26 : ∀ (n : Nat), ∀ (x26_l5 : Int32) (x26_l7 : Int32) (H : Heap) (locs : List Loc) (ls : Array Slot), P_X9_inCommon_26 p1 p2 p4 tongue_choices tongue_worlds f_tongue_values f_tongue_left k87 n x26_l5 x26_l7 = some z → va_P D vwCl [(a_o, .inr (8, [.ref a_tongue])), (a_tongue_values, .inl (cI, 3, .inl f_tongue_values)), (a_tongue_left, .inl (cI, 30, .inl f_tongue_left)), (a_tongue, .inr (7, [.ref a_tongue_values, .ref a_tongue_left, .int tongue_choices, .int tongue_worlds]))] H → va_D A [(a_o, .inr (8, [.ref a_tongue])), (a_tongue_values, .inl (cI, 3, .inl f_tongue_values)), (a_tongue_left, .inl (cI, 30, .inl f_tongue_left)), (a_tongue, .inr (7, [.ref a_tongue_values, .ref a_tongue_left, .int tongue_choices, .int tongue_worlds]))] → va_S A s.heap H locs → lv_has ls 9 [(0, .ref a_o), (1, .int p1), (2, .int p2), (4, .int p4), (5, .int x26_l5), (6, .int x11_l6), (7, .int x26_l7)] → W p l e rmX9_inCommon s m args below meth c H locs 0 0 Q (F0 m 26 ls []) := by
          intro n
          induction n with
          | zero =>
            intro x26_l5 x26_l7 H locs ls h
            exact no_e h
          | succ n ih26 =>
            intro x26_l5 x26_l7 H locs ls h hP hD hS hl
            rw [P_X9_inCommon_26] at h
            refine lv_iload hx hb dX9_inCommon_26 (lv_at hl 6 rfl) ?_
            refine lv_aload_n hx hb dX9_inCommon_28 rfl (lv_at hl 0 rfl) ?_
            refine va_get (D := D) (ci := 8) (v := .ref a_tongue) (C := RX9) (T := TX9) (N := 1) hx hb hts u_X9 hown hK hP 0 rfl rfl 0 (by decide) k_f0 (fun _ h9 => h9) rfl dX9_inCommon_29 ?_
            obtain ⟨z_32, hc_32, h⟩ := bd_e h
            refine q_iV (As := []) (rest := [.int x26_l7]) (wF := [(a_o, .inr (8, [.ref a_tongue])), (a_tongue_values, .inl (cI, 3, .inl f_tongue_values)), (a_tongue_left, .inl (cI, 30, .inl f_tongue_left)), (a_tongue, .inr (7, [.ref a_tongue_values, .ref a_tongue_left, .int tongue_choices, .int tongue_worlds]))]) hF hA hZ hK hP hD hS (c_X8_worlds l D cI cB cZ a_tongue (.ref a_tongue_values) (.ref a_tongue_left) tongue_choices tongue_worlds z_32 hc_32) rfl gX9_inCommon_X8_worlds hdX8_worlds ⟨rfl, rfl⟩ (Nat.le_of_ble_eq_true rfl) (Nat.le_of_ble_eq_true rfl) 7 0 rfl rfl [3] [0, 1, 2] rfl rfl rfl rfl (by decide) rfl hl.1 rfl (Nat.le_of_ble_eq_true rfl) (Nat.zero_le _) (Nat.zero_le _) dX9_inCommon_32 (fun H locs hP hD hS => ?_)
            refine lv_icmp_ge (tgt := 87) hx hb dX9_inCommon_35 (by decide) (fun c_35 => ?_) (fun c_35 => ?_)
            · replace h := it_e c_35 h
              exact Jk87 x26_l5 H locs ls h hP hD hS (lv_sub hl [0, 1, 2, 3, 4, 5] rfl)
            · replace h := if_e c_35 h
              refine lv_iload hx hb dX9_inCommon_38 (lv_at hl 4 rfl) ?_
              refine lv_iload hx hb dX9_inCommon_40 (lv_at hl 6 rfl) ?_
              obtain ⟨z_42, hc_42, h⟩ := bd_e h
              refine q_iS (As := [.int x26_l5, .int x26_l7]) (rest := []) (wF := [(a_o, .inr (8, [.ref a_tongue])), (a_tongue_values, .inl (cI, 3, .inl f_tongue_values)), (a_tongue_left, .inl (cI, 30, .inl f_tongue_left)), (a_tongue, .inr (7, [.ref a_tongue_values, .ref a_tongue_left, .int tongue_choices, .int tongue_worlds]))]) hF hA hZ hK hP hD hS (c_X4_has l D cI cB cZ x26_l5 x26_l7 z_42 hc_42) rfl gX9_inCommon_X4_has hdX4_has ⟨rfl, rfl⟩ (Nat.le_of_ble_eq_true rfl) (Nat.le_of_ble_eq_true rfl) [] [0, 1, 2, 3] rfl rfl rfl rfl (by decide) rfl hl.1 rfl (Nat.le_of_ble_eq_true rfl) (Nat.zero_le _) (Nat.zero_le _) dX9_inCommon_42 (fun H locs hP hD hS => ?_)
              obtain ⟨j81, hj81, h⟩ := jn_e h
              have Jj81 : ∀ (x81_l5 : Int32) (H : Heap) (locs : List Loc) (ls : Array Slot), j81 x81_l5 = some z → va_P D vwCl [(a_o, .inr (8, [.ref a_tongue])), (a_tongue_values, .inl (cI, 3, .inl f_tongue_values)), (a_tongue_left, .inl (cI, 30, .inl f_tongue_left)), (a_tongue, .inr (7, [.ref a_tongue_values, .ref a_tongue_left, .int tongue_choices, .int tongue_worlds]))] H → va_D A [(a_o, .inr (8, [.ref a_tongue])), (a_tongue_values, .inl (cI, 3, .inl f_tongue_values)), (a_tongue_left, .inl (cI, 30, .inl f_tongue_left)), (a_tongue, .inr (7, [.ref a_tongue_values, .ref a_tongue_left, .int tongue_choices, .int tongue_worlds]))] → va_S A s.heap H locs → lv_has ls 9 [(0, .ref a_o), (1, .int p1), (2, .int p2), (4, .int p4), (5, .int x81_l5), (6, .int x11_l6), (7, .int x26_l7)] → W p l e rmX9_inCommon s m args below meth c H locs 0 0 Q (F0 m 81 ls []) := by
                intro x81_l5 H locs ls h hP hD hS hl
                rw [hj81] at h
                refine lv_iinc (v := x26_l7 + 1) (lv' := [(7, .int (x26_l7 + 1)), (0, .ref a_o), (1, .int p1), (2, .int p2), (4, .int p4), (5, .int x81_l5), (6, .int x11_l6)]) hx hb dX9_inCommon_81 hl (k := 6) rfl (congrArg (x26_l7 + ·) ic_1) (by decide) rfl (fun ls hl => ?_)
                refine lv_goto (tgt := 26) hx hb dX9_inCommon_84 (by decide) ?_
                exact ih26 x81_l5 (x26_l7 + 1) H locs ls h hP hD hS (lv_sub hl [1, 2, 3, 4, 5, 6, 0] rfl)
              refine lv_if_eq (tgt := 81) hx hb dX9_inCommon_45 (by decide) (fun c_45 => ?_) (fun c_45 => ?_)
              · replace h := it_e c_45 h
                exact Jj81 x26_l5 H locs ls h hP hD hS hl
              · replace h := if_e c_45 h
                refine lv_aload_n hx hb dX9_inCommon_48 rfl (lv_at hl 0 rfl) ?_
                refine va_get (D := D) (ci := 8) (v := .ref a_tongue) (C := RX9) (T := TX9) (N := 1) hx hb hts u_X9 hown hK hP 0 rfl rfl 0 (by decide) k_f0 (fun _ h9 => h9) rfl dX9_inCommon_49 ?_
                refine lv_iload_n hx hb dX9_inCommon_52 rfl (lv_at hl 1 rfl) ?_
                refine lv_iload hx hb dX9_inCommon_53 (lv_at hl 6 rfl) ?_
                obtain ⟨z_55, hc_55, h⟩ := bd_e h
                refine q_iV (As := [.int p1, .int x26_l7]) (rest := []) (wF := [(a_o, .inr (8, [.ref a_tongue])), (a_tongue, .inr (7, [.ref a_tongue_values, .ref a_tongue_left, .int tongue_choices, .int tongue_worlds])), (a_tongue_values, .inl (cI, 3, .inl f_tongue_values)), (a_tongue_left, .inl (cI, 30, .inl f_tongue_left))]) hF hA hZ hK hP hD hS (c_X8_looksLike l D cI cB cZ a_tongue tongue_choices tongue_worlds a_tongue_values f_tongue_values a_tongue_left f_tongue_left p1 x26_l7 z_55 hc_55) rfl gX9_inCommon_X8_looksLike hdX8_looksLike ⟨rfl, rfl⟩ (Nat.le_of_ble_eq_true rfl) (Nat.le_of_ble_eq_true rfl) 7 0 rfl rfl [3, 1, 2] [0] rfl rfl rfl rfl (by decide) rfl hl.1 rfl (Nat.le_of_ble_eq_true rfl) (Nat.zero_le _) (Nat.zero_le _) dX9_inCommon_55 (fun H locs hP hD hS => ?_)
                refine lv_aload_n hx hb dX9_inCommon_58 rfl (lv_at hl 0 rfl) ?_
                refine va_get (D := D) (ci := 8) (v := .ref a_tongue) (C := RX9) (T := TX9) (N := 1) hx hb hts u_X9 hown hK hP 0 rfl rfl 0 (by decide) k_f0 (fun _ h9 => h9) rfl dX9_inCommon_59 ?_
                refine lv_iload_n hx hb dX9_inCommon_62 rfl (lv_at hl 2 rfl) ?_
                refine lv_iload hx hb dX9_inCommon_63 (lv_at hl 6 rfl) ?_
                obtain ⟨z_65, hc_65, h⟩ := bd_e h
                refine q_iV (As := [.int p2, .int x26_l7]) (rest := [.int z_55]) (wF := [(a_o, .inr (8, [.ref a_tongue])), (a_tongue, .inr (7, [.ref a_tongue_values, .ref a_tongue_left, .int tongue_choices, .int tongue_worlds])), (a_tongue_values, .inl (cI, 3, .inl f_tongue_values)), (a_tongue_left, .inl (cI, 30, .inl f_tongue_left))]) hF hA hZ hK hP hD hS (c_X8_looksLike l D cI cB cZ a_tongue tongue_choices tongue_worlds a_tongue_values f_tongue_values a_tongue_left f_tongue_left p2 x26_l7 z_65 hc_65) rfl gX9_inCommon_X8_looksLike hdX8_looksLike ⟨rfl, rfl⟩ (Nat.le_of_ble_eq_true rfl) (Nat.le_of_ble_eq_true rfl) 7 0 rfl rfl [1, 2, 3] [0] rfl rfl rfl rfl (by decide) rfl hl.1 rfl (Nat.le_of_ble_eq_true rfl) (Nat.zero_le _) (Nat.zero_le _) dX9_inCommon_65 (fun H locs hP hD hS => ?_)
                refine lv_ior hx hb dX9_inCommon_68 ?_
                refine lv_istore (lv' := [(8, .int (z_55 ||| z_65)), (0, .ref a_o), (1, .int p1), (2, .int p2), (4, .int p4), (5, .int x26_l5), (6, .int x11_l6), (7, .int x26_l7)]) hx hb dX9_inCommon_69 hl (by decide) rfl (fun ls hl => ?_)
                refine lv_iload hx hb dX9_inCommon_71 (lv_at hl 5 rfl) ?_
                refine lv_iload hx hb dX9_inCommon_73 (lv_at hl 4 rfl) ?_
                refine lv_iload hx hb dX9_inCommon_75 (lv_at hl 0 rfl) ?_
                refine lv_iand hx hb dX9_inCommon_77 ?_
                refine lv_ior hx hb dX9_inCommon_78 ?_
                refine lv_istore (lv' := [(5, .int (x26_l5 ||| (p4 &&& (z_55 ||| z_65)))), (8, .int (z_55 ||| z_65)), (0, .ref a_o), (1, .int p1), (2, .int p2), (4, .int p4), (6, .int x11_l6), (7, .int x26_l7)]) hx hb dX9_inCommon_79 hl (by decide) rfl (fun ls hl => ?_)
                exact Jj81 (x26_l5 ||| (p4 &&& (z_55 ||| z_65))) H locs ls h (hP.sub [0, 2, 3, 1] rfl) (hD.sub [0, 2, 3, 1] (by decide) rfl) hS (lv_sub hl [2, 3, 4, 5, 0, 6, 7] rfl)
        exact L26 QF x11_l5 0 H locs ls h hP hD hS (lv_sub hl [1, 2, 3, 4, 5, 6, 0] rfl)
  exact L11 QF (p4 &&& (1 <<< (p3 &&& 31))) 0 H locs ls h hP hD hS (lv_sub hl [2, 3, 4, 6, 1, 0] rfl)
abbrev rmX10_common : Room := { frames := 5, cells := 0, slots := 0, locals := 118 }
theorem hdX10_common : yX10_common.cls = RX10 ∧ yX10_common.cls ≠ "java/lang/invoke/MethodHandle" ∧ yX10_common.cls ≠ "java/lang/invoke/VarHandle" ∧ (parseMethodDescriptor yX10_common.desc).map (fun d => d.parameters.length) = some 3 := by decide +kernel
set_option maxRecDepth 100000 in
set_option maxHeartbeats 4000000 in
theorem c_X10_common (l : Launch) (D : va_G) (cI cB cZ : ClassId) (a_o : Nat) (w_o_text : Value) (w_o_image0 : Value) (w_o_image1 : Value) (w_o_signs : Value) (w_o_reader : Value) (w_o_lengths : Value) (w_o_refusals : Value) (o_measured : Int32) (o_traced : Int64) (a_speech : Nat) (speech_choices : Int32) (speech_worlds : Int32) (a_speech_values : Nat) (f_speech_values : Nat → Int32) (a_speech_left : Nat) (f_speech_left : Nat → Int32) (a_now : Nat) (w_now_signs : Value) (w_now_wordSets : Value) (now_sayings : Int32) (now_words : Int32) (now_filled : Int32) (a_now_left : Nat) (f_now_left : Nat → Int32) (a_two : Nat) (p1 : Int32) (p2 : Int32) (p3 : Int32) (z : Int32) (h : P_X10_common p1 p2 p3 speech_choices speech_worlds f_speech_values f_speech_left now_sayings f_now_left = some z) : KI l yX10_common wsX10_common rmX10_common D [(cI, .int), (cB, .byte), (cZ, .boolean)] [.ref a_o, .int p1, .int p2, .int p3] [(a_o, .inr (9, [w_o_text, .ref a_speech, .ref a_now, w_o_image0, w_o_image1, w_o_signs, w_o_reader, w_o_lengths, w_o_refusals, .ref a_two, .int o_measured, .long o_traced])), (a_speech, .inr (7, [.ref a_speech_values, .ref a_speech_left, .int speech_choices, .int speech_worlds])), (a_speech_values, .inl (cI, 3, .inl f_speech_values)), (a_speech_left, .inl (cI, 30, .inl f_speech_left)), (a_now, .inr (0, [.ref a_now_left, w_now_signs, w_now_wordSets, .int now_sayings, .int now_words, .int now_filled])), (a_now_left, .inl (cI, 8, .inl f_now_left)), (a_two, .inr (8, [.ref a_speech]))] [(a_o, .inr (9, [w_o_text, .ref a_speech, .ref a_now, w_o_image0, w_o_image1, w_o_signs, w_o_reader, w_o_lengths, w_o_refusals, .ref a_two, .int o_measured, .long o_traced])), (a_speech, .inr (7, [.ref a_speech_values, .ref a_speech_left, .int speech_choices, .int speech_worlds])), (a_speech_values, .inl (cI, 3, .inl f_speech_values)), (a_speech_left, .inl (cI, 30, .inl f_speech_left)), (a_now, .inr (0, [.ref a_now_left, w_now_signs, w_now_wordSets, .int now_sayings, .int now_words, .int now_filled])), (a_now_left, .inl (cI, 8, .inl f_now_left)), (a_two, .inr (8, [.ref a_speech]))] z := by
  refine KI_of (own := RX10) (cc := cX10_common) (maxL := 4) (ret := some .int) (by decide) rfl rfl (Nat.le_of_ble_eq_true rfl) (Or.inl rfl) ?_
  intro p e s m args below meth c A Q hx hb hml hown hts hA hZ hK hret H locs ls hP hD hS hl
  have hl : lv_has ls 4 [(0, .ref a_o), (1, .int p1), (2, .int p2), (3, .int p3)] := hl
  have hF : CallFix p m c cX10_common 4 s args wsX10_common RX10 := ⟨hx, hb, hml, hown, hts⟩
  have u_X10 : ∀ w ∈ u_ws RX10 TX10 12, w ∈ wsX10_common := by decide +kernel
  have k_f0 := hts (.fieldLink RX10 19 "NoWordNo" "speech" "LNoWordNo$Tongue;") (by decide +kernel)
  have k_f1 := hts (.fieldLink RX10 77 "NoWordNo" "two" "LNoWordNo$Two;") (by decide +kernel)
  unfold P_X10_common at h
  refine lv_iload_n hx hb dX10_common_0 rfl (lv_at hl 1 rfl) ?_
  obtain ⟨z_1, hc_1, h⟩ := bd_e h
  refine q_iS (As := [.int p1]) (rest := []) (wF := [(a_o, .inr (9, [w_o_text, .ref a_speech, .ref a_now, w_o_image0, w_o_image1, w_o_signs, w_o_reader, w_o_lengths, w_o_refusals, .ref a_two, .int o_measured, .long o_traced])), (a_speech, .inr (7, [.ref a_speech_values, .ref a_speech_left, .int speech_choices, .int speech_worlds])), (a_speech_values, .inl (cI, 3, .inl f_speech_values)), (a_speech_left, .inl (cI, 30, .inl f_speech_left)), (a_now, .inr (0, [.ref a_now_left, w_now_signs, w_now_wordSets, .int now_sayings, .int now_words, .int now_filled])), (a_now_left, .inl (cI, 8, .inl f_now_left)), (a_two, .inr (8, [.ref a_speech]))]) hF hA hZ hK hP hD hS (c_X10_isSeen l D cI cB cZ p1 z_1 hc_1) rfl gX10_common_X10_isSeen hdX10_isSeen ⟨rfl, rfl⟩ (Nat.le_of_ble_eq_true rfl) (Nat.le_of_ble_eq_true rfl) [] [0, 1, 2, 3, 4, 5, 6] rfl rfl rfl rfl (by decide) rfl hl.1 rfl (Nat.le_of_ble_eq_true rfl) (Nat.zero_le _) (Nat.zero_le _) dX10_common_1 (fun H locs hP hD hS => ?_)
  refine lv_if_eq (tgt := 25) hx hb dX10_common_4 (by decide) (fun c_4 => ?_) (fun c_4 => ?_)
  · replace h := it_e c_4 h
    refine lv_iconst (v := (-1)) hx hb dX10_common_25 ic_m1 ?_
    have hz := Option.some.inj h
    subst hz
    exact hret H locs 26 ls (fun ty h => by cases h; rfl) hP hD hS dX10_common_26
  · replace h := if_e c_4 h
    refine lv_iload_n hx hb dX10_common_7 rfl (lv_at hl 2 rfl) ?_
    obtain ⟨z_8, hc_8, h⟩ := bd_e h
    refine q_iS (As := [.int p2]) (rest := []) (wF := [(a_o, .inr (9, [w_o_text, .ref a_speech, .ref a_now, w_o_image0, w_o_image1, w_o_signs, w_o_reader, w_o_lengths, w_o_refusals, .ref a_two, .int o_measured, .long o_traced])), (a_speech, .inr (7, [.ref a_speech_values, .ref a_speech_left, .int speech_choices, .int speech_worlds])), (a_speech_values, .inl (cI, 3, .inl f_speech_values)), (a_speech_left, .inl (cI, 30, .inl f_speech_left)), (a_now, .inr (0, [.ref a_now_left, w_now_signs, w_now_wordSets, .int now_sayings, .int now_words, .int now_filled])), (a_now_left, .inl (cI, 8, .inl f_now_left)), (a_two, .inr (8, [.ref a_speech]))]) hF hA hZ hK hP hD hS (c_X10_isSeen l D cI cB cZ p2 z_8 hc_8) rfl gX10_common_X10_isSeen hdX10_isSeen ⟨rfl, rfl⟩ (Nat.le_of_ble_eq_true rfl) (Nat.le_of_ble_eq_true rfl) [] [0, 1, 2, 3, 4, 5, 6] rfl rfl rfl rfl (by decide) rfl hl.1 rfl (Nat.le_of_ble_eq_true rfl) (Nat.zero_le _) (Nat.zero_le _) dX10_common_8 (fun H locs hP hD hS => ?_)
    refine lv_if_eq (tgt := 25) hx hb dX10_common_11 (by decide) (fun c_11 => ?_) (fun c_11 => ?_)
    · replace h := it_e c_11 h
      refine lv_iconst (v := (-1)) hx hb dX10_common_25 ic_m1 ?_
      have hz := Option.some.inj h
      subst hz
      exact hret H locs 26 ls (fun ty h => by cases h; rfl) hP hD hS dX10_common_26
    · replace h := if_e c_11 h
      refine lv_aload_n hx hb dX10_common_14 rfl (lv_at hl 0 rfl) ?_
      refine va_get (D := D) (ci := 9) (v := .ref a_speech) (C := RX10) (T := TX10) (N := 12) hx hb hts u_X10 hown hK hP 0 rfl rfl 1 (by decide) k_f0 (fun _ h9 => h9) rfl dX10_common_15 ?_
      refine lv_iload_n hx hb dX10_common_18 rfl (lv_at hl 3 rfl) ?_
      obtain ⟨z_19, hc_19, h⟩ := bd_e h
      refine q_iV (As := [.int p3]) (rest := []) (wF := [(a_o, .inr (9, [w_o_text, .ref a_speech, .ref a_now, w_o_image0, w_o_image1, w_o_signs, w_o_reader, w_o_lengths, w_o_refusals, .ref a_two, .int o_measured, .long o_traced])), (a_speech_values, .inl (cI, 3, .inl f_speech_values)), (a_speech_left, .inl (cI, 30, .inl f_speech_left)), (a_now, .inr (0, [.ref a_now_left, w_now_signs, w_now_wordSets, .int now_sayings, .int now_words, .int now_filled])), (a_now_left, .inl (cI, 8, .inl f_now_left)), (a_two, .inr (8, [.ref a_speech])), (a_speech, .inr (7, [.ref a_speech_values, .ref a_speech_left, .int speech_choices, .int speech_worlds]))]) hF hA hZ hK hP hD hS (c_X8_isWorld l D cI cB cZ a_speech (.ref a_speech_values) (.ref a_speech_left) speech_choices speech_worlds p3 z_19 hc_19) rfl gX10_common_X8_isWorld hdX8_isWorld ⟨rfl, rfl⟩ (Nat.le_of_ble_eq_true rfl) (Nat.le_of_ble_eq_true rfl) 7 0 rfl rfl [1] [0, 2, 3, 4, 5, 6] rfl rfl rfl rfl (by decide) rfl hl.1 rfl (Nat.le_of_ble_eq_true rfl) (Nat.zero_le _) (Nat.zero_le _) dX10_common_19 (fun H locs hP hD hS => ?_)
      refine lv_if_ne (tgt := 27) hx hb dX10_common_22 (by decide) (fun c_22 => ?_) (fun c_22 => ?_)
      · replace h := if_e c_22 h
        refine lv_aload_n hx hb dX10_common_27 rfl (lv_at hl 0 rfl) ?_
        refine va_get (D := D) (ci := 9) (v := .ref a_two) (C := RX10) (T := TX10) (N := 12) hx hb hts u_X10 hown hK hP 0 rfl rfl 9 (by decide) k_f1 (fun _ h9 => h9) rfl dX10_common_28 ?_
        refine lv_iload_n hx hb dX10_common_31 rfl (lv_at hl 1 rfl) ?_
        refine lv_iload_n hx hb dX10_common_32 rfl (lv_at hl 2 rfl) ?_
        refine lv_iload_n hx hb dX10_common_33 rfl (lv_at hl 3 rfl) ?_
        refine lv_aload_n hx hb dX10_common_34 rfl (lv_at hl 0 rfl) ?_
        obtain ⟨z_35, hc_35, h⟩ := bd_e h
        refine q_iV (As := []) (rest := [.int p3, .int p2, .int p1, .ref a_two]) (wF := [(a_speech_values, .inl (cI, 3, .inl f_speech_values)), (a_speech_left, .inl (cI, 30, .inl f_speech_left)), (a_two, .inr (8, [.ref a_speech])), (a_o, .inr (9, [w_o_text, .ref a_speech, .ref a_now, w_o_image0, w_o_image1, w_o_signs, w_o_reader, w_o_lengths, w_o_refusals, .ref a_two, .int o_measured, .long o_traced])), (a_speech, .inr (7, [.ref a_speech_values, .ref a_speech_left, .int speech_choices, .int speech_worlds])), (a_now, .inr (0, [.ref a_now_left, w_now_signs, w_now_wordSets, .int now_sayings, .int now_words, .int now_filled])), (a_now_left, .inl (cI, 8, .inl f_now_left))]) hF hA hZ hK hP hD hS (c_X10_contract l D cI cB cZ a_o w_o_text w_o_image0 w_o_image1 w_o_signs w_o_reader w_o_lengths w_o_refusals (.ref a_two) o_measured o_traced a_speech (.ref a_speech_values) (.ref a_speech_left) speech_choices speech_worlds a_now w_now_signs w_now_wordSets now_sayings now_words now_filled a_now_left f_now_left z_35 hc_35) rfl gX10_common_X10_contract hdX10_contract ⟨rfl, rfl⟩ (Nat.le_of_ble_eq_true rfl) (Nat.le_of_ble_eq_true rfl) 9 0 rfl rfl [0, 6, 3, 4] [1, 2, 5] rfl rfl rfl rfl (by decide) rfl hl.1 rfl (Nat.le_of_ble_eq_true rfl) (Nat.zero_le _) (Nat.zero_le _) dX10_common_35 (fun H locs hP hD hS => ?_)
        obtain ⟨z_38, hc_38, h⟩ := bd_e h
        refine q_iV (As := [.int p1, .int p2, .int p3, .int z_35]) (rest := []) (wF := [(a_o, .inr (9, [w_o_text, .ref a_speech, .ref a_now, w_o_image0, w_o_image1, w_o_signs, w_o_reader, w_o_lengths, w_o_refusals, .ref a_two, .int o_measured, .long o_traced])), (a_now, .inr (0, [.ref a_now_left, w_now_signs, w_now_wordSets, .int now_sayings, .int now_words, .int now_filled])), (a_now_left, .inl (cI, 8, .inl f_now_left)), (a_two, .inr (8, [.ref a_speech])), (a_speech, .inr (7, [.ref a_speech_values, .ref a_speech_left, .int speech_choices, .int speech_worlds])), (a_speech_values, .inl (cI, 3, .inl f_speech_values)), (a_speech_left, .inl (cI, 30, .inl f_speech_left))]) hF hA hZ hK hP hD hS (c_X9_inCommon l D cI cB cZ a_two a_speech speech_choices speech_worlds a_speech_values f_speech_values a_speech_left f_speech_left p1 p2 p3 z_35 z_38 hc_38) rfl gX10_common_X9_inCommon hdX9_inCommon ⟨rfl, rfl⟩ (Nat.le_of_ble_eq_true rfl) (Nat.le_of_ble_eq_true rfl) 8 0 rfl rfl [2, 4, 0, 1] [3, 5, 6] rfl rfl rfl rfl (by decide) rfl hl.1 rfl (Nat.le_of_ble_eq_true rfl) (Nat.zero_le _) (Nat.zero_le _) dX10_common_38 (fun H locs hP hD hS => ?_)
        have hz := Option.some.inj h
        subst hz
        exact hret H locs 41 ls (fun ty h => by cases h; rfl) (hP.sub [0, 4, 5, 6, 1, 2, 3] rfl) (hD.sub [0, 4, 5, 6, 1, 2, 3] (by decide) rfl) hS dX10_common_41
      · replace h := it_e c_22 h
        refine lv_iconst (v := (-1)) hx hb dX10_common_25 ic_m1 ?_
        have hz := Option.some.inj h
        subst hz
        exact hret H locs 26 ls (fun ty h => by cases h; rfl) (hP.sub [0, 6, 1, 2, 3, 4, 5] rfl) (hD.sub [0, 6, 1, 2, 3, 4, 5] (by decide) rfl) hS dX10_common_26
abbrev rmX9_knows : Room := { frames := 4, cells := 0, slots := 0, locals := 90 }
theorem hdX9_knows : yX9_knows.cls = RX9 ∧ yX9_knows.cls ≠ "java/lang/invoke/MethodHandle" ∧ yX9_knows.cls ≠ "java/lang/invoke/VarHandle" ∧ (parseMethodDescriptor yX9_knows.desc).map (fun d => d.parameters.length) = some 3 := by decide +kernel
set_option maxRecDepth 100000 in
set_option maxHeartbeats 4000000 in
theorem c_X9_knows (l : Launch) (D : va_G) (cI cB cZ : ClassId) (a_o : Nat) (a_tongue : Nat) (tongue_choices : Int32) (tongue_worlds : Int32) (a_tongue_values : Nat) (f_tongue_values : Nat → Int32) (a_tongue_left : Nat) (f_tongue_left : Nat → Int32) (p1 : Int32) (p2 : Int32) (p3 : Int32) (z : Int32) (h : P_X9_knows p1 p2 p3 tongue_choices tongue_worlds f_tongue_values f_tongue_left = some z) : KI l yX9_knows wsX9_knows rmX9_knows D [(cI, .int), (cB, .byte), (cZ, .boolean)] [.ref a_o, .int p1, .int p2, .int p3] [(a_o, .inr (8, [.ref a_tongue])), (a_tongue, .inr (7, [.ref a_tongue_values, .ref a_tongue_left, .int tongue_choices, .int tongue_worlds])), (a_tongue_values, .inl (cI, 3, .inl f_tongue_values)), (a_tongue_left, .inl (cI, 30, .inl f_tongue_left))] [(a_o, .inr (8, [.ref a_tongue])), (a_tongue, .inr (7, [.ref a_tongue_values, .ref a_tongue_left, .int tongue_choices, .int tongue_worlds])), (a_tongue_values, .inl (cI, 3, .inl f_tongue_values)), (a_tongue_left, .inl (cI, 30, .inl f_tongue_left))] z := by
  refine KI_of (own := RX9) (cc := cX9_knows) (maxL := 4) (ret := some .boolean) (by decide) rfl rfl (Nat.le_of_ble_eq_true rfl) (Or.inr rfl) ?_
  intro p e s m args below meth c A Q hx hb hml hown hts hA hZ hK hret H locs ls hP hD hS hl
  have hl : lv_has ls 4 [(0, .ref a_o), (1, .int p1), (2, .int p2), (3, .int p3)] := hl
  have hF : CallFix p m c cX9_knows 4 s args wsX9_knows RX9 := ⟨hx, hb, hml, hown, hts⟩
  have u_X9 : ∀ w ∈ u_ws RX9 TX9 1, w ∈ wsX9_knows := by decide +kernel
  have k_f0 := hts (.fieldLink RX9 7 "NoWordNo$Two" "tongue" "LNoWordNo$Tongue;") (by decide +kernel)
  unfold P_X9_knows at h
  refine lv_iload_n hx hb dX9_knows_0 rfl (lv_at hl 3 rfl) ?_
  refine lv_aload_n hx hb dX9_knows_1 rfl (lv_at hl 0 rfl) ?_
  refine va_get (D := D) (ci := 8) (v := .ref a_tongue) (C := RX9) (T := TX9) (N := 1) hx hb hts u_X9 hown hK hP 0 rfl rfl 0 (by decide) k_f0 (fun _ h9 => h9) rfl dX9_knows_2 ?_
  refine lv_iload_n hx hb dX9_knows_5 rfl (lv_at hl 1 rfl) ?_
  refine lv_iload_n hx hb dX9_knows_6 rfl (lv_at hl 2 rfl) ?_
  obtain ⟨z_7, hc_7, h⟩ := bd_e h
  refine q_iV (As := [.int p1, .int p2]) (rest := [.int p3]) (wF := [(a_o, .inr (8, [.ref a_tongue])), (a_tongue, .inr (7, [.ref a_tongue_values, .ref a_tongue_left, .int tongue_choices, .int tongue_worlds])), (a_tongue_values, .inl (cI, 3, .inl f_tongue_values)), (a_tongue_left, .inl (cI, 30, .inl f_tongue_left))]) hF hA hZ hK hP hD hS (c_X8_looksLike l D cI cB cZ a_tongue tongue_choices tongue_worlds a_tongue_values f_tongue_values a_tongue_left f_tongue_left p1 p2 z_7 hc_7) rfl gX9_knows_X8_looksLike hdX8_looksLike ⟨rfl, rfl⟩ (Nat.le_of_ble_eq_true rfl) (Nat.le_of_ble_eq_true rfl) 7 0 rfl rfl [1, 2, 3] [0] rfl rfl rfl rfl (by decide) rfl hl.1 rfl (Nat.le_of_ble_eq_true rfl) (Nat.zero_le _) (Nat.zero_le _) dX9_knows_7 (fun H locs hP hD hS => ?_)
  refine lv_iand hx hb dX9_knows_10 ?_
  obtain ⟨z_11, hc_11, h⟩ := bd_e h
  refine q_iS (As := [.int (p3 &&& z_7)]) (rest := []) (wF := [(a_o, .inr (8, [.ref a_tongue])), (a_tongue, .inr (7, [.ref a_tongue_values, .ref a_tongue_left, .int tongue_choices, .int tongue_worlds])), (a_tongue_values, .inl (cI, 3, .inl f_tongue_values)), (a_tongue_left, .inl (cI, 30, .inl f_tongue_left))]) hF hA hZ hK hP hD hS (c_J6_bitCount_0f7a4 l D cI cB cZ (p3 &&& z_7) z_11 hc_11) rfl gX9_knows_J6_bitCount_0f7a4 hdJ6_bitCount_0f7a4 ⟨rfl, rfl⟩ (Nat.le_of_ble_eq_true rfl) (Nat.le_of_ble_eq_true rfl) [] [0, 1, 2, 3] rfl rfl rfl rfl (by decide) rfl hl.1 rfl (Nat.le_of_ble_eq_true rfl) (Nat.zero_le _) (Nat.zero_le _) dX9_knows_11 (fun H locs hP hD hS => ?_)
  refine lv_iconst (v := 1) hx hb dX9_knows_14 ic_1 ?_
  refine lv_icmp_ne (tgt := 22) hx hb dX9_knows_15 (by decide) (fun c_15 => ?_) (fun c_15 => ?_)
  · replace h := if_e c_15 h
    refine lv_iconst (v := 0) hx hb dX9_knows_22 ic_0 ?_
    have hz := Option.some.inj h
    subst hz
    exact hret H locs 23 ls (fun ty h => by cases h; exact nar_0) hP hD hS dX9_knows_23
  · replace h := it_e c_15 h
    refine lv_iconst (v := 1) hx hb dX9_knows_18 ic_1 ?_
    refine lv_goto (tgt := 23) hx hb dX9_knows_19 (by decide) ?_
    have hz := Option.some.inj h
    subst hz
    exact hret H locs 23 ls (fun ty h => by cases h; exact nar_1) hP hD hS dX9_knows_23
abbrev rmX9_unknownTo : Room := { frames := 5, cells := 0, slots := 0, locals := 113 }
theorem hdX9_unknownTo : yX9_unknownTo.cls = RX9 ∧ yX9_unknownTo.cls ≠ "java/lang/invoke/MethodHandle" ∧ yX9_unknownTo.cls ≠ "java/lang/invoke/VarHandle" ∧ (parseMethodDescriptor yX9_unknownTo.desc).map (fun d => d.parameters.length) = some 2 := by decide +kernel
set_option maxRecDepth 100000 in
set_option maxHeartbeats 4000000 in
theorem c_X9_unknownTo (l : Launch) (D : va_G) (cI cB cZ : ClassId) (a_o : Nat) (a_tongue : Nat) (tongue_choices : Int32) (tongue_worlds : Int32) (a_tongue_values : Nat) (f_tongue_values : Nat → Int32) (a_tongue_left : Nat) (f_tongue_left : Nat → Int32) (p1 : Int32) (p2 : Int32) (z : Int32) (h : P_X9_unknownTo p1 p2 tongue_choices tongue_worlds f_tongue_values f_tongue_left = some z) : KI l yX9_unknownTo wsX9_unknownTo rmX9_unknownTo D [(cI, .int), (cB, .byte), (cZ, .boolean)] [.ref a_o, .int p1, .int p2] [(a_o, .inr (8, [.ref a_tongue])), (a_tongue, .inr (7, [.ref a_tongue_values, .ref a_tongue_left, .int tongue_choices, .int tongue_worlds])), (a_tongue_values, .inl (cI, 3, .inl f_tongue_values)), (a_tongue_left, .inl (cI, 30, .inl f_tongue_left))] [(a_o, .inr (8, [.ref a_tongue])), (a_tongue, .inr (7, [.ref a_tongue_values, .ref a_tongue_left, .int tongue_choices, .int tongue_worlds])), (a_tongue_values, .inl (cI, 3, .inl f_tongue_values)), (a_tongue_left, .inl (cI, 30, .inl f_tongue_left))] z := by
  refine KI_of (own := RX9) (cc := cX9_unknownTo) (maxL := 5) (ret := some .int) (by decide) rfl rfl (Nat.le_of_ble_eq_true rfl) (Or.inl rfl) ?_
  intro p e s m args below meth c A Q hx hb hml hown hts hA hZ hK hret H locs ls hP hD hS hl
  have hl : lv_has ls 5 [(0, .ref a_o), (1, .int p1), (2, .int p2)] := hl
  have hF : CallFix p m c cX9_unknownTo 5 s args wsX9_unknownTo RX9 := ⟨hx, hb, hml, hown, hts⟩
  have u_X9 : ∀ w ∈ u_ws RX9 TX9 1, w ∈ wsX9_unknownTo := by decide +kernel
  have k_f0 := hts (.fieldLink RX9 7 "NoWordNo$Two" "tongue" "LNoWordNo$Tongue;") (by decide +kernel)
  unfold P_X9_unknownTo at h
  refine lv_iconst (v := 0) hx hb dX9_unknownTo_0 ic_0 ?_
  refine lv_istore_n (lv' := [(3, .int 0), (0, .ref a_o), (1, .int p1), (2, .int p2)]) hx hb dX9_unknownTo_1 rfl hl (by decide) rfl (fun ls hl => ?_)
  refine lv_iconst (v := 0) hx hb dX9_unknownTo_2 ic_0 ?_
  refine lv_istore (lv' := [(4, .int 0), (3, .int 0), (0, .ref a_o), (1, .int p1), (2, .int p2)]) hx hb dX9_unknownTo_3 hl (by decide) rfl (fun ls hl => ?_)
  have L5 : ∀ (n : Nat), ∀ (x5_l3 : Int32) (x5_l4 : Int32) (H : Heap) (locs : List Loc) (ls : Array Slot), P_X9_unknownTo_5 p1 p2 tongue_choices tongue_worlds f_tongue_values f_tongue_left n x5_l3 x5_l4 = some z → va_P D vwCl [(a_o, .inr (8, [.ref a_tongue])), (a_tongue, .inr (7, [.ref a_tongue_values, .ref a_tongue_left, .int tongue_choices, .int tongue_worlds])), (a_tongue_values, .inl (cI, 3, .inl f_tongue_values)), (a_tongue_left, .inl (cI, 30, .inl f_tongue_left))] H → va_D A [(a_o, .inr (8, [.ref a_tongue])), (a_tongue, .inr (7, [.ref a_tongue_values, .ref a_tongue_left, .int tongue_choices, .int tongue_worlds])), (a_tongue_values, .inl (cI, 3, .inl f_tongue_values)), (a_tongue_left, .inl (cI, 30, .inl f_tongue_left))] → va_S A s.heap H locs → lv_has ls 5 [(0, .ref a_o), (1, .int p1), (2, .int p2), (3, .int x5_l3), (4, .int x5_l4)] → W p l e rmX9_unknownTo s m args below meth c H locs 0 0 Q (F0 m 5 ls []) := by
    intro n
    induction n with
    | zero =>
      intro x5_l3 x5_l4 H locs ls h
      exact no_e h
    | succ n ih5 =>
      intro x5_l3 x5_l4 H locs ls h hP hD hS hl
      rw [P_X9_unknownTo_5] at h
      refine lv_iload hx hb dX9_unknownTo_5 (lv_at hl 4 rfl) ?_
      refine lv_aload_n hx hb dX9_unknownTo_7 rfl (lv_at hl 0 rfl) ?_
      refine va_get (D := D) (ci := 8) (v := .ref a_tongue) (C := RX9) (T := TX9) (N := 1) hx hb hts u_X9 hown hK hP 0 rfl rfl 0 (by decide) k_f0 (fun _ h9 => h9) rfl dX9_unknownTo_8 ?_
      obtain ⟨z_11, hc_11, h⟩ := bd_e h
      refine q_iV (As := []) (rest := [.int x5_l4]) (wF := [(a_o, .inr (8, [.ref a_tongue])), (a_tongue_values, .inl (cI, 3, .inl f_tongue_values)), (a_tongue_left, .inl (cI, 30, .inl f_tongue_left)), (a_tongue, .inr (7, [.ref a_tongue_values, .ref a_tongue_left, .int tongue_choices, .int tongue_worlds]))]) hF hA hZ hK hP hD hS (c_X8_worlds l D cI cB cZ a_tongue (.ref a_tongue_values) (.ref a_tongue_left) tongue_choices tongue_worlds z_11 hc_11) rfl gX9_unknownTo_X8_worlds hdX8_worlds ⟨rfl, rfl⟩ (Nat.le_of_ble_eq_true rfl) (Nat.le_of_ble_eq_true rfl) 7 0 rfl rfl [1] [0, 2, 3] rfl rfl rfl rfl (by decide) rfl hl.1 rfl (Nat.le_of_ble_eq_true rfl) (Nat.zero_le _) (Nat.zero_le _) dX9_unknownTo_11 (fun H locs hP hD hS => ?_)
      refine lv_icmp_ge (tgt := 50) hx hb dX9_unknownTo_14 (by decide) (fun c_14 => ?_) (fun c_14 => ?_)
      · replace h := it_e c_14 h
        refine lv_iload_n hx hb dX9_unknownTo_50 rfl (lv_at hl 3 rfl) ?_
        have hz := Option.some.inj h
        subst hz
        exact hret H locs 51 ls (fun ty h => by cases h; rfl) (hP.sub [0, 3, 1, 2] rfl) (hD.sub [0, 3, 1, 2] (by decide) rfl) hS dX9_unknownTo_51
      · replace h := if_e c_14 h
        refine lv_iload_n hx hb dX9_unknownTo_17 rfl (lv_at hl 2 rfl) ?_
        refine lv_iload hx hb dX9_unknownTo_18 (lv_at hl 4 rfl) ?_
        obtain ⟨z_20, hc_20, h⟩ := bd_e h
        refine q_iS (As := [.int p2, .int x5_l4]) (rest := []) (wF := [(a_o, .inr (8, [.ref a_tongue])), (a_tongue_values, .inl (cI, 3, .inl f_tongue_values)), (a_tongue_left, .inl (cI, 30, .inl f_tongue_left)), (a_tongue, .inr (7, [.ref a_tongue_values, .ref a_tongue_left, .int tongue_choices, .int tongue_worlds]))]) hF hA hZ hK hP hD hS (c_X4_has l D cI cB cZ p2 x5_l4 z_20 hc_20) rfl gX9_unknownTo_X4_has hdX4_has ⟨rfl, rfl⟩ (Nat.le_of_ble_eq_true rfl) (Nat.le_of_ble_eq_true rfl) [] [0, 1, 2, 3] rfl rfl rfl rfl (by decide) rfl hl.1 rfl (Nat.le_of_ble_eq_true rfl) (Nat.zero_le _) (Nat.zero_le _) dX9_unknownTo_20 (fun H locs hP hD hS => ?_)
        obtain ⟨j44, hj44, h⟩ := jn_e h
        have Jj44 : ∀ (x44_l3 : Int32) (H : Heap) (locs : List Loc) (ls : Array Slot), j44 x44_l3 = some z → va_P D vwCl [(a_o, .inr (8, [.ref a_tongue])), (a_tongue_values, .inl (cI, 3, .inl f_tongue_values)), (a_tongue_left, .inl (cI, 30, .inl f_tongue_left)), (a_tongue, .inr (7, [.ref a_tongue_values, .ref a_tongue_left, .int tongue_choices, .int tongue_worlds]))] H → va_D A [(a_o, .inr (8, [.ref a_tongue])), (a_tongue_values, .inl (cI, 3, .inl f_tongue_values)), (a_tongue_left, .inl (cI, 30, .inl f_tongue_left)), (a_tongue, .inr (7, [.ref a_tongue_values, .ref a_tongue_left, .int tongue_choices, .int tongue_worlds]))] → va_S A s.heap H locs → lv_has ls 5 [(0, .ref a_o), (1, .int p1), (2, .int p2), (3, .int x44_l3), (4, .int x5_l4)] → W p l e rmX9_unknownTo s m args below meth c H locs 0 0 Q (F0 m 44 ls []) := by
          intro x44_l3 H locs ls h hP hD hS hl
          rw [hj44] at h
          refine lv_iinc (v := x5_l4 + 1) (lv' := [(4, .int (x5_l4 + 1)), (0, .ref a_o), (1, .int p1), (2, .int p2), (3, .int x44_l3)]) hx hb dX9_unknownTo_44 hl (k := 4) rfl (congrArg (x5_l4 + ·) ic_1) (by decide) rfl (fun ls hl => ?_)
          refine lv_goto (tgt := 5) hx hb dX9_unknownTo_47 (by decide) ?_
          exact ih5 x44_l3 (x5_l4 + 1) H locs ls h (hP.sub [0, 3, 1, 2] rfl) (hD.sub [0, 3, 1, 2] (by decide) rfl) hS (lv_sub hl [1, 2, 3, 4, 0] rfl)
        refine lv_if_eq (tgt := 44) hx hb dX9_unknownTo_23 (by decide) (fun c_23 => ?_) (fun c_23 => ?_)
        · replace h := it_e c_23 h
          exact Jj44 x5_l3 H locs ls h hP hD hS hl
        · replace h := if_e c_23 h
          refine lv_aload_n hx hb dX9_unknownTo_26 rfl (lv_at hl 0 rfl) ?_
          refine lv_iload_n hx hb dX9_unknownTo_27 rfl (lv_at hl 1 rfl) ?_
          refine lv_iload hx hb dX9_unknownTo_28 (lv_at hl 4 rfl) ?_
          refine lv_iload_n hx hb dX9_unknownTo_30 rfl (lv_at hl 2 rfl) ?_
          obtain ⟨z_31, hc_31, h⟩ := bd_e h
          refine q_iV (As := [.int p1, .int x5_l4, .int p2]) (rest := []) (wF := [(a_o, .inr (8, [.ref a_tongue])), (a_tongue, .inr (7, [.ref a_tongue_values, .ref a_tongue_left, .int tongue_choices, .int tongue_worlds])), (a_tongue_values, .inl (cI, 3, .inl f_tongue_values)), (a_tongue_left, .inl (cI, 30, .inl f_tongue_left))]) hF hA hZ hK hP hD hS (c_X9_knows l D cI cB cZ a_o a_tongue tongue_choices tongue_worlds a_tongue_values f_tongue_values a_tongue_left f_tongue_left p1 x5_l4 p2 z_31 hc_31) rfl gX9_unknownTo_X9_knows hdX9_knows ⟨rfl, rfl⟩ (Nat.le_of_ble_eq_true rfl) (Nat.le_of_ble_eq_true rfl) 8 0 rfl rfl [0, 3, 1, 2] [] rfl rfl rfl rfl (by decide) rfl hl.1 rfl (Nat.le_of_ble_eq_true rfl) (Nat.zero_le _) (Nat.zero_le _) dX9_unknownTo_31 (fun H locs hP hD hS => ?_)
          refine lv_if_ne (tgt := 44) hx hb dX9_unknownTo_34 (by decide) (fun c_34 => ?_) (fun c_34 => ?_)
          · replace h := if_e c_34 h
            exact Jj44 x5_l3 H locs ls h (hP.sub [0, 2, 3, 1] rfl) (hD.sub [0, 2, 3, 1] (by decide) rfl) hS hl
          · replace h := it_e c_34 h
            refine lv_iload_n hx hb dX9_unknownTo_37 rfl (lv_at hl 3 rfl) ?_
            refine lv_iconst (v := 1) hx hb dX9_unknownTo_38 ic_1 ?_
            refine lv_iload hx hb dX9_unknownTo_39 (lv_at hl 4 rfl) ?_
            refine lv_ishl hx hb dX9_unknownTo_41 ?_
            refine lv_ior hx hb dX9_unknownTo_42 ?_
            refine lv_istore_n (lv' := [(3, .int (x5_l3 ||| (1 <<< (x5_l4 &&& 31)))), (0, .ref a_o), (1, .int p1), (2, .int p2), (4, .int x5_l4)]) hx hb dX9_unknownTo_43 rfl hl (by decide) rfl (fun ls hl => ?_)
            exact Jj44 (x5_l3 ||| (1 <<< (x5_l4 &&& 31))) H locs ls h (hP.sub [0, 2, 3, 1] rfl) (hD.sub [0, 2, 3, 1] (by decide) rfl) hS (lv_sub hl [1, 2, 3, 0, 4] rfl)
  exact L5 QF 0 0 H locs ls h hP hD hS (lv_sub hl [2, 3, 4, 1, 0] rfl)
abbrev rmX10_talk : Room := { frames := 6, cells := 0, slots := 0, locals := 137 }
theorem hdX10_talk : yX10_talk.cls = RX10 ∧ yX10_talk.cls ≠ "java/lang/invoke/MethodHandle" ∧ yX10_talk.cls ≠ "java/lang/invoke/VarHandle" ∧ (parseMethodDescriptor yX10_talk.desc).map (fun d => d.parameters.length) = some 3 := by decide +kernel
set_option maxRecDepth 100000 in
set_option maxHeartbeats 4000000 in
theorem c_X10_talk (l : Launch) (D : va_G) (cI cB cZ : ClassId) (a_o : Nat) (w_o_text : Value) (w_o_image0 : Value) (w_o_image1 : Value) (w_o_signs : Value) (w_o_reader : Value) (w_o_lengths : Value) (w_o_refusals : Value) (o_measured : Int32) (o_traced : Int64) (a_speech : Nat) (speech_choices : Int32) (speech_worlds : Int32) (a_speech_values : Nat) (f_speech_values : Nat → Int32) (a_speech_left : Nat) (f_speech_left : Nat → Int32) (a_now : Nat) (w_now_signs : Value) (w_now_wordSets : Value) (now_sayings : Int32) (now_words : Int32) (now_filled : Int32) (a_now_left : Nat) (f_now_left : Nat → Int32) (a_two : Nat) (p1 : Int32) (p2 : Int32) (p3 : Int32) (z : Int32) (h : P_X10_talk p1 p2 p3 speech_choices speech_worlds f_speech_values f_speech_left now_sayings f_now_left = some z) : KI l yX10_talk wsX10_talk rmX10_talk D [(cI, .int), (cB, .byte), (cZ, .boolean)] [.ref a_o, .int p1, .int p2, .int p3] [(a_o, .inr (9, [w_o_text, .ref a_speech, .ref a_now, w_o_image0, w_o_image1, w_o_signs, w_o_reader, w_o_lengths, w_o_refusals, .ref a_two, .int o_measured, .long o_traced])), (a_speech, .inr (7, [.ref a_speech_values, .ref a_speech_left, .int speech_choices, .int speech_worlds])), (a_speech_values, .inl (cI, 3, .inl f_speech_values)), (a_speech_left, .inl (cI, 30, .inl f_speech_left)), (a_now, .inr (0, [.ref a_now_left, w_now_signs, w_now_wordSets, .int now_sayings, .int now_words, .int now_filled])), (a_now_left, .inl (cI, 8, .inl f_now_left)), (a_two, .inr (8, [.ref a_speech]))] [(a_o, .inr (9, [w_o_text, .ref a_speech, .ref a_now, w_o_image0, w_o_image1, w_o_signs, w_o_reader, w_o_lengths, w_o_refusals, .ref a_two, .int o_measured, .long o_traced])), (a_speech, .inr (7, [.ref a_speech_values, .ref a_speech_left, .int speech_choices, .int speech_worlds])), (a_speech_values, .inl (cI, 3, .inl f_speech_values)), (a_speech_left, .inl (cI, 30, .inl f_speech_left)), (a_now, .inr (0, [.ref a_now_left, w_now_signs, w_now_wordSets, .int now_sayings, .int now_words, .int now_filled])), (a_now_left, .inl (cI, 8, .inl f_now_left)), (a_two, .inr (8, [.ref a_speech]))] z := by
  refine KI_of (own := RX10) (cc := cX10_talk) (maxL := 7) (ret := some .int) (by decide) rfl rfl (Nat.le_of_ble_eq_true rfl) (Or.inl rfl) ?_
  intro p e s m args below meth c A Q hx hb hml hown hts hA hZ hK hret H locs ls hP hD hS hl
  have hl : lv_has ls 7 [(0, .ref a_o), (1, .int p1), (2, .int p2), (3, .int p3)] := hl
  have hF : CallFix p m c cX10_talk 7 s args wsX10_talk RX10 := ⟨hx, hb, hml, hown, hts⟩
  have u_X10 : ∀ w ∈ u_ws RX10 TX10 12, w ∈ wsX10_talk := by decide +kernel
  have k_f0 := hts (.fieldLink RX10 19 "NoWordNo" "speech" "LNoWordNo$Tongue;") (by decide +kernel)
  have k_f1 := hts (.fieldLink RX10 77 "NoWordNo" "two" "LNoWordNo$Two;") (by decide +kernel)
  unfold P_X10_talk at h
  refine lv_iload_n hx hb dX10_talk_0 rfl (lv_at hl 1 rfl) ?_
  obtain ⟨z_1, hc_1, h⟩ := bd_e h
  refine q_iS (As := [.int p1]) (rest := []) (wF := [(a_o, .inr (9, [w_o_text, .ref a_speech, .ref a_now, w_o_image0, w_o_image1, w_o_signs, w_o_reader, w_o_lengths, w_o_refusals, .ref a_two, .int o_measured, .long o_traced])), (a_speech, .inr (7, [.ref a_speech_values, .ref a_speech_left, .int speech_choices, .int speech_worlds])), (a_speech_values, .inl (cI, 3, .inl f_speech_values)), (a_speech_left, .inl (cI, 30, .inl f_speech_left)), (a_now, .inr (0, [.ref a_now_left, w_now_signs, w_now_wordSets, .int now_sayings, .int now_words, .int now_filled])), (a_now_left, .inl (cI, 8, .inl f_now_left)), (a_two, .inr (8, [.ref a_speech]))]) hF hA hZ hK hP hD hS (c_X10_isSeen l D cI cB cZ p1 z_1 hc_1) rfl gX10_talk_X10_isSeen hdX10_isSeen ⟨rfl, rfl⟩ (Nat.le_of_ble_eq_true rfl) (Nat.le_of_ble_eq_true rfl) [] [0, 1, 2, 3, 4, 5, 6] rfl rfl rfl rfl (by decide) rfl hl.1 rfl (Nat.le_of_ble_eq_true rfl) (Nat.zero_le _) (Nat.zero_le _) dX10_talk_1 (fun H locs hP hD hS => ?_)
  refine lv_if_eq (tgt := 25) hx hb dX10_talk_4 (by decide) (fun c_4 => ?_) (fun c_4 => ?_)
  · replace h := it_e c_4 h
    refine lv_iconst (v := (-1)) hx hb dX10_talk_25 ic_m1 ?_
    have hz := Option.some.inj h
    subst hz
    exact hret H locs 26 ls (fun ty h => by cases h; rfl) hP hD hS dX10_talk_26
  · replace h := if_e c_4 h
    refine lv_iload_n hx hb dX10_talk_7 rfl (lv_at hl 2 rfl) ?_
    obtain ⟨z_8, hc_8, h⟩ := bd_e h
    refine q_iS (As := [.int p2]) (rest := []) (wF := [(a_o, .inr (9, [w_o_text, .ref a_speech, .ref a_now, w_o_image0, w_o_image1, w_o_signs, w_o_reader, w_o_lengths, w_o_refusals, .ref a_two, .int o_measured, .long o_traced])), (a_speech, .inr (7, [.ref a_speech_values, .ref a_speech_left, .int speech_choices, .int speech_worlds])), (a_speech_values, .inl (cI, 3, .inl f_speech_values)), (a_speech_left, .inl (cI, 30, .inl f_speech_left)), (a_now, .inr (0, [.ref a_now_left, w_now_signs, w_now_wordSets, .int now_sayings, .int now_words, .int now_filled])), (a_now_left, .inl (cI, 8, .inl f_now_left)), (a_two, .inr (8, [.ref a_speech]))]) hF hA hZ hK hP hD hS (c_X10_isSeen l D cI cB cZ p2 z_8 hc_8) rfl gX10_talk_X10_isSeen hdX10_isSeen ⟨rfl, rfl⟩ (Nat.le_of_ble_eq_true rfl) (Nat.le_of_ble_eq_true rfl) [] [0, 1, 2, 3, 4, 5, 6] rfl rfl rfl rfl (by decide) rfl hl.1 rfl (Nat.le_of_ble_eq_true rfl) (Nat.zero_le _) (Nat.zero_le _) dX10_talk_8 (fun H locs hP hD hS => ?_)
    refine lv_if_eq (tgt := 25) hx hb dX10_talk_11 (by decide) (fun c_11 => ?_) (fun c_11 => ?_)
    · replace h := it_e c_11 h
      refine lv_iconst (v := (-1)) hx hb dX10_talk_25 ic_m1 ?_
      have hz := Option.some.inj h
      subst hz
      exact hret H locs 26 ls (fun ty h => by cases h; rfl) hP hD hS dX10_talk_26
    · replace h := if_e c_11 h
      refine lv_aload_n hx hb dX10_talk_14 rfl (lv_at hl 0 rfl) ?_
      refine va_get (D := D) (ci := 9) (v := .ref a_speech) (C := RX10) (T := TX10) (N := 12) hx hb hts u_X10 hown hK hP 0 rfl rfl 1 (by decide) k_f0 (fun _ h9 => h9) rfl dX10_talk_15 ?_
      refine lv_iload_n hx hb dX10_talk_18 rfl (lv_at hl 3 rfl) ?_
      obtain ⟨z_19, hc_19, h⟩ := bd_e h
      refine q_iV (As := [.int p3]) (rest := []) (wF := [(a_o, .inr (9, [w_o_text, .ref a_speech, .ref a_now, w_o_image0, w_o_image1, w_o_signs, w_o_reader, w_o_lengths, w_o_refusals, .ref a_two, .int o_measured, .long o_traced])), (a_speech_values, .inl (cI, 3, .inl f_speech_values)), (a_speech_left, .inl (cI, 30, .inl f_speech_left)), (a_now, .inr (0, [.ref a_now_left, w_now_signs, w_now_wordSets, .int now_sayings, .int now_words, .int now_filled])), (a_now_left, .inl (cI, 8, .inl f_now_left)), (a_two, .inr (8, [.ref a_speech])), (a_speech, .inr (7, [.ref a_speech_values, .ref a_speech_left, .int speech_choices, .int speech_worlds]))]) hF hA hZ hK hP hD hS (c_X8_isWorld l D cI cB cZ a_speech (.ref a_speech_values) (.ref a_speech_left) speech_choices speech_worlds p3 z_19 hc_19) rfl gX10_talk_X8_isWorld hdX8_isWorld ⟨rfl, rfl⟩ (Nat.le_of_ble_eq_true rfl) (Nat.le_of_ble_eq_true rfl) 7 0 rfl rfl [1] [0, 2, 3, 4, 5, 6] rfl rfl rfl rfl (by decide) rfl hl.1 rfl (Nat.le_of_ble_eq_true rfl) (Nat.zero_le _) (Nat.zero_le _) dX10_talk_19 (fun H locs hP hD hS => ?_)
      refine lv_if_ne (tgt := 27) hx hb dX10_talk_22 (by decide) (fun c_22 => ?_) (fun c_22 => ?_)
      · replace h := if_e c_22 h
        refine lv_aload_n hx hb dX10_talk_27 rfl (lv_at hl 0 rfl) ?_
        obtain ⟨z_28, hc_28, h⟩ := bd_e h
        refine q_iV (As := []) (rest := []) (wF := [(a_speech_values, .inl (cI, 3, .inl f_speech_values)), (a_speech_left, .inl (cI, 30, .inl f_speech_left)), (a_two, .inr (8, [.ref a_speech])), (a_o, .inr (9, [w_o_text, .ref a_speech, .ref a_now, w_o_image0, w_o_image1, w_o_signs, w_o_reader, w_o_lengths, w_o_refusals, .ref a_two, .int o_measured, .long o_traced])), (a_speech, .inr (7, [.ref a_speech_values, .ref a_speech_left, .int speech_choices, .int speech_worlds])), (a_now, .inr (0, [.ref a_now_left, w_now_signs, w_now_wordSets, .int now_sayings, .int now_words, .int now_filled])), (a_now_left, .inl (cI, 8, .inl f_now_left))]) hF hA hZ hK hP hD hS (c_X10_contract l D cI cB cZ a_o w_o_text w_o_image0 w_o_image1 w_o_signs w_o_reader w_o_lengths w_o_refusals (.ref a_two) o_measured o_traced a_speech (.ref a_speech_values) (.ref a_speech_left) speech_choices speech_worlds a_now w_now_signs w_now_wordSets now_sayings now_words now_filled a_now_left f_now_left z_28 hc_28) rfl gX10_talk_X10_contract hdX10_contract ⟨rfl, rfl⟩ (Nat.le_of_ble_eq_true rfl) (Nat.le_of_ble_eq_true rfl) 9 0 rfl rfl [0, 6, 3, 4] [1, 2, 5] rfl rfl rfl rfl (by decide) rfl hl.1 rfl (Nat.le_of_ble_eq_true rfl) (Nat.zero_le _) (Nat.zero_le _) dX10_talk_28 (fun H locs hP hD hS => ?_)
        refine lv_istore (lv' := [(4, .int z_28), (0, .ref a_o), (1, .int p1), (2, .int p2), (3, .int p3)]) hx hb dX10_talk_31 hl (by decide) rfl (fun ls hl => ?_)
        refine lv_iload hx hb dX10_talk_33 (lv_at hl 0 rfl) ?_
        refine lv_iload_n hx hb dX10_talk_35 rfl (lv_at hl 4 rfl) ?_
        obtain ⟨z_36, hc_36, h⟩ := bd_e h
        refine q_iS (As := [.int z_28, .int p3]) (rest := []) (wF := [(a_speech_values, .inl (cI, 3, .inl f_speech_values)), (a_speech_left, .inl (cI, 30, .inl f_speech_left)), (a_two, .inr (8, [.ref a_speech])), (a_o, .inr (9, [w_o_text, .ref a_speech, .ref a_now, w_o_image0, w_o_image1, w_o_signs, w_o_reader, w_o_lengths, w_o_refusals, .ref a_two, .int o_measured, .long o_traced])), (a_speech, .inr (7, [.ref a_speech_values, .ref a_speech_left, .int speech_choices, .int speech_worlds])), (a_now, .inr (0, [.ref a_now_left, w_now_signs, w_now_wordSets, .int now_sayings, .int now_words, .int now_filled])), (a_now_left, .inl (cI, 8, .inl f_now_left))]) hF hA hZ hK hP hD hS (c_X4_has l D cI cB cZ z_28 p3 z_36 hc_36) rfl gX10_talk_X4_has hdX4_has ⟨rfl, rfl⟩ (Nat.le_of_ble_eq_true rfl) (Nat.le_of_ble_eq_true rfl) [] [0, 1, 2, 3, 4, 5, 6] rfl rfl rfl rfl (by decide) rfl hl.1 rfl (Nat.le_of_ble_eq_true rfl) (Nat.zero_le _) (Nat.zero_le _) dX10_talk_36 (fun H locs hP hD hS => ?_)
        refine lv_if_ne (tgt := 45) hx hb dX10_talk_39 (by decide) (fun c_39 => ?_) (fun c_39 => ?_)
        · replace h := if_e c_39 h
          refine lv_iconst (v := 1) hx hb dX10_talk_45 ic_1 ?_
          refine lv_istore (lv' := [(5, .int 1), (4, .int z_28), (0, .ref a_o), (1, .int p1), (2, .int p2), (3, .int p3)]) hx hb dX10_talk_46 hl (by decide) rfl (fun ls hl => ?_)
          have L48 : ∀ (n : Nat), ∀ (x48_l4 : Int32) (x48_l5 : Int32) (H : Heap) (locs : List Loc) (ls : Array Slot), P_X10_talk_48 p1 p2 p3 speech_choices speech_worlds f_speech_values f_speech_left n x48_l4 x48_l5 = some z → va_P D vwCl [(a_speech_values, .inl (cI, 3, .inl f_speech_values)), (a_speech_left, .inl (cI, 30, .inl f_speech_left)), (a_two, .inr (8, [.ref a_speech])), (a_o, .inr (9, [w_o_text, .ref a_speech, .ref a_now, w_o_image0, w_o_image1, w_o_signs, w_o_reader, w_o_lengths, w_o_refusals, .ref a_two, .int o_measured, .long o_traced])), (a_speech, .inr (7, [.ref a_speech_values, .ref a_speech_left, .int speech_choices, .int speech_worlds])), (a_now, .inr (0, [.ref a_now_left, w_now_signs, w_now_wordSets, .int now_sayings, .int now_words, .int now_filled])), (a_now_left, .inl (cI, 8, .inl f_now_left))] H → va_D A [(a_speech_values, .inl (cI, 3, .inl f_speech_values)), (a_speech_left, .inl (cI, 30, .inl f_speech_left)), (a_two, .inr (8, [.ref a_speech])), (a_o, .inr (9, [w_o_text, .ref a_speech, .ref a_now, w_o_image0, w_o_image1, w_o_signs, w_o_reader, w_o_lengths, w_o_refusals, .ref a_two, .int o_measured, .long o_traced])), (a_speech, .inr (7, [.ref a_speech_values, .ref a_speech_left, .int speech_choices, .int speech_worlds])), (a_now, .inr (0, [.ref a_now_left, w_now_signs, w_now_wordSets, .int now_sayings, .int now_words, .int now_filled])), (a_now_left, .inl (cI, 8, .inl f_now_left))] → va_S A s.heap H locs → lv_has ls 7 [(0, .ref a_o), (1, .int p1), (2, .int p2), (3, .int p3), (4, .int x48_l4), (5, .int x48_l5)] → W p l e rmX10_talk s m args below meth c H locs 0 0 Q (F0 m 48 ls []) := by
            intro n
            induction n with
            | zero =>
              intro x48_l4 x48_l5 H locs ls h
              exact no_e h
            | succ n ih48 =>
              intro x48_l4 x48_l5 H locs ls h hP hD hS hl
              rw [P_X10_talk_48] at h
              refine lv_iload hx hb dX10_talk_48 (lv_at hl 5 rfl) ?_
              refine lv_bipush (v := 30) hx hb dX10_talk_50 bc_30 ?_
              refine lv_icmp_gt (tgt := 107) hx hb dX10_talk_52 (by decide) (fun c_52 => ?_) (fun c_52 => ?_)
              · replace h := it_e c_52 h
                refine lv_bipush (v := (-9)) hx hb dX10_talk_107 bc_m9 ?_
                have hz := Option.some.inj h
                subst hz
                exact hret H locs 109 ls (fun ty h => by cases h; rfl) (hP.sub [3, 4, 0, 1, 5, 6, 2] rfl) (hD.sub [3, 4, 0, 1, 5, 6, 2] (by decide) rfl) hS dX10_talk_109
              · replace h := if_e c_52 h
                refine lv_iload hx hb dX10_talk_55 (lv_at hl 5 rfl) ?_
                refine lv_iconst (v := 2) hx hb dX10_talk_57 ic_2 ?_
                refine lv_irem hx hb dX10_talk_58 (by decide) ?_
                refine lv_iconst (v := 1) hx hb dX10_talk_59 ic_1 ?_
                obtain ⟨j68, hj68, h⟩ := jn_e h
                have Jj68 : ∀ (x68_s0 : Int32) (H : Heap) (locs : List Loc) (ls : Array Slot), j68 x68_s0 = some z → va_P D vwCl [(a_speech_values, .inl (cI, 3, .inl f_speech_values)), (a_speech_left, .inl (cI, 30, .inl f_speech_left)), (a_two, .inr (8, [.ref a_speech])), (a_o, .inr (9, [w_o_text, .ref a_speech, .ref a_now, w_o_image0, w_o_image1, w_o_signs, w_o_reader, w_o_lengths, w_o_refusals, .ref a_two, .int o_measured, .long o_traced])), (a_speech, .inr (7, [.ref a_speech_values, .ref a_speech_left, .int speech_choices, .int speech_worlds])), (a_now, .inr (0, [.ref a_now_left, w_now_signs, w_now_wordSets, .int now_sayings, .int now_words, .int now_filled])), (a_now_left, .inl (cI, 8, .inl f_now_left))] H → va_D A [(a_speech_values, .inl (cI, 3, .inl f_speech_values)), (a_speech_left, .inl (cI, 30, .inl f_speech_left)), (a_two, .inr (8, [.ref a_speech])), (a_o, .inr (9, [w_o_text, .ref a_speech, .ref a_now, w_o_image0, w_o_image1, w_o_signs, w_o_reader, w_o_lengths, w_o_refusals, .ref a_two, .int o_measured, .long o_traced])), (a_speech, .inr (7, [.ref a_speech_values, .ref a_speech_left, .int speech_choices, .int speech_worlds])), (a_now, .inr (0, [.ref a_now_left, w_now_signs, w_now_wordSets, .int now_sayings, .int now_words, .int now_filled])), (a_now_left, .inl (cI, 8, .inl f_now_left))] → va_S A s.heap H locs → lv_has ls 7 [(0, .ref a_o), (1, .int p1), (2, .int p2), (3, .int p3), (4, .int x48_l4), (5, .int x48_l5)] → W p l e rmX10_talk s m args below meth c H locs 0 0 Q (F0 m 68 ls [.int x68_s0]) := by
                  intro x68_s0 H locs ls h hP hD hS hl
                  rw [hj68] at h
                  refine lv_istore (lv' := [(6, .int x68_s0), (0, .ref a_o), (1, .int p1), (2, .int p2), (3, .int p3), (4, .int x48_l4), (5, .int x48_l5)]) hx hb dX10_talk_68 hl (by decide) rfl (fun ls hl => ?_)
                  refine lv_aload_n hx hb dX10_talk_70 rfl (lv_at hl 1 rfl) ?_
                  refine va_get (D := D) (ci := 9) (v := .ref a_two) (C := RX10) (T := TX10) (N := 12) hx hb hts u_X10 hown hK hP 3 rfl rfl 9 (by decide) k_f1 (fun _ h9 => h9) rfl dX10_talk_71 ?_
                  refine lv_iload hx hb dX10_talk_74 (lv_at hl 0 rfl) ?_
                  refine lv_iload_n hx hb dX10_talk_76 rfl (lv_at hl 4 rfl) ?_
                  refine lv_iload hx hb dX10_talk_77 (lv_at hl 5 rfl) ?_
                  obtain ⟨z_79, hc_79, h⟩ := bd_e h
                  refine q_iV (As := [.int x68_s0, .int p3, .int x48_l4]) (rest := []) (wF := [(a_o, .inr (9, [w_o_text, .ref a_speech, .ref a_now, w_o_image0, w_o_image1, w_o_signs, w_o_reader, w_o_lengths, w_o_refusals, .ref a_two, .int o_measured, .long o_traced])), (a_now, .inr (0, [.ref a_now_left, w_now_signs, w_now_wordSets, .int now_sayings, .int now_words, .int now_filled])), (a_now_left, .inl (cI, 8, .inl f_now_left)), (a_two, .inr (8, [.ref a_speech])), (a_speech, .inr (7, [.ref a_speech_values, .ref a_speech_left, .int speech_choices, .int speech_worlds])), (a_speech_values, .inl (cI, 3, .inl f_speech_values)), (a_speech_left, .inl (cI, 30, .inl f_speech_left))]) hF hA hZ hK hP hD hS (c_X9_knows l D cI cB cZ a_two a_speech speech_choices speech_worlds a_speech_values f_speech_values a_speech_left f_speech_left x68_s0 p3 x48_l4 z_79 hc_79) rfl gX10_talk_X9_knows hdX9_knows ⟨rfl, rfl⟩ (Nat.le_of_ble_eq_true rfl) (Nat.le_of_ble_eq_true rfl) 8 0 rfl rfl [2, 4, 0, 1] [3, 5, 6] rfl rfl rfl rfl (by decide) rfl hl.1 rfl (Nat.le_of_ble_eq_true rfl) (Nat.zero_le _) (Nat.zero_le _) dX10_talk_79 (fun H locs hP hD hS => ?_)
                  refine lv_if_eq (tgt := 88) hx hb dX10_talk_82 (by decide) (fun c_82 => ?_) (fun c_82 => ?_)
                  · replace h := it_e c_82 h
                    refine lv_aload_n hx hb dX10_talk_88 rfl (lv_at hl 1 rfl) ?_
                    refine va_get (D := D) (ci := 9) (v := .ref a_two) (C := RX10) (T := TX10) (N := 12) hx hb hts u_X10 hown hK hP 0 rfl rfl 9 (by decide) k_f1 (fun _ h9 => h9) rfl dX10_talk_89 ?_
                    refine lv_iload hx hb dX10_talk_92 (lv_at hl 0 rfl) ?_
                    refine lv_iload hx hb dX10_talk_94 (lv_at hl 5 rfl) ?_
                    obtain ⟨z_96, hc_96, h⟩ := bd_e h
                    refine q_iV (As := [.int x68_s0, .int x48_l4]) (rest := []) (wF := [(a_o, .inr (9, [w_o_text, .ref a_speech, .ref a_now, w_o_image0, w_o_image1, w_o_signs, w_o_reader, w_o_lengths, w_o_refusals, .ref a_two, .int o_measured, .long o_traced])), (a_now, .inr (0, [.ref a_now_left, w_now_signs, w_now_wordSets, .int now_sayings, .int now_words, .int now_filled])), (a_now_left, .inl (cI, 8, .inl f_now_left)), (a_two, .inr (8, [.ref a_speech])), (a_speech, .inr (7, [.ref a_speech_values, .ref a_speech_left, .int speech_choices, .int speech_worlds])), (a_speech_values, .inl (cI, 3, .inl f_speech_values)), (a_speech_left, .inl (cI, 30, .inl f_speech_left))]) hF hA hZ hK hP hD hS (c_X9_unknownTo l D cI cB cZ a_two a_speech speech_choices speech_worlds a_speech_values f_speech_values a_speech_left f_speech_left x68_s0 x48_l4 z_96 hc_96) rfl gX10_talk_X9_unknownTo hdX9_unknownTo ⟨rfl, rfl⟩ (Nat.le_of_ble_eq_true rfl) (Nat.le_of_ble_eq_true rfl) 8 0 rfl rfl [3, 4, 5, 6] [0, 1, 2] rfl rfl rfl rfl (by decide) rfl hl.1 rfl (Nat.le_of_ble_eq_true rfl) (Nat.zero_le _) (Nat.zero_le _) dX10_talk_96 (fun H locs hP hD hS => ?_)
                    refine lv_istore (lv' := [(4, .int z_96), (6, .int x68_s0), (0, .ref a_o), (1, .int p1), (2, .int p2), (3, .int p3), (5, .int x48_l5)]) hx hb dX10_talk_99 hl (by decide) rfl (fun ls hl => ?_)
                    refine lv_iinc (v := x48_l5 + 1) (lv' := [(5, .int (x48_l5 + 1)), (4, .int z_96), (6, .int x68_s0), (0, .ref a_o), (1, .int p1), (2, .int p2), (3, .int p3)]) hx hb dX10_talk_101 hl (k := 6) rfl (congrArg (x48_l5 + ·) ic_1) (by decide) rfl (fun ls hl => ?_)
                    refine lv_goto (tgt := 48) hx hb dX10_talk_104 (by decide) ?_
                    exact ih48 z_96 (x48_l5 + 1) H locs ls h (hP.sub [5, 6, 3, 0, 4, 1, 2] rfl) (hD.sub [5, 6, 3, 0, 4, 1, 2] (by decide) rfl) hS (lv_sub hl [3, 4, 5, 6, 1, 0] rfl)
                  · replace h := if_e c_82 h
                    refine lv_iload hx hb dX10_talk_85 (lv_at hl 6 rfl) ?_
                    have hz := Option.some.inj h
                    subst hz
                    exact hret H locs 87 ls (fun ty h => by cases h; rfl) (hP.sub [0, 4, 5, 6, 1, 2, 3] rfl) (hD.sub [0, 4, 5, 6, 1, 2, 3] (by decide) rfl) hS dX10_talk_87
                refine lv_icmp_ne (tgt := 67) hx hb dX10_talk_60 (by decide) (fun c_60 => ?_) (fun c_60 => ?_)
                · replace h := if_e c_60 h
                  refine lv_iload_n hx hb dX10_talk_67 rfl (lv_at hl 2 rfl) ?_
                  exact Jj68 p2 H locs ls h hP hD hS hl
                · replace h := it_e c_60 h
                  refine lv_iload_n hx hb dX10_talk_63 rfl (lv_at hl 1 rfl) ?_
                  refine lv_goto (tgt := 68) hx hb dX10_talk_64 (by decide) ?_
                  exact Jj68 p1 H locs ls h hP hD hS hl
          exact L48 QF z_28 1 H locs ls h hP hD hS (lv_sub hl [2, 3, 4, 5, 1, 0] rfl)
        · replace h := it_e c_39 h
          refine lv_bipush (v := (-2)) hx hb dX10_talk_42 bc_m2 ?_
          have hz := Option.some.inj h
          subst hz
          exact hret H locs 44 ls (fun ty h => by cases h; rfl) (hP.sub [3, 4, 0, 1, 5, 6, 2] rfl) (hD.sub [3, 4, 0, 1, 5, 6, 2] (by decide) rfl) hS dX10_talk_44
      · replace h := it_e c_22 h
        refine lv_iconst (v := (-1)) hx hb dX10_talk_25 ic_m1 ?_
        have hz := Option.some.inj h
        subst hz
        exact hret H locs 26 ls (fun ty h => by cases h; rfl) (hP.sub [0, 6, 1, 2, 3, 4, 5] rfl) (hD.sub [0, 6, 1, 2, 3, 4, 5] (by decide) rfl) hS dX10_talk_26
