abbrev rmX10_silence : Room := { frames := 6, cells := 0, slots := 0, locals := 137 }
theorem hdX10_silence : yX10_silence.cls = RX10 ∧ yX10_silence.cls ≠ "java/lang/invoke/MethodHandle" ∧ yX10_silence.cls ≠ "java/lang/invoke/VarHandle" ∧ (parseMethodDescriptor yX10_silence.desc).map (fun d => d.parameters.length) = some 3 := by decide +kernel
set_option maxRecDepth 100000 in
set_option maxHeartbeats 4000000 in
theorem c_X10_silence (l : Launch) (D : va_G) (cI cB cZ : ClassId) (a_o : Nat) (w_o_text : Value) (w_o_image0 : Value) (w_o_image1 : Value) (w_o_signs : Value) (w_o_reader : Value) (w_o_lengths : Value) (w_o_refusals : Value) (o_measured : Int32) (o_traced : Int64) (a_speech : Nat) (speech_choices : Int32) (speech_worlds : Int32) (a_speech_values : Nat) (f_speech_values : Nat → Int32) (a_speech_left : Nat) (f_speech_left : Nat → Int32) (a_now : Nat) (w_now_signs : Value) (w_now_wordSets : Value) (now_sayings : Int32) (now_words : Int32) (now_filled : Int32) (a_now_left : Nat) (f_now_left : Nat → Int32) (a_two : Nat) (p1 : Int32) (p2 : Int32) (p3 : Int32) (z : Int32) (h : P_X10_silence p1 p2 p3 speech_choices speech_worlds f_speech_values f_speech_left now_sayings f_now_left = some z) : KI l yX10_silence wsX10_silence rmX10_silence D [(cI, .int), (cB, .byte), (cZ, .boolean)] [.ref a_o, .int p1, .int p2, .int p3] [(a_o, .inr (9, [w_o_text, .ref a_speech, .ref a_now, w_o_image0, w_o_image1, w_o_signs, w_o_reader, w_o_lengths, w_o_refusals, .ref a_two, .int o_measured, .long o_traced])), (a_speech, .inr (7, [.ref a_speech_values, .ref a_speech_left, .int speech_choices, .int speech_worlds])), (a_speech_values, .inl (cI, 3, .inl f_speech_values)), (a_speech_left, .inl (cI, 30, .inl f_speech_left)), (a_now, .inr (0, [.ref a_now_left, w_now_signs, w_now_wordSets, .int now_sayings, .int now_words, .int now_filled])), (a_now_left, .inl (cI, 8, .inl f_now_left)), (a_two, .inr (8, [.ref a_speech]))] [(a_o, .inr (9, [w_o_text, .ref a_speech, .ref a_now, w_o_image0, w_o_image1, w_o_signs, w_o_reader, w_o_lengths, w_o_refusals, .ref a_two, .int o_measured, .long o_traced])), (a_speech, .inr (7, [.ref a_speech_values, .ref a_speech_left, .int speech_choices, .int speech_worlds])), (a_speech_values, .inl (cI, 3, .inl f_speech_values)), (a_speech_left, .inl (cI, 30, .inl f_speech_left)), (a_now, .inr (0, [.ref a_now_left, w_now_signs, w_now_wordSets, .int now_sayings, .int now_words, .int now_filled])), (a_now_left, .inl (cI, 8, .inl f_now_left)), (a_two, .inr (8, [.ref a_speech]))] z := by
  refine KI_of (own := RX10) (cc := cX10_silence) (maxL := 6) (ret := some .int) (by decide) rfl rfl (Nat.le_of_ble_eq_true rfl) (Or.inl rfl) ?_
  intro p e s m args below meth c A Q hx hb hml hown hts hA hZ hK hret H locs ls hP hD hS hl
  have hl : lv_has ls 6 [(0, .ref a_o), (1, .int p1), (2, .int p2), (3, .int p3)] := hl
  have hF : CallFix p m c cX10_silence 6 s args wsX10_silence RX10 := ⟨hx, hb, hml, hown, hts⟩
  have u_X10 : ∀ w ∈ u_ws RX10 TX10 12, w ∈ wsX10_silence := by decide +kernel
  have k_f0 := hts (.fieldLink RX10 77 "NoWordNo" "two" "LNoWordNo$Two;") (by decide +kernel)
  unfold P_X10_silence at h
  refine lv_iload_n hx hb dX10_silence_0 rfl (lv_at hl 1 rfl) ?_
  obtain ⟨z_1, hc_1, h⟩ := bd_e h
  refine q_iS (As := [.int p1]) (rest := []) (wF := [(a_o, .inr (9, [w_o_text, .ref a_speech, .ref a_now, w_o_image0, w_o_image1, w_o_signs, w_o_reader, w_o_lengths, w_o_refusals, .ref a_two, .int o_measured, .long o_traced])), (a_speech, .inr (7, [.ref a_speech_values, .ref a_speech_left, .int speech_choices, .int speech_worlds])), (a_speech_values, .inl (cI, 3, .inl f_speech_values)), (a_speech_left, .inl (cI, 30, .inl f_speech_left)), (a_now, .inr (0, [.ref a_now_left, w_now_signs, w_now_wordSets, .int now_sayings, .int now_words, .int now_filled])), (a_now_left, .inl (cI, 8, .inl f_now_left)), (a_two, .inr (8, [.ref a_speech]))]) hF hA hZ hK hP hD hS (c_X10_isSeen l D cI cB cZ p1 z_1 hc_1) rfl gX10_silence_X10_isSeen hdX10_isSeen ⟨rfl, rfl⟩ (Nat.le_of_ble_eq_true rfl) (Nat.le_of_ble_eq_true rfl) [] [0, 1, 2, 3, 4, 5, 6] rfl rfl rfl rfl (by decide) rfl hl.1 rfl (Nat.le_of_ble_eq_true rfl) (Nat.zero_le _) (Nat.zero_le _) dX10_silence_1 (fun H locs hP hD hS => ?_)
  refine lv_if_eq (tgt := 24) hx hb dX10_silence_4 (by decide) (fun c_4 => ?_) (fun c_4 => ?_)
  · replace h := it_e c_4 h
    refine lv_iconst (v := (-1)) hx hb dX10_silence_24 ic_m1 ?_
    have hz := Option.some.inj h
    subst hz
    exact hret H locs 25 ls (fun ty h => by cases h; rfl) hP hD hS dX10_silence_25
  · replace h := if_e c_4 h
    refine lv_iload_n hx hb dX10_silence_7 rfl (lv_at hl 2 rfl) ?_
    obtain ⟨z_8, hc_8, h⟩ := bd_e h
    refine q_iS (As := [.int p2]) (rest := []) (wF := [(a_o, .inr (9, [w_o_text, .ref a_speech, .ref a_now, w_o_image0, w_o_image1, w_o_signs, w_o_reader, w_o_lengths, w_o_refusals, .ref a_two, .int o_measured, .long o_traced])), (a_speech, .inr (7, [.ref a_speech_values, .ref a_speech_left, .int speech_choices, .int speech_worlds])), (a_speech_values, .inl (cI, 3, .inl f_speech_values)), (a_speech_left, .inl (cI, 30, .inl f_speech_left)), (a_now, .inr (0, [.ref a_now_left, w_now_signs, w_now_wordSets, .int now_sayings, .int now_words, .int now_filled])), (a_now_left, .inl (cI, 8, .inl f_now_left)), (a_two, .inr (8, [.ref a_speech]))]) hF hA hZ hK hP hD hS (c_X10_isSeen l D cI cB cZ p2 z_8 hc_8) rfl gX10_silence_X10_isSeen hdX10_isSeen ⟨rfl, rfl⟩ (Nat.le_of_ble_eq_true rfl) (Nat.le_of_ble_eq_true rfl) [] [0, 1, 2, 3, 4, 5, 6] rfl rfl rfl rfl (by decide) rfl hl.1 rfl (Nat.le_of_ble_eq_true rfl) (Nat.zero_le _) (Nat.zero_le _) dX10_silence_8 (fun H locs hP hD hS => ?_)
    refine lv_if_eq (tgt := 24) hx hb dX10_silence_11 (by decide) (fun c_11 => ?_) (fun c_11 => ?_)
    · replace h := it_e c_11 h
      refine lv_iconst (v := (-1)) hx hb dX10_silence_24 ic_m1 ?_
      have hz := Option.some.inj h
      subst hz
      exact hret H locs 25 ls (fun ty h => by cases h; rfl) hP hD hS dX10_silence_25
    · replace h := if_e c_11 h
      refine lv_iload_n hx hb dX10_silence_14 rfl (lv_at hl 3 rfl) ?_
      refine lv_if_lt (tgt := 24) hx hb dX10_silence_15 (by decide) (fun c_15 => ?_) (fun c_15 => ?_)
      · replace h := it_e c_15 h
        refine lv_iconst (v := (-1)) hx hb dX10_silence_24 ic_m1 ?_
        have hz := Option.some.inj h
        subst hz
        exact hret H locs 25 ls (fun ty h => by cases h; rfl) hP hD hS dX10_silence_25
      · replace h := if_e c_15 h
        refine lv_iload_n hx hb dX10_silence_18 rfl (lv_at hl 3 rfl) ?_
        refine lv_bipush (v := 30) hx hb dX10_silence_19 bc_30 ?_
        refine lv_icmp_le (tgt := 26) hx hb dX10_silence_21 (by decide) (fun c_21 => ?_) (fun c_21 => ?_)
        · replace h := it_e c_21 h
          refine lv_aload_n hx hb dX10_silence_26 rfl (lv_at hl 0 rfl) ?_
          obtain ⟨z_27, hc_27, h⟩ := bd_e h
          refine q_iV (As := []) (rest := []) (wF := [(a_speech_values, .inl (cI, 3, .inl f_speech_values)), (a_speech_left, .inl (cI, 30, .inl f_speech_left)), (a_two, .inr (8, [.ref a_speech])), (a_o, .inr (9, [w_o_text, .ref a_speech, .ref a_now, w_o_image0, w_o_image1, w_o_signs, w_o_reader, w_o_lengths, w_o_refusals, .ref a_two, .int o_measured, .long o_traced])), (a_speech, .inr (7, [.ref a_speech_values, .ref a_speech_left, .int speech_choices, .int speech_worlds])), (a_now, .inr (0, [.ref a_now_left, w_now_signs, w_now_wordSets, .int now_sayings, .int now_words, .int now_filled])), (a_now_left, .inl (cI, 8, .inl f_now_left))]) hF hA hZ hK hP hD hS (c_X10_contract l D cI cB cZ a_o w_o_text w_o_image0 w_o_image1 w_o_signs w_o_reader w_o_lengths w_o_refusals (.ref a_two) o_measured o_traced a_speech (.ref a_speech_values) (.ref a_speech_left) speech_choices speech_worlds a_now w_now_signs w_now_wordSets now_sayings now_words now_filled a_now_left f_now_left z_27 hc_27) rfl gX10_silence_X10_contract hdX10_contract ⟨rfl, rfl⟩ (Nat.le_of_ble_eq_true rfl) (Nat.le_of_ble_eq_true rfl) 9 0 rfl rfl [0, 1, 4, 5] [2, 3, 6] rfl rfl rfl rfl (by decide) rfl hl.1 rfl (Nat.le_of_ble_eq_true rfl) (Nat.zero_le _) (Nat.zero_le _) dX10_silence_27 (fun H locs hP hD hS => ?_)
          refine lv_istore (lv' := [(4, .int z_27), (0, .ref a_o), (1, .int p1), (2, .int p2), (3, .int p3)]) hx hb dX10_silence_30 hl (by decide) rfl (fun ls hl => ?_)
          refine lv_iconst (v := 1) hx hb dX10_silence_32 ic_1 ?_
          refine lv_istore (lv' := [(5, .int 1), (4, .int z_27), (0, .ref a_o), (1, .int p1), (2, .int p2), (3, .int p3)]) hx hb dX10_silence_33 hl (by decide) rfl (fun ls hl => ?_)
          have L35 : ∀ (n : Nat), ∀ (x35_l4 : Int32) (x35_l5 : Int32) (H : Heap) (locs : List Loc) (ls : Array Slot), P_X10_silence_35 p1 p2 p3 speech_choices speech_worlds f_speech_values f_speech_left n x35_l4 x35_l5 = some z → va_P D vwCl [(a_speech_values, .inl (cI, 3, .inl f_speech_values)), (a_speech_left, .inl (cI, 30, .inl f_speech_left)), (a_two, .inr (8, [.ref a_speech])), (a_o, .inr (9, [w_o_text, .ref a_speech, .ref a_now, w_o_image0, w_o_image1, w_o_signs, w_o_reader, w_o_lengths, w_o_refusals, .ref a_two, .int o_measured, .long o_traced])), (a_speech, .inr (7, [.ref a_speech_values, .ref a_speech_left, .int speech_choices, .int speech_worlds])), (a_now, .inr (0, [.ref a_now_left, w_now_signs, w_now_wordSets, .int now_sayings, .int now_words, .int now_filled])), (a_now_left, .inl (cI, 8, .inl f_now_left))] H → va_D A [(a_speech_values, .inl (cI, 3, .inl f_speech_values)), (a_speech_left, .inl (cI, 30, .inl f_speech_left)), (a_two, .inr (8, [.ref a_speech])), (a_o, .inr (9, [w_o_text, .ref a_speech, .ref a_now, w_o_image0, w_o_image1, w_o_signs, w_o_reader, w_o_lengths, w_o_refusals, .ref a_two, .int o_measured, .long o_traced])), (a_speech, .inr (7, [.ref a_speech_values, .ref a_speech_left, .int speech_choices, .int speech_worlds])), (a_now, .inr (0, [.ref a_now_left, w_now_signs, w_now_wordSets, .int now_sayings, .int now_words, .int now_filled])), (a_now_left, .inl (cI, 8, .inl f_now_left))] → va_S A s.heap H locs → lv_has ls 6 [(0, .ref a_o), (1, .int p1), (2, .int p2), (3, .int p3), (4, .int x35_l4), (5, .int x35_l5)] → W p l e rmX10_silence s m args below meth c H locs 0 0 Q (F0 m 35 ls []) := by
            intro n
            induction n with
            | zero =>
              intro x35_l4 x35_l5 H locs ls h
              exact no_e h
            | succ n ih35 =>
              intro x35_l4 x35_l5 H locs ls h hP hD hS hl
              rw [P_X10_silence_35] at h
              refine lv_iload hx hb dX10_silence_35 (lv_at hl 5 rfl) ?_
              refine lv_iload_n hx hb dX10_silence_37 rfl (lv_at hl 3 rfl) ?_
              refine lv_icmp_gt (tgt := 71) hx hb dX10_silence_38 (by decide) (fun c_38 => ?_) (fun c_38 => ?_)
              · replace h := it_e c_38 h
                refine lv_iload hx hb dX10_silence_71 (lv_at hl 4 rfl) ?_
                have hz := Option.some.inj h
                subst hz
                exact hret H locs 73 ls (fun ty h => by cases h; rfl) (hP.sub [3, 4, 0, 1, 5, 6, 2] rfl) (hD.sub [3, 4, 0, 1, 5, 6, 2] (by decide) rfl) hS dX10_silence_73
              · replace h := if_e c_38 h
                refine lv_aload_n hx hb dX10_silence_41 rfl (lv_at hl 0 rfl) ?_
                refine va_get (D := D) (ci := 9) (v := .ref a_two) (C := RX10) (T := TX10) (N := 12) hx hb hts u_X10 hown hK hP 3 rfl rfl 9 (by decide) k_f0 (fun _ h9 => h9) rfl dX10_silence_42 ?_
                refine lv_iload hx hb dX10_silence_45 (lv_at hl 5 rfl) ?_
                refine lv_iconst (v := 2) hx hb dX10_silence_47 ic_2 ?_
                refine lv_irem hx hb dX10_silence_48 (by decide) ?_
                refine lv_iconst (v := 1) hx hb dX10_silence_49 ic_1 ?_
                obtain ⟨j58, hj58, h⟩ := jn_e h
                have Jj58 : ∀ (x58_s1 : Int32) (H : Heap) (locs : List Loc) (ls : Array Slot), j58 x58_s1 = some z → va_P D vwCl [(a_speech_values, .inl (cI, 3, .inl f_speech_values)), (a_speech_left, .inl (cI, 30, .inl f_speech_left)), (a_two, .inr (8, [.ref a_speech])), (a_o, .inr (9, [w_o_text, .ref a_speech, .ref a_now, w_o_image0, w_o_image1, w_o_signs, w_o_reader, w_o_lengths, w_o_refusals, .ref a_two, .int o_measured, .long o_traced])), (a_speech, .inr (7, [.ref a_speech_values, .ref a_speech_left, .int speech_choices, .int speech_worlds])), (a_now, .inr (0, [.ref a_now_left, w_now_signs, w_now_wordSets, .int now_sayings, .int now_words, .int now_filled])), (a_now_left, .inl (cI, 8, .inl f_now_left))] H → va_D A [(a_speech_values, .inl (cI, 3, .inl f_speech_values)), (a_speech_left, .inl (cI, 30, .inl f_speech_left)), (a_two, .inr (8, [.ref a_speech])), (a_o, .inr (9, [w_o_text, .ref a_speech, .ref a_now, w_o_image0, w_o_image1, w_o_signs, w_o_reader, w_o_lengths, w_o_refusals, .ref a_two, .int o_measured, .long o_traced])), (a_speech, .inr (7, [.ref a_speech_values, .ref a_speech_left, .int speech_choices, .int speech_worlds])), (a_now, .inr (0, [.ref a_now_left, w_now_signs, w_now_wordSets, .int now_sayings, .int now_words, .int now_filled])), (a_now_left, .inl (cI, 8, .inl f_now_left))] → va_S A s.heap H locs → lv_has ls 6 [(0, .ref a_o), (1, .int p1), (2, .int p2), (3, .int p3), (4, .int x35_l4), (5, .int x35_l5)] → W p l e rmX10_silence s m args below meth c H locs 0 0 Q (F0 m 58 ls [.int x58_s1, .ref a_two]) := by
                  intro x58_s1 H locs ls h hP hD hS hl
                  rw [hj58] at h
                  refine lv_iload hx hb dX10_silence_58 (lv_at hl 4 rfl) ?_
                  obtain ⟨z_60, hc_60, h⟩ := bd_e h
                  refine q_iV (As := [.int x58_s1, .int x35_l4]) (rest := []) (wF := [(a_o, .inr (9, [w_o_text, .ref a_speech, .ref a_now, w_o_image0, w_o_image1, w_o_signs, w_o_reader, w_o_lengths, w_o_refusals, .ref a_two, .int o_measured, .long o_traced])), (a_now, .inr (0, [.ref a_now_left, w_now_signs, w_now_wordSets, .int now_sayings, .int now_words, .int now_filled])), (a_now_left, .inl (cI, 8, .inl f_now_left)), (a_two, .inr (8, [.ref a_speech])), (a_speech, .inr (7, [.ref a_speech_values, .ref a_speech_left, .int speech_choices, .int speech_worlds])), (a_speech_values, .inl (cI, 3, .inl f_speech_values)), (a_speech_left, .inl (cI, 30, .inl f_speech_left))]) hF hA hZ hK hP hD hS (c_X9_unknownTo l D cI cB cZ a_two a_speech speech_choices speech_worlds a_speech_values f_speech_values a_speech_left f_speech_left x58_s1 x35_l4 z_60 hc_60) rfl gX10_silence_X9_unknownTo hdX9_unknownTo ⟨rfl, rfl⟩ (Nat.le_of_ble_eq_true rfl) (Nat.le_of_ble_eq_true rfl) 8 0 rfl rfl [2, 4, 0, 1] [3, 5, 6] rfl rfl rfl rfl (by decide) rfl hl.1 rfl (Nat.le_of_ble_eq_true rfl) (Nat.zero_le _) (Nat.zero_le _) dX10_silence_60 (fun H locs hP hD hS => ?_)
                  refine lv_istore (lv' := [(4, .int z_60), (0, .ref a_o), (1, .int p1), (2, .int p2), (3, .int p3), (5, .int x35_l5)]) hx hb dX10_silence_63 hl (by decide) rfl (fun ls hl => ?_)
                  refine lv_iinc (v := x35_l5 + 1) (lv' := [(5, .int (x35_l5 + 1)), (4, .int z_60), (0, .ref a_o), (1, .int p1), (2, .int p2), (3, .int p3)]) hx hb dX10_silence_65 hl (k := 5) rfl (congrArg (x35_l5 + ·) ic_1) (by decide) rfl (fun ls hl => ?_)
                  refine lv_goto (tgt := 35) hx hb dX10_silence_68 (by decide) ?_
                  exact ih35 z_60 (x35_l5 + 1) H locs ls h (hP.sub [5, 6, 3, 0, 4, 1, 2] rfl) (hD.sub [5, 6, 3, 0, 4, 1, 2] (by decide) rfl) hS (lv_sub hl [2, 3, 4, 5, 1, 0] rfl)
                refine lv_icmp_ne (tgt := 57) hx hb dX10_silence_50 (by decide) (fun c_50 => ?_) (fun c_50 => ?_)
                · replace h := if_e c_50 h
                  refine lv_iload_n hx hb dX10_silence_57 rfl (lv_at hl 2 rfl) ?_
                  exact Jj58 p2 H locs ls h hP hD hS hl
                · replace h := it_e c_50 h
                  refine lv_iload_n hx hb dX10_silence_53 rfl (lv_at hl 1 rfl) ?_
                  refine lv_goto (tgt := 58) hx hb dX10_silence_54 (by decide) ?_
                  exact Jj58 p1 H locs ls h hP hD hS hl
          exact L35 QF z_27 1 H locs ls h hP hD hS (lv_sub hl [2, 3, 4, 5, 1, 0] rfl)
        · replace h := if_e c_21 h
          refine lv_iconst (v := (-1)) hx hb dX10_silence_24 ic_m1 ?_
          have hz := Option.some.inj h
          subst hz
          exact hret H locs 25 ls (fun ty h => by cases h; rfl) hP hD hS dX10_silence_25
abbrev rmX10_plainMark : Room := { frames := 2, cells := 0, slots := 0, locals := 42 }
theorem hdX10_plainMark : yX10_plainMark.cls = RX10 ∧ yX10_plainMark.cls ≠ "java/lang/invoke/MethodHandle" ∧ yX10_plainMark.cls ≠ "java/lang/invoke/VarHandle" ∧ (parseMethodDescriptor yX10_plainMark.desc).map (fun d => d.parameters.length) = some 1 := by decide +kernel
set_option maxRecDepth 100000 in
set_option maxHeartbeats 4000000 in
theorem c_X10_plainMark (l : Launch) (D : va_G) (cI cB cZ : ClassId) (a_o : Nat) (w_o_text : Value) (w_o_speech : Value) (w_o_image0 : Value) (w_o_image1 : Value) (w_o_signs : Value) (w_o_reader : Value) (w_o_lengths : Value) (w_o_refusals : Value) (w_o_two : Value) (o_measured : Int32) (o_traced : Int64) (a_now : Nat) (w_now_left : Value) (w_now_wordSets : Value) (now_sayings : Int32) (now_words : Int32) (now_filled : Int32) (a_now_signs : Nat) (f_now_signs : Nat → Int32) (p1 : Int32) (z : Int32 × Int64) (h : P_X10_plainMark p1 o_traced f_now_signs = some z) : KI l yX10_plainMark wsX10_plainMark rmX10_plainMark D [(cI, .int), (cB, .byte), (cZ, .boolean)] [.ref a_o, .int p1] [(a_o, .inr (9, [w_o_text, w_o_speech, .ref a_now, w_o_image0, w_o_image1, w_o_signs, w_o_reader, w_o_lengths, w_o_refusals, w_o_two, .int o_measured, .long o_traced])), (a_now, .inr (0, [w_now_left, .ref a_now_signs, w_now_wordSets, .int now_sayings, .int now_words, .int now_filled])), (a_now_signs, .inl (cI, 8, .inl f_now_signs))] [(a_o, .inr (9, [w_o_text, w_o_speech, .ref a_now, w_o_image0, w_o_image1, w_o_signs, w_o_reader, w_o_lengths, w_o_refusals, w_o_two, .int o_measured, .long z.2])), (a_now, .inr (0, [w_now_left, .ref a_now_signs, w_now_wordSets, .int now_sayings, .int now_words, .int now_filled])), (a_now_signs, .inl (cI, 8, .inl f_now_signs))] z.1 := by
  refine KI_of (own := RX10) (cc := cX10_plainMark) (maxL := 2) (ret := some .int) (by decide) rfl rfl (Nat.le_of_ble_eq_true rfl) (Or.inl rfl) ?_
  intro p e s m args below meth c A Q hx hb hml hown hts hA hZ hK hret H locs ls hP hD hS hl
  have hl : lv_has ls 2 [(0, .ref a_o), (1, .int p1)] := hl
  have hF : CallFix p m c cX10_plainMark 2 s args wsX10_plainMark RX10 := ⟨hx, hb, hml, hown, hts⟩
  have u_X10 : ∀ w ∈ u_ws RX10 TX10 12, w ∈ wsX10_plainMark := by decide +kernel
  have k_f0 := hts (.fieldLink RX10 85 "NoWordNo" "traced" "J") (by decide +kernel)
  have k_f1 := hts (.fieldLink RX10 26 "NoWordNo" "now" "LNoWordNo$Kept;") (by decide +kernel)
  unfold P_X10_plainMark at h
  refine lv_aload_n hx hb dX10_plainMark_0 rfl (lv_at hl 0 rfl) ?_
  refine lv_dup hx hb dX10_plainMark_1 rfl ?_
  refine va_get (D := D) (ci := 9) (v := .long o_traced) (C := RX10) (T := TX10) (N := 12) hx hb hts u_X10 hown hK hP 0 rfl rfl 11 (by decide) k_f0 (fun _ h9 => h9) rfl dX10_plainMark_2 ?_
  refine lv_lconst (v := 1) hx hb dX10_plainMark_5 (by decide) ?_
  refine lv_ladd hx hb dX10_plainMark_6 ?_
  refine va_put (D := D) (ci := 9) (v := .long (o_traced + 1)) (ty := .long) (C := RX10) (T := TX10) (N := 12) hx hb hts u_X10 tyX10 tyX10_ok nmX10 hown hK hP hD hS 0 rfl rfl 11 (by decide) k_f0 (fun _ h9 => h9) rfl (tyX10_ok 11 (by decide)) rfl rfl (Nat.le_of_ble_eq_true rfl) dX10_plainMark_7 (fun H locs hP hD hS => ?_)
  have hP : va_P D vwCl [(a_o, .inr (9, [w_o_text, w_o_speech, .ref a_now, w_o_image0, w_o_image1, w_o_signs, w_o_reader, w_o_lengths, w_o_refusals, w_o_two, .int o_measured, .long (o_traced + 1)])), (a_now, .inr (0, [w_now_left, .ref a_now_signs, w_now_wordSets, .int now_sayings, .int now_words, .int now_filled])), (a_now_signs, .inl (cI, 8, .inl f_now_signs))] H := hP
  have hD : va_D A [(a_o, .inr (9, [w_o_text, w_o_speech, .ref a_now, w_o_image0, w_o_image1, w_o_signs, w_o_reader, w_o_lengths, w_o_refusals, w_o_two, .int o_measured, .long (o_traced + 1)])), (a_now, .inr (0, [w_now_left, .ref a_now_signs, w_now_wordSets, .int now_sayings, .int now_words, .int now_filled])), (a_now_signs, .inl (cI, 8, .inl f_now_signs))] := hD
  refine lv_aload_n hx hb dX10_plainMark_10 rfl (lv_at hl 0 rfl) ?_
  refine va_get (D := D) (ci := 9) (v := .ref a_now) (C := RX10) (T := TX10) (N := 12) hx hb hts u_X10 hown hK hP 0 rfl rfl 2 (by decide) k_f1 (fun _ h9 => h9) rfl dX10_plainMark_11 ?_
  refine lv_iload_n hx hb dX10_plainMark_14 rfl (lv_at hl 1 rfl) ?_
  obtain ⟨z_15, hc_15, h⟩ := bd_e h
  refine q_iV (As := [.int p1]) (rest := []) (wF := [(a_o, .inr (9, [w_o_text, w_o_speech, .ref a_now, w_o_image0, w_o_image1, w_o_signs, w_o_reader, w_o_lengths, w_o_refusals, w_o_two, .int o_measured, .long (o_traced + 1)])), (a_now, .inr (0, [w_now_left, .ref a_now_signs, w_now_wordSets, .int now_sayings, .int now_words, .int now_filled])), (a_now_signs, .inl (cI, 8, .inl f_now_signs))]) hF hA hZ hK hP hD hS (c_X0_signsOf l D cI cB cZ a_now w_now_left w_now_wordSets now_sayings now_words now_filled a_now_signs f_now_signs p1 z_15 hc_15) rfl gX10_plainMark_X0_signsOf hdX0_signsOf ⟨rfl, rfl⟩ (Nat.le_of_ble_eq_true rfl) (Nat.le_of_ble_eq_true rfl) 0 0 rfl rfl [1, 2] [0] rfl rfl rfl rfl (by decide) rfl hl.1 rfl (Nat.le_of_ble_eq_true rfl) (Nat.zero_le _) (Nat.zero_le _) dX10_plainMark_15 (fun H locs hP hD hS => ?_)
  have hz := Option.some.inj h
  subst hz
  exact hret H locs 18 ls (fun ty h => by cases h; rfl) hP hD hS dX10_plainMark_18
abbrev rmX10_offerMark : Room := { frames := 3, cells := 0, slots := 0, locals := 63 }
theorem hdX10_offerMark : yX10_offerMark.cls = RX10 ∧ yX10_offerMark.cls ≠ "java/lang/invoke/MethodHandle" ∧ yX10_offerMark.cls ≠ "java/lang/invoke/VarHandle" ∧ (parseMethodDescriptor yX10_offerMark.desc).map (fun d => d.parameters.length) = some 1 := by decide +kernel
set_option maxRecDepth 100000 in
set_option maxHeartbeats 4000000 in
theorem c_X10_offerMark (l : Launch) (D : va_G) (cI cB cZ : ClassId) (a_o : Nat) (w_o_text : Value) (w_o_speech : Value) (w_o_image0 : Value) (w_o_image1 : Value) (w_o_signs : Value) (w_o_reader : Value) (w_o_lengths : Value) (w_o_refusals : Value) (w_o_two : Value) (o_measured : Int32) (o_traced : Int64) (a_now : Nat) (w_now_wordSets : Value) (now_sayings : Int32) (now_words : Int32) (now_filled : Int32) (a_now_left : Nat) (f_now_left : Nat → Int32) (a_now_signs : Nat) (f_now_signs : Nat → Int32) (p1 : Int32) (z : Int32 × Int64) (h : P_X10_offerMark p1 o_traced f_now_left f_now_signs = some z) : KI l yX10_offerMark wsX10_offerMark rmX10_offerMark D [(cI, .int), (cB, .byte), (cZ, .boolean)] [.ref a_o, .int p1] [(a_o, .inr (9, [w_o_text, w_o_speech, .ref a_now, w_o_image0, w_o_image1, w_o_signs, w_o_reader, w_o_lengths, w_o_refusals, w_o_two, .int o_measured, .long o_traced])), (a_now, .inr (0, [.ref a_now_left, .ref a_now_signs, w_now_wordSets, .int now_sayings, .int now_words, .int now_filled])), (a_now_left, .inl (cI, 8, .inl f_now_left)), (a_now_signs, .inl (cI, 8, .inl f_now_signs))] [(a_o, .inr (9, [w_o_text, w_o_speech, .ref a_now, w_o_image0, w_o_image1, w_o_signs, w_o_reader, w_o_lengths, w_o_refusals, w_o_two, .int o_measured, .long z.2])), (a_now, .inr (0, [.ref a_now_left, .ref a_now_signs, w_now_wordSets, .int now_sayings, .int now_words, .int now_filled])), (a_now_left, .inl (cI, 8, .inl f_now_left)), (a_now_signs, .inl (cI, 8, .inl f_now_signs))] z.1 := by
  refine KI_of (own := RX10) (cc := cX10_offerMark) (maxL := 2) (ret := some .int) (by decide) rfl rfl (Nat.le_of_ble_eq_true rfl) (Or.inl rfl) ?_
  intro p e s m args below meth c A Q hx hb hml hown hts hA hZ hK hret H locs ls hP hD hS hl
  have hl : lv_has ls 2 [(0, .ref a_o), (1, .int p1)] := hl
  have hF : CallFix p m c cX10_offerMark 2 s args wsX10_offerMark RX10 := ⟨hx, hb, hml, hown, hts⟩
  have u_X10 : ∀ w ∈ u_ws RX10 TX10 12, w ∈ wsX10_offerMark := by decide +kernel
  have k_f0 := hts (.fieldLink RX10 85 "NoWordNo" "traced" "J") (by decide +kernel)
  have k_L1 := hts (.constantLong RX10 305 (10)) (by decide +kernel)
  have k_f2 := hts (.fieldLink RX10 26 "NoWordNo" "now" "LNoWordNo$Kept;") (by decide +kernel)
  unfold P_X10_offerMark at h
  refine lv_aload_n hx hb dX10_offerMark_0 rfl (lv_at hl 0 rfl) ?_
  refine lv_dup hx hb dX10_offerMark_1 rfl ?_
  refine va_get (D := D) (ci := 9) (v := .long o_traced) (C := RX10) (T := TX10) (N := 12) hx hb hts u_X10 hown hK hP 0 rfl rfl 11 (by decide) k_f0 (fun _ h9 => h9) rfl dX10_offerMark_2 ?_
  refine lv_ldc2 (v := 10) hx hb hown k_L1 dX10_offerMark_5 ?_
  refine lv_ladd hx hb dX10_offerMark_8 ?_
  refine va_put (D := D) (ci := 9) (v := .long (o_traced + 10)) (ty := .long) (C := RX10) (T := TX10) (N := 12) hx hb hts u_X10 tyX10 tyX10_ok nmX10 hown hK hP hD hS 0 rfl rfl 11 (by decide) k_f0 (fun _ h9 => h9) rfl (tyX10_ok 11 (by decide)) rfl rfl (Nat.le_of_ble_eq_true rfl) dX10_offerMark_9 (fun H locs hP hD hS => ?_)
  have hP : va_P D vwCl [(a_o, .inr (9, [w_o_text, w_o_speech, .ref a_now, w_o_image0, w_o_image1, w_o_signs, w_o_reader, w_o_lengths, w_o_refusals, w_o_two, .int o_measured, .long (o_traced + 10)])), (a_now, .inr (0, [.ref a_now_left, .ref a_now_signs, w_now_wordSets, .int now_sayings, .int now_words, .int now_filled])), (a_now_left, .inl (cI, 8, .inl f_now_left)), (a_now_signs, .inl (cI, 8, .inl f_now_signs))] H := hP
  have hD : va_D A [(a_o, .inr (9, [w_o_text, w_o_speech, .ref a_now, w_o_image0, w_o_image1, w_o_signs, w_o_reader, w_o_lengths, w_o_refusals, w_o_two, .int o_measured, .long (o_traced + 10)])), (a_now, .inr (0, [.ref a_now_left, .ref a_now_signs, w_now_wordSets, .int now_sayings, .int now_words, .int now_filled])), (a_now_left, .inl (cI, 8, .inl f_now_left)), (a_now_signs, .inl (cI, 8, .inl f_now_signs))] := hD
  refine lv_aload_n hx hb dX10_offerMark_12 rfl (lv_at hl 0 rfl) ?_
  refine lv_iload_n hx hb dX10_offerMark_13 rfl (lv_at hl 1 rfl) ?_
  obtain ⟨z_14, hc_14, h⟩ := bd_e h
  refine q_iV (As := [.int p1]) (rest := []) (wF := [(a_now_left, .inl (cI, 8, .inl f_now_left)), (a_o, .inr (9, [w_o_text, w_o_speech, .ref a_now, w_o_image0, w_o_image1, w_o_signs, w_o_reader, w_o_lengths, w_o_refusals, w_o_two, .int o_measured, .long z_14.2])), (a_now, .inr (0, [.ref a_now_left, .ref a_now_signs, w_now_wordSets, .int now_sayings, .int now_words, .int now_filled])), (a_now_signs, .inl (cI, 8, .inl f_now_signs))]) hF hA hZ hK hP hD hS (c_X10_plainMark l D cI cB cZ a_o w_o_text w_o_speech w_o_image0 w_o_image1 w_o_signs w_o_reader w_o_lengths w_o_refusals w_o_two o_measured (o_traced + 10) a_now (.ref a_now_left) w_now_wordSets now_sayings now_words now_filled a_now_signs f_now_signs p1 z_14 hc_14) rfl gX10_offerMark_X10_plainMark hdX10_plainMark ⟨rfl, rfl⟩ (Nat.le_of_ble_eq_true rfl) (Nat.le_of_ble_eq_true rfl) 9 0 rfl rfl [0, 1, 3] [2] rfl rfl rfl rfl (by decide) rfl hl.1 rfl (Nat.le_of_ble_eq_true rfl) (Nat.zero_le _) (Nat.zero_le _) dX10_offerMark_14 (fun H locs hP hD hS => ?_)
  refine lv_aload_n hx hb dX10_offerMark_17 rfl (lv_at hl 0 rfl) ?_
  refine va_get (D := D) (ci := 9) (v := .ref a_now) (C := RX10) (T := TX10) (N := 12) hx hb hts u_X10 hown hK hP 1 rfl rfl 2 (by decide) k_f2 (fun _ h9 => h9) rfl dX10_offerMark_18 ?_
  refine lv_iload_n hx hb dX10_offerMark_21 rfl (lv_at hl 1 rfl) ?_
  obtain ⟨z_22, hc_22, h⟩ := bd_e h
  refine q_iV (As := [.int p1]) (rest := [.int z_14.1]) (wF := [(a_o, .inr (9, [w_o_text, w_o_speech, .ref a_now, w_o_image0, w_o_image1, w_o_signs, w_o_reader, w_o_lengths, w_o_refusals, w_o_two, .int o_measured, .long z_14.2])), (a_now_signs, .inl (cI, 8, .inl f_now_signs)), (a_now, .inr (0, [.ref a_now_left, .ref a_now_signs, w_now_wordSets, .int now_sayings, .int now_words, .int now_filled])), (a_now_left, .inl (cI, 8, .inl f_now_left))]) hF hA hZ hK hP hD hS (c_X0_leftBy l D cI cB cZ a_now (.ref a_now_signs) w_now_wordSets now_sayings now_words now_filled a_now_left f_now_left p1 z_22 hc_22) rfl gX10_offerMark_X0_leftBy hdX0_leftBy ⟨rfl, rfl⟩ (Nat.le_of_ble_eq_true rfl) (Nat.le_of_ble_eq_true rfl) 0 0 rfl rfl [2, 0] [1, 3] rfl rfl rfl rfl (by decide) rfl hl.1 rfl (Nat.le_of_ble_eq_true rfl) (Nat.zero_le _) (Nat.zero_le _) dX10_offerMark_22 (fun H locs hP hD hS => ?_)
  obtain ⟨z_25, hc_25, h⟩ := bd_e h
  refine q_iS (As := [.int z_22]) (rest := [.int z_14.1]) (wF := [(a_o, .inr (9, [w_o_text, w_o_speech, .ref a_now, w_o_image0, w_o_image1, w_o_signs, w_o_reader, w_o_lengths, w_o_refusals, w_o_two, .int o_measured, .long z_14.2])), (a_now_signs, .inl (cI, 8, .inl f_now_signs)), (a_now, .inr (0, [.ref a_now_left, .ref a_now_signs, w_now_wordSets, .int now_sayings, .int now_words, .int now_filled])), (a_now_left, .inl (cI, 8, .inl f_now_left))]) hF hA hZ hK hP hD hS (c_J6_bitCount_0f7a4 l D cI cB cZ z_22 z_25 hc_25) rfl gX10_offerMark_J6_bitCount_0f7a4 hdJ6_bitCount_0f7a4 ⟨rfl, rfl⟩ (Nat.le_of_ble_eq_true rfl) (Nat.le_of_ble_eq_true rfl) [] [0, 1, 2, 3] rfl rfl rfl rfl (by decide) rfl hl.1 rfl (Nat.le_of_ble_eq_true rfl) (Nat.zero_le _) (Nat.zero_le _) dX10_offerMark_25 (fun H locs hP hD hS => ?_)
  refine lv_iadd hx hb dX10_offerMark_28 ?_
  have hz := Option.some.inj h
  subst hz
  exact hret H locs 29 ls (fun ty h => by cases h; rfl) (hP.sub [0, 2, 3, 1] rfl) (hD.sub [0, 2, 3, 1] (by decide) rfl) hS dX10_offerMark_29
abbrev rmX10_clauseMark : Room := { frames := 3, cells := 0, slots := 0, locals := 63 }
theorem hdX10_clauseMark : yX10_clauseMark.cls = RX10 ∧ yX10_clauseMark.cls ≠ "java/lang/invoke/MethodHandle" ∧ yX10_clauseMark.cls ≠ "java/lang/invoke/VarHandle" ∧ (parseMethodDescriptor yX10_clauseMark.desc).map (fun d => d.parameters.length) = some 1 := by decide +kernel
set_option maxRecDepth 100000 in
set_option maxHeartbeats 4000000 in
theorem c_X10_clauseMark (l : Launch) (D : va_G) (cI cB cZ : ClassId) (a_o : Nat) (w_o_text : Value) (w_o_speech : Value) (w_o_image0 : Value) (w_o_image1 : Value) (w_o_signs : Value) (w_o_reader : Value) (w_o_lengths : Value) (w_o_refusals : Value) (w_o_two : Value) (o_measured : Int32) (o_traced : Int64) (a_now : Nat) (w_now_left : Value) (w_now_wordSets : Value) (now_sayings : Int32) (now_words : Int32) (now_filled : Int32) (a_now_signs : Nat) (f_now_signs : Nat → Int32) (p1 : Int32) (z : Int32 × Int64) (h : P_X10_clauseMark p1 o_traced f_now_signs = some z) : KI l yX10_clauseMark wsX10_clauseMark rmX10_clauseMark D [(cI, .int), (cB, .byte), (cZ, .boolean)] [.ref a_o, .int p1] [(a_o, .inr (9, [w_o_text, w_o_speech, .ref a_now, w_o_image0, w_o_image1, w_o_signs, w_o_reader, w_o_lengths, w_o_refusals, w_o_two, .int o_measured, .long o_traced])), (a_now, .inr (0, [w_now_left, .ref a_now_signs, w_now_wordSets, .int now_sayings, .int now_words, .int now_filled])), (a_now_signs, .inl (cI, 8, .inl f_now_signs))] [(a_o, .inr (9, [w_o_text, w_o_speech, .ref a_now, w_o_image0, w_o_image1, w_o_signs, w_o_reader, w_o_lengths, w_o_refusals, w_o_two, .int o_measured, .long z.2])), (a_now, .inr (0, [w_now_left, .ref a_now_signs, w_now_wordSets, .int now_sayings, .int now_words, .int now_filled])), (a_now_signs, .inl (cI, 8, .inl f_now_signs))] z.1 := by
  refine KI_of (own := RX10) (cc := cX10_clauseMark) (maxL := 2) (ret := some .int) (by decide) rfl rfl (Nat.le_of_ble_eq_true rfl) (Or.inl rfl) ?_
  intro p e s m args below meth c A Q hx hb hml hown hts hA hZ hK hret H locs ls hP hD hS hl
  have hl : lv_has ls 2 [(0, .ref a_o), (1, .int p1)] := hl
  have hF : CallFix p m c cX10_clauseMark 2 s args wsX10_clauseMark RX10 := ⟨hx, hb, hml, hown, hts⟩
  have u_X10 : ∀ w ∈ u_ws RX10 TX10 12, w ∈ wsX10_clauseMark := by decide +kernel
  have k_f0 := hts (.fieldLink RX10 85 "NoWordNo" "traced" "J") (by decide +kernel)
  have k_L1 := hts (.constantLong RX10 307 (100)) (by decide +kernel)
  unfold P_X10_clauseMark at h
  refine lv_aload_n hx hb dX10_clauseMark_0 rfl (lv_at hl 0 rfl) ?_
  refine lv_dup hx hb dX10_clauseMark_1 rfl ?_
  refine va_get (D := D) (ci := 9) (v := .long o_traced) (C := RX10) (T := TX10) (N := 12) hx hb hts u_X10 hown hK hP 0 rfl rfl 11 (by decide) k_f0 (fun _ h9 => h9) rfl dX10_clauseMark_2 ?_
  refine lv_ldc2 (v := 100) hx hb hown k_L1 dX10_clauseMark_5 ?_
  refine lv_ladd hx hb dX10_clauseMark_8 ?_
  refine va_put (D := D) (ci := 9) (v := .long (o_traced + 100)) (ty := .long) (C := RX10) (T := TX10) (N := 12) hx hb hts u_X10 tyX10 tyX10_ok nmX10 hown hK hP hD hS 0 rfl rfl 11 (by decide) k_f0 (fun _ h9 => h9) rfl (tyX10_ok 11 (by decide)) rfl rfl (Nat.le_of_ble_eq_true rfl) dX10_clauseMark_9 (fun H locs hP hD hS => ?_)
  have hP : va_P D vwCl [(a_o, .inr (9, [w_o_text, w_o_speech, .ref a_now, w_o_image0, w_o_image1, w_o_signs, w_o_reader, w_o_lengths, w_o_refusals, w_o_two, .int o_measured, .long (o_traced + 100)])), (a_now, .inr (0, [w_now_left, .ref a_now_signs, w_now_wordSets, .int now_sayings, .int now_words, .int now_filled])), (a_now_signs, .inl (cI, 8, .inl f_now_signs))] H := hP
  have hD : va_D A [(a_o, .inr (9, [w_o_text, w_o_speech, .ref a_now, w_o_image0, w_o_image1, w_o_signs, w_o_reader, w_o_lengths, w_o_refusals, w_o_two, .int o_measured, .long (o_traced + 100)])), (a_now, .inr (0, [w_now_left, .ref a_now_signs, w_now_wordSets, .int now_sayings, .int now_words, .int now_filled])), (a_now_signs, .inl (cI, 8, .inl f_now_signs))] := hD
  refine lv_aload_n hx hb dX10_clauseMark_12 rfl (lv_at hl 0 rfl) ?_
  refine lv_iload_n hx hb dX10_clauseMark_13 rfl (lv_at hl 1 rfl) ?_
  obtain ⟨z_14, hc_14, h⟩ := bd_e h
  refine q_iV (As := [.int p1]) (rest := []) (wF := [(a_o, .inr (9, [w_o_text, w_o_speech, .ref a_now, w_o_image0, w_o_image1, w_o_signs, w_o_reader, w_o_lengths, w_o_refusals, w_o_two, .int o_measured, .long z_14.2])), (a_now, .inr (0, [w_now_left, .ref a_now_signs, w_now_wordSets, .int now_sayings, .int now_words, .int now_filled])), (a_now_signs, .inl (cI, 8, .inl f_now_signs))]) hF hA hZ hK hP hD hS (c_X10_plainMark l D cI cB cZ a_o w_o_text w_o_speech w_o_image0 w_o_image1 w_o_signs w_o_reader w_o_lengths w_o_refusals w_o_two o_measured (o_traced + 100) a_now w_now_left w_now_wordSets now_sayings now_words now_filled a_now_signs f_now_signs p1 z_14 hc_14) rfl gX10_clauseMark_X10_plainMark hdX10_plainMark ⟨rfl, rfl⟩ (Nat.le_of_ble_eq_true rfl) (Nat.le_of_ble_eq_true rfl) 9 0 rfl rfl [0, 1, 2] [] rfl rfl rfl rfl (by decide) rfl hl.1 rfl (Nat.le_of_ble_eq_true rfl) (Nat.zero_le _) (Nat.zero_le _) dX10_clauseMark_14 (fun H locs hP hD hS => ?_)
  refine lv_iconst (v := 2) hx hb dX10_clauseMark_17 ic_2 ?_
  refine lv_imul hx hb dX10_clauseMark_18 ?_
  have hz := Option.some.inj h
  subst hz
  exact hret H locs 19 ls (fun ty h => by cases h; rfl) hP hD hS dX10_clauseMark_19
abbrev rmX10_vowMark : Room := { frames := 5, cells := 0, slots := 0, locals := 106 }
theorem hdX10_vowMark : yX10_vowMark.cls = RX10 ∧ yX10_vowMark.cls ≠ "java/lang/invoke/MethodHandle" ∧ yX10_vowMark.cls ≠ "java/lang/invoke/VarHandle" ∧ (parseMethodDescriptor yX10_vowMark.desc).map (fun d => d.parameters.length) = some 1 := by decide +kernel
set_option maxRecDepth 100000 in
set_option maxHeartbeats 4000000 in
theorem c_X10_vowMark (l : Launch) (D : va_G) (cI cB cZ : ClassId) (a_o : Nat) (w_o_text : Value) (w_o_image0 : Value) (w_o_image1 : Value) (w_o_signs : Value) (w_o_reader : Value) (w_o_lengths : Value) (w_o_refusals : Value) (w_o_two : Value) (o_measured : Int32) (o_traced : Int64) (a_speech : Nat) (w_speech_values : Value) (w_speech_left : Value) (speech_choices : Int32) (speech_worlds : Int32) (a_now : Nat) (w_now_wordSets : Value) (now_sayings : Int32) (now_words : Int32) (now_filled : Int32) (a_now_left : Nat) (f_now_left : Nat → Int32) (a_now_signs : Nat) (f_now_signs : Nat → Int32) (p1 : Int32) (z : Int32 × Int64) (h : P_X10_vowMark p1 o_traced speech_worlds now_sayings f_now_left f_now_signs = some z) : KI l yX10_vowMark wsX10_vowMark rmX10_vowMark D [(cI, .int), (cB, .byte), (cZ, .boolean)] [.ref a_o, .int p1] [(a_o, .inr (9, [w_o_text, .ref a_speech, .ref a_now, w_o_image0, w_o_image1, w_o_signs, w_o_reader, w_o_lengths, w_o_refusals, w_o_two, .int o_measured, .long o_traced])), (a_speech, .inr (7, [w_speech_values, w_speech_left, .int speech_choices, .int speech_worlds])), (a_now, .inr (0, [.ref a_now_left, .ref a_now_signs, w_now_wordSets, .int now_sayings, .int now_words, .int now_filled])), (a_now_left, .inl (cI, 8, .inl f_now_left)), (a_now_signs, .inl (cI, 8, .inl f_now_signs))] [(a_o, .inr (9, [w_o_text, .ref a_speech, .ref a_now, w_o_image0, w_o_image1, w_o_signs, w_o_reader, w_o_lengths, w_o_refusals, w_o_two, .int o_measured, .long z.2])), (a_speech, .inr (7, [w_speech_values, w_speech_left, .int speech_choices, .int speech_worlds])), (a_now, .inr (0, [.ref a_now_left, .ref a_now_signs, w_now_wordSets, .int now_sayings, .int now_words, .int now_filled])), (a_now_left, .inl (cI, 8, .inl f_now_left)), (a_now_signs, .inl (cI, 8, .inl f_now_signs))] z.1 := by
  refine KI_of (own := RX10) (cc := cX10_vowMark) (maxL := 2) (ret := some .int) (by decide) rfl rfl (Nat.le_of_ble_eq_true rfl) (Or.inl rfl) ?_
  intro p e s m args below meth c A Q hx hb hml hown hts hA hZ hK hret H locs ls hP hD hS hl
  have hl : lv_has ls 2 [(0, .ref a_o), (1, .int p1)] := hl
  have hF : CallFix p m c cX10_vowMark 2 s args wsX10_vowMark RX10 := ⟨hx, hb, hml, hown, hts⟩
  have u_X10 : ∀ w ∈ u_ws RX10 TX10 12, w ∈ wsX10_vowMark := by decide +kernel
  have k_f0 := hts (.fieldLink RX10 85 "NoWordNo" "traced" "J") (by decide +kernel)
  have k_L1 := hts (.constantLong RX10 309 (1000)) (by decide +kernel)
  unfold P_X10_vowMark at h
  refine lv_aload_n hx hb dX10_vowMark_0 rfl (lv_at hl 0 rfl) ?_
  refine lv_dup hx hb dX10_vowMark_1 rfl ?_
  refine va_get (D := D) (ci := 9) (v := .long o_traced) (C := RX10) (T := TX10) (N := 12) hx hb hts u_X10 hown hK hP 0 rfl rfl 11 (by decide) k_f0 (fun _ h9 => h9) rfl dX10_vowMark_2 ?_
  refine lv_ldc2 (v := 1000) hx hb hown k_L1 dX10_vowMark_5 ?_
  refine lv_ladd hx hb dX10_vowMark_8 ?_
  refine va_put (D := D) (ci := 9) (v := .long (o_traced + 1000)) (ty := .long) (C := RX10) (T := TX10) (N := 12) hx hb hts u_X10 tyX10 tyX10_ok nmX10 hown hK hP hD hS 0 rfl rfl 11 (by decide) k_f0 (fun _ h9 => h9) rfl (tyX10_ok 11 (by decide)) rfl rfl (Nat.le_of_ble_eq_true rfl) dX10_vowMark_9 (fun H locs hP hD hS => ?_)
  have hP : va_P D vwCl [(a_o, .inr (9, [w_o_text, .ref a_speech, .ref a_now, w_o_image0, w_o_image1, w_o_signs, w_o_reader, w_o_lengths, w_o_refusals, w_o_two, .int o_measured, .long (o_traced + 1000)])), (a_speech, .inr (7, [w_speech_values, w_speech_left, .int speech_choices, .int speech_worlds])), (a_now, .inr (0, [.ref a_now_left, .ref a_now_signs, w_now_wordSets, .int now_sayings, .int now_words, .int now_filled])), (a_now_left, .inl (cI, 8, .inl f_now_left)), (a_now_signs, .inl (cI, 8, .inl f_now_signs))] H := hP
  have hD : va_D A [(a_o, .inr (9, [w_o_text, .ref a_speech, .ref a_now, w_o_image0, w_o_image1, w_o_signs, w_o_reader, w_o_lengths, w_o_refusals, w_o_two, .int o_measured, .long (o_traced + 1000)])), (a_speech, .inr (7, [w_speech_values, w_speech_left, .int speech_choices, .int speech_worlds])), (a_now, .inr (0, [.ref a_now_left, .ref a_now_signs, w_now_wordSets, .int now_sayings, .int now_words, .int now_filled])), (a_now_left, .inl (cI, 8, .inl f_now_left)), (a_now_signs, .inl (cI, 8, .inl f_now_signs))] := hD
  refine lv_aload_n hx hb dX10_vowMark_12 rfl (lv_at hl 0 rfl) ?_
  refine lv_iload_n hx hb dX10_vowMark_13 rfl (lv_at hl 1 rfl) ?_
  obtain ⟨z_14, hc_14, h⟩ := bd_e h
  refine q_iV (As := [.int p1]) (rest := []) (wF := [(a_speech, .inr (7, [w_speech_values, w_speech_left, .int speech_choices, .int speech_worlds])), (a_now_left, .inl (cI, 8, .inl f_now_left)), (a_o, .inr (9, [w_o_text, .ref a_speech, .ref a_now, w_o_image0, w_o_image1, w_o_signs, w_o_reader, w_o_lengths, w_o_refusals, w_o_two, .int o_measured, .long z_14.2])), (a_now, .inr (0, [.ref a_now_left, .ref a_now_signs, w_now_wordSets, .int now_sayings, .int now_words, .int now_filled])), (a_now_signs, .inl (cI, 8, .inl f_now_signs))]) hF hA hZ hK hP hD hS (c_X10_clauseMark l D cI cB cZ a_o w_o_text (.ref a_speech) w_o_image0 w_o_image1 w_o_signs w_o_reader w_o_lengths w_o_refusals w_o_two o_measured (o_traced + 1000) a_now (.ref a_now_left) w_now_wordSets now_sayings now_words now_filled a_now_signs f_now_signs p1 z_14 hc_14) rfl gX10_vowMark_X10_clauseMark hdX10_clauseMark ⟨rfl, rfl⟩ (Nat.le_of_ble_eq_true rfl) (Nat.le_of_ble_eq_true rfl) 9 0 rfl rfl [0, 2, 4] [1, 3] rfl rfl rfl rfl (by decide) rfl hl.1 rfl (Nat.le_of_ble_eq_true rfl) (Nat.zero_le _) (Nat.zero_le _) dX10_vowMark_14 (fun H locs hP hD hS => ?_)
  refine lv_aload_n hx hb dX10_vowMark_17 rfl (lv_at hl 0 rfl) ?_
  refine lv_iload_n hx hb dX10_vowMark_18 rfl (lv_at hl 1 rfl) ?_
  obtain ⟨z_19, hc_19, h⟩ := bd_e h
  refine q_iV (As := [.int p1]) (rest := [.int z_14.1]) (wF := [(a_now_signs, .inl (cI, 8, .inl f_now_signs)), (a_o, .inr (9, [w_o_text, .ref a_speech, .ref a_now, w_o_image0, w_o_image1, w_o_signs, w_o_reader, w_o_lengths, w_o_refusals, w_o_two, .int o_measured, .long z_14.2])), (a_speech, .inr (7, [w_speech_values, w_speech_left, .int speech_choices, .int speech_worlds])), (a_now, .inr (0, [.ref a_now_left, .ref a_now_signs, w_now_wordSets, .int now_sayings, .int now_words, .int now_filled])), (a_now_left, .inl (cI, 8, .inl f_now_left))]) hF hA hZ hK hP hD hS (c_X10_lostWithout l D cI cB cZ a_o w_o_text w_o_image0 w_o_image1 w_o_signs w_o_reader w_o_lengths w_o_refusals w_o_two o_measured z_14.2 a_speech w_speech_values w_speech_left speech_choices speech_worlds a_now (.ref a_now_signs) w_now_wordSets now_sayings now_words now_filled a_now_left f_now_left p1 z_19 hc_19) rfl gX10_vowMark_X10_lostWithout hdX10_lostWithout ⟨rfl, rfl⟩ (Nat.le_of_ble_eq_true rfl) (Nat.le_of_ble_eq_true rfl) 9 0 rfl rfl [2, 0, 3, 1] [4] rfl rfl rfl rfl (by decide) rfl hl.1 rfl (Nat.le_of_ble_eq_true rfl) (Nat.zero_le _) (Nat.zero_le _) dX10_vowMark_19 (fun H locs hP hD hS => ?_)
  refine lv_iadd hx hb dX10_vowMark_22 ?_
  have hz := Option.some.inj h
  subst hz
  exact hret H locs 23 ls (fun ty h => by cases h; rfl) (hP.sub [1, 2, 3, 4, 0] rfl) (hD.sub [1, 2, 3, 4, 0] (by decide) rfl) hS dX10_vowMark_23
abbrev rmX10_questionMark : Room := { frames := 4, cells := 0, slots := 0, locals := 84 }
theorem hdX10_questionMark : yX10_questionMark.cls = RX10 ∧ yX10_questionMark.cls ≠ "java/lang/invoke/MethodHandle" ∧ yX10_questionMark.cls ≠ "java/lang/invoke/VarHandle" ∧ (parseMethodDescriptor yX10_questionMark.desc).map (fun d => d.parameters.length) = some 1 := by decide +kernel
set_option maxRecDepth 100000 in
set_option maxHeartbeats 4000000 in
theorem c_X10_questionMark (l : Launch) (D : va_G) (cI cB cZ : ClassId) (a_o : Nat) (w_o_text : Value) (w_o_speech : Value) (w_o_image0 : Value) (w_o_image1 : Value) (w_o_signs : Value) (w_o_reader : Value) (w_o_lengths : Value) (w_o_refusals : Value) (w_o_two : Value) (o_measured : Int32) (o_traced : Int64) (a_now : Nat) (w_now_wordSets : Value) (now_sayings : Int32) (now_words : Int32) (now_filled : Int32) (a_now_left : Nat) (f_now_left : Nat → Int32) (a_now_signs : Nat) (f_now_signs : Nat → Int32) (p1 : Int32) (z : Int32 × Int64) (h : P_X10_questionMark p1 o_traced f_now_left f_now_signs = some z) : KI l yX10_questionMark wsX10_questionMark rmX10_questionMark D [(cI, .int), (cB, .byte), (cZ, .boolean)] [.ref a_o, .int p1] [(a_o, .inr (9, [w_o_text, w_o_speech, .ref a_now, w_o_image0, w_o_image1, w_o_signs, w_o_reader, w_o_lengths, w_o_refusals, w_o_two, .int o_measured, .long o_traced])), (a_now, .inr (0, [.ref a_now_left, .ref a_now_signs, w_now_wordSets, .int now_sayings, .int now_words, .int now_filled])), (a_now_left, .inl (cI, 8, .inl f_now_left)), (a_now_signs, .inl (cI, 8, .inl f_now_signs))] [(a_o, .inr (9, [w_o_text, w_o_speech, .ref a_now, w_o_image0, w_o_image1, w_o_signs, w_o_reader, w_o_lengths, w_o_refusals, w_o_two, .int o_measured, .long z.2])), (a_now, .inr (0, [.ref a_now_left, .ref a_now_signs, w_now_wordSets, .int now_sayings, .int now_words, .int now_filled])), (a_now_left, .inl (cI, 8, .inl f_now_left)), (a_now_signs, .inl (cI, 8, .inl f_now_signs))] z.1 := by
  refine KI_of (own := RX10) (cc := cX10_questionMark) (maxL := 2) (ret := some .int) (by decide) rfl rfl (Nat.le_of_ble_eq_true rfl) (Or.inl rfl) ?_
  intro p e s m args below meth c A Q hx hb hml hown hts hA hZ hK hret H locs ls hP hD hS hl
  have hl : lv_has ls 2 [(0, .ref a_o), (1, .int p1)] := hl
  have hF : CallFix p m c cX10_questionMark 2 s args wsX10_questionMark RX10 := ⟨hx, hb, hml, hown, hts⟩
  have u_X10 : ∀ w ∈ u_ws RX10 TX10 12, w ∈ wsX10_questionMark := by decide +kernel
  have k_f0 := hts (.fieldLink RX10 85 "NoWordNo" "traced" "J") (by decide +kernel)
  have k_L1 := hts (.constantLong RX10 311 (10000)) (by decide +kernel)
  unfold P_X10_questionMark at h
  refine lv_aload_n hx hb dX10_questionMark_0 rfl (lv_at hl 0 rfl) ?_
  refine lv_dup hx hb dX10_questionMark_1 rfl ?_
  refine va_get (D := D) (ci := 9) (v := .long o_traced) (C := RX10) (T := TX10) (N := 12) hx hb hts u_X10 hown hK hP 0 rfl rfl 11 (by decide) k_f0 (fun _ h9 => h9) rfl dX10_questionMark_2 ?_
  refine lv_ldc2 (v := 10000) hx hb hown k_L1 dX10_questionMark_5 ?_
  refine lv_ladd hx hb dX10_questionMark_8 ?_
  refine va_put (D := D) (ci := 9) (v := .long (o_traced + 10000)) (ty := .long) (C := RX10) (T := TX10) (N := 12) hx hb hts u_X10 tyX10 tyX10_ok nmX10 hown hK hP hD hS 0 rfl rfl 11 (by decide) k_f0 (fun _ h9 => h9) rfl (tyX10_ok 11 (by decide)) rfl rfl (Nat.le_of_ble_eq_true rfl) dX10_questionMark_9 (fun H locs hP hD hS => ?_)
  have hP : va_P D vwCl [(a_o, .inr (9, [w_o_text, w_o_speech, .ref a_now, w_o_image0, w_o_image1, w_o_signs, w_o_reader, w_o_lengths, w_o_refusals, w_o_two, .int o_measured, .long (o_traced + 10000)])), (a_now, .inr (0, [.ref a_now_left, .ref a_now_signs, w_now_wordSets, .int now_sayings, .int now_words, .int now_filled])), (a_now_left, .inl (cI, 8, .inl f_now_left)), (a_now_signs, .inl (cI, 8, .inl f_now_signs))] H := hP
  have hD : va_D A [(a_o, .inr (9, [w_o_text, w_o_speech, .ref a_now, w_o_image0, w_o_image1, w_o_signs, w_o_reader, w_o_lengths, w_o_refusals, w_o_two, .int o_measured, .long (o_traced + 10000)])), (a_now, .inr (0, [.ref a_now_left, .ref a_now_signs, w_now_wordSets, .int now_sayings, .int now_words, .int now_filled])), (a_now_left, .inl (cI, 8, .inl f_now_left)), (a_now_signs, .inl (cI, 8, .inl f_now_signs))] := hD
  refine lv_aload_n hx hb dX10_questionMark_12 rfl (lv_at hl 0 rfl) ?_
  refine lv_iload_n hx hb dX10_questionMark_13 rfl (lv_at hl 1 rfl) ?_
  obtain ⟨z_14, hc_14, h⟩ := bd_e h
  refine q_iV (As := [.int p1]) (rest := []) (wF := [(a_o, .inr (9, [w_o_text, w_o_speech, .ref a_now, w_o_image0, w_o_image1, w_o_signs, w_o_reader, w_o_lengths, w_o_refusals, w_o_two, .int o_measured, .long z_14.2])), (a_now, .inr (0, [.ref a_now_left, .ref a_now_signs, w_now_wordSets, .int now_sayings, .int now_words, .int now_filled])), (a_now_left, .inl (cI, 8, .inl f_now_left)), (a_now_signs, .inl (cI, 8, .inl f_now_signs))]) hF hA hZ hK hP hD hS (c_X10_offerMark l D cI cB cZ a_o w_o_text w_o_speech w_o_image0 w_o_image1 w_o_signs w_o_reader w_o_lengths w_o_refusals w_o_two o_measured (o_traced + 10000) a_now w_now_wordSets now_sayings now_words now_filled a_now_left f_now_left a_now_signs f_now_signs p1 z_14 hc_14) rfl gX10_questionMark_X10_offerMark hdX10_offerMark ⟨rfl, rfl⟩ (Nat.le_of_ble_eq_true rfl) (Nat.le_of_ble_eq_true rfl) 9 0 rfl rfl [0, 1, 2, 3] [] rfl rfl rfl rfl (by decide) rfl hl.1 rfl (Nat.le_of_ble_eq_true rfl) (Nat.zero_le _) (Nat.zero_le _) dX10_questionMark_14 (fun H locs hP hD hS => ?_)
  refine lv_iload_n hx hb dX10_questionMark_17 rfl (lv_at hl 1 rfl) ?_
  refine lv_isub hx hb dX10_questionMark_18 ?_
  have hz := Option.some.inj h
  subst hz
  exact hret H locs 19 ls (fun ty h => by cases h; rfl) hP hD hS dX10_questionMark_19
abbrev rmX10_shrugMark : Room := { frames := 6, cells := 0, slots := 0, locals := 132 }
theorem hdX10_shrugMark : yX10_shrugMark.cls = RX10 ∧ yX10_shrugMark.cls ≠ "java/lang/invoke/MethodHandle" ∧ yX10_shrugMark.cls ≠ "java/lang/invoke/VarHandle" ∧ (parseMethodDescriptor yX10_shrugMark.desc).map (fun d => d.parameters.length) = some 1 := by decide +kernel
set_option maxRecDepth 100000 in
set_option maxHeartbeats 4000000 in
theorem c_X10_shrugMark (l : Launch) (D : va_G) (cI cB cZ : ClassId) (a_o : Nat) (w_o_text : Value) (w_o_image0 : Value) (w_o_image1 : Value) (w_o_reader : Value) (w_o_refusals : Value) (w_o_two : Value) (o_measured : Int32) (o_traced : Int64) (a_speech : Nat) (speech_choices : Int32) (speech_worlds : Int32) (a_speech_values : Nat) (f_speech_values : Nat → Int32) (a_speech_left : Nat) (f_speech_left : Nat → Int32) (a_now : Nat) (now_sayings : Int32) (now_words : Int32) (now_filled : Int32) (a_now_left : Nat) (f_now_left : Nat → Int32) (a_now_signs : Nat) (f_now_signs : Nat → Int32) (a_now_wordSets : Nat) (f_now_wordSets : Nat → Int32) (a_signs : Nat) (a_lengths : Nat) (lengths_found : Int32) (a_lengths_length : Nat) (f_lengths_length : Nat → Int32) (a_lengths_order : Nat) (f_lengths_order : Nat → Int32) (a_lengths_start : Nat) (f_lengths_start : Nat → Int32) (p1 : Int32) (z : Int32 × Int32 × Int64 × Int32 × (Nat → Int32) × (Nat → Int32) × (Nat → Int32)) (h : P_X10_shrugMark p1 o_measured o_traced speech_choices speech_worlds f_speech_values f_speech_left now_words f_now_left f_now_signs f_now_wordSets lengths_found f_lengths_length f_lengths_order f_lengths_start = some z) : KI l yX10_shrugMark wsX10_shrugMark rmX10_shrugMark D [(cI, .int), (cB, .byte), (cZ, .boolean)] [.ref a_o, .int p1] [(a_o, .inr (9, [w_o_text, .ref a_speech, .ref a_now, w_o_image0, w_o_image1, .ref a_signs, w_o_reader, .ref a_lengths, w_o_refusals, w_o_two, .int o_measured, .long o_traced])), (a_speech, .inr (7, [.ref a_speech_values, .ref a_speech_left, .int speech_choices, .int speech_worlds])), (a_speech_values, .inl (cI, 3, .inl f_speech_values)), (a_speech_left, .inl (cI, 30, .inl f_speech_left)), (a_now, .inr (0, [.ref a_now_left, .ref a_now_signs, .ref a_now_wordSets, .int now_sayings, .int now_words, .int now_filled])), (a_now_left, .inl (cI, 8, .inl f_now_left)), (a_now_signs, .inl (cI, 8, .inl f_now_signs)), (a_now_wordSets, .inl (cI, 3, .inl f_now_wordSets)), (a_signs, .inr (4, [.ref a_speech, .ref a_now])), (a_lengths, .inr (1, [.ref a_signs, .ref a_lengths_length, .ref a_lengths_order, .ref a_lengths_start, .int lengths_found])), (a_lengths_length, .inl (cI, 512, .inl f_lengths_length)), (a_lengths_order, .inl (cI, 512, .inl f_lengths_order)), (a_lengths_start, .inl (cI, 34, .inl f_lengths_start))] [(a_o, .inr (9, [w_o_text, .ref a_speech, .ref a_now, w_o_image0, w_o_image1, .ref a_signs, w_o_reader, .ref a_lengths, w_o_refusals, w_o_two, .int z.2.1, .long z.2.2.1])), (a_speech, .inr (7, [.ref a_speech_values, .ref a_speech_left, .int speech_choices, .int speech_worlds])), (a_speech_values, .inl (cI, 3, .inl f_speech_values)), (a_speech_left, .inl (cI, 30, .inl f_speech_left)), (a_now, .inr (0, [.ref a_now_left, .ref a_now_signs, .ref a_now_wordSets, .int now_sayings, .int now_words, .int now_filled])), (a_now_left, .inl (cI, 8, .inl f_now_left)), (a_now_signs, .inl (cI, 8, .inl f_now_signs)), (a_now_wordSets, .inl (cI, 3, .inl f_now_wordSets)), (a_signs, .inr (4, [.ref a_speech, .ref a_now])), (a_lengths, .inr (1, [.ref a_signs, .ref a_lengths_length, .ref a_lengths_order, .ref a_lengths_start, .int z.2.2.2.1])), (a_lengths_length, .inl (cI, 512, .inl z.2.2.2.2.1)), (a_lengths_order, .inl (cI, 512, .inl z.2.2.2.2.2.1)), (a_lengths_start, .inl (cI, 34, .inl z.2.2.2.2.2.2))] z.1 := by
  refine KI_of (own := RX10) (cc := cX10_shrugMark) (maxL := 2) (ret := some .int) (by decide) rfl rfl (Nat.le_of_ble_eq_true rfl) (Or.inl rfl) ?_
  intro p e s m args below meth c A Q hx hb hml hown hts hA hZ hK hret H locs ls hP hD hS hl
  have hl : lv_has ls 2 [(0, .ref a_o), (1, .int p1)] := hl
  have hF : CallFix p m c cX10_shrugMark 2 s args wsX10_shrugMark RX10 := ⟨hx, hb, hml, hown, hts⟩
  have u_X10 : ∀ w ∈ u_ws RX10 TX10 12, w ∈ wsX10_shrugMark := by decide +kernel
  have k_f0 := hts (.fieldLink RX10 85 "NoWordNo" "traced" "J") (by decide +kernel)
  have k_L1 := hts (.constantLong RX10 313 (100000)) (by decide +kernel)
  have k_f2 := hts (.fieldLink RX10 26 "NoWordNo" "now" "LNoWordNo$Kept;") (by decide +kernel)
  have k_m3 := hts (.methodLink RX10 315 Lib.Math.max.name) (by decide +kernel)
  have k_m4 := hts (.static Lib.Math.max.name) (by decide +kernel)
  have k_m5 := hts (.initialized "java/lang/Math") (by decide +kernel)
  have k_m6 := hts (.code Lib.Math.max.name Lib.Math.max.code 2 (some .int)) (by decide +kernel)
  unfold P_X10_shrugMark at h
  refine lv_aload_n hx hb dX10_shrugMark_0 rfl (lv_at hl 0 rfl) ?_
  refine lv_dup hx hb dX10_shrugMark_1 rfl ?_
  refine va_get (D := D) (ci := 9) (v := .long o_traced) (C := RX10) (T := TX10) (N := 12) hx hb hts u_X10 hown hK hP 0 rfl rfl 11 (by decide) k_f0 (fun _ h9 => h9) rfl dX10_shrugMark_2 ?_
  refine lv_ldc2 (v := 100000) hx hb hown k_L1 dX10_shrugMark_5 ?_
  refine lv_ladd hx hb dX10_shrugMark_8 ?_
  refine va_put (D := D) (ci := 9) (v := .long (o_traced + 100000)) (ty := .long) (C := RX10) (T := TX10) (N := 12) hx hb hts u_X10 tyX10 tyX10_ok nmX10 hown hK hP hD hS 0 rfl rfl 11 (by decide) k_f0 (fun _ h9 => h9) rfl (tyX10_ok 11 (by decide)) rfl rfl (Nat.le_of_ble_eq_true rfl) dX10_shrugMark_9 (fun H locs hP hD hS => ?_)
  have hP : va_P D vwCl [(a_o, .inr (9, [w_o_text, .ref a_speech, .ref a_now, w_o_image0, w_o_image1, .ref a_signs, w_o_reader, .ref a_lengths, w_o_refusals, w_o_two, .int o_measured, .long (o_traced + 100000)])), (a_speech, .inr (7, [.ref a_speech_values, .ref a_speech_left, .int speech_choices, .int speech_worlds])), (a_speech_values, .inl (cI, 3, .inl f_speech_values)), (a_speech_left, .inl (cI, 30, .inl f_speech_left)), (a_now, .inr (0, [.ref a_now_left, .ref a_now_signs, .ref a_now_wordSets, .int now_sayings, .int now_words, .int now_filled])), (a_now_left, .inl (cI, 8, .inl f_now_left)), (a_now_signs, .inl (cI, 8, .inl f_now_signs)), (a_now_wordSets, .inl (cI, 3, .inl f_now_wordSets)), (a_signs, .inr (4, [.ref a_speech, .ref a_now])), (a_lengths, .inr (1, [.ref a_signs, .ref a_lengths_length, .ref a_lengths_order, .ref a_lengths_start, .int lengths_found])), (a_lengths_length, .inl (cI, 512, .inl f_lengths_length)), (a_lengths_order, .inl (cI, 512, .inl f_lengths_order)), (a_lengths_start, .inl (cI, 34, .inl f_lengths_start))] H := hP
  have hD : va_D A [(a_o, .inr (9, [w_o_text, .ref a_speech, .ref a_now, w_o_image0, w_o_image1, .ref a_signs, w_o_reader, .ref a_lengths, w_o_refusals, w_o_two, .int o_measured, .long (o_traced + 100000)])), (a_speech, .inr (7, [.ref a_speech_values, .ref a_speech_left, .int speech_choices, .int speech_worlds])), (a_speech_values, .inl (cI, 3, .inl f_speech_values)), (a_speech_left, .inl (cI, 30, .inl f_speech_left)), (a_now, .inr (0, [.ref a_now_left, .ref a_now_signs, .ref a_now_wordSets, .int now_sayings, .int now_words, .int now_filled])), (a_now_left, .inl (cI, 8, .inl f_now_left)), (a_now_signs, .inl (cI, 8, .inl f_now_signs)), (a_now_wordSets, .inl (cI, 3, .inl f_now_wordSets)), (a_signs, .inr (4, [.ref a_speech, .ref a_now])), (a_lengths, .inr (1, [.ref a_signs, .ref a_lengths_length, .ref a_lengths_order, .ref a_lengths_start, .int lengths_found])), (a_lengths_length, .inl (cI, 512, .inl f_lengths_length)), (a_lengths_order, .inl (cI, 512, .inl f_lengths_order)), (a_lengths_start, .inl (cI, 34, .inl f_lengths_start))] := hD
  refine lv_aload_n hx hb dX10_shrugMark_12 rfl (lv_at hl 0 rfl) ?_
  refine lv_iload_n hx hb dX10_shrugMark_13 rfl (lv_at hl 1 rfl) ?_
  obtain ⟨z_14, hc_14, h⟩ := bd_e h
  refine q_iV (As := [.int p1]) (rest := []) (wF := [(a_speech, .inr (7, [.ref a_speech_values, .ref a_speech_left, .int speech_choices, .int speech_worlds])), (a_speech_values, .inl (cI, 3, .inl f_speech_values)), (a_speech_left, .inl (cI, 30, .inl f_speech_left)), (a_now_left, .inl (cI, 8, .inl f_now_left)), (a_now_wordSets, .inl (cI, 3, .inl f_now_wordSets)), (a_signs, .inr (4, [.ref a_speech, .ref a_now])), (a_lengths, .inr (1, [.ref a_signs, .ref a_lengths_length, .ref a_lengths_order, .ref a_lengths_start, .int lengths_found])), (a_lengths_length, .inl (cI, 512, .inl f_lengths_length)), (a_lengths_order, .inl (cI, 512, .inl f_lengths_order)), (a_lengths_start, .inl (cI, 34, .inl f_lengths_start)), (a_o, .inr (9, [w_o_text, .ref a_speech, .ref a_now, w_o_image0, w_o_image1, .ref a_signs, w_o_reader, .ref a_lengths, w_o_refusals, w_o_two, .int o_measured, .long z_14.2])), (a_now, .inr (0, [.ref a_now_left, .ref a_now_signs, .ref a_now_wordSets, .int now_sayings, .int now_words, .int now_filled])), (a_now_signs, .inl (cI, 8, .inl f_now_signs))]) hF hA hZ hK hP hD hS (c_X10_plainMark l D cI cB cZ a_o w_o_text (.ref a_speech) w_o_image0 w_o_image1 (.ref a_signs) w_o_reader (.ref a_lengths) w_o_refusals w_o_two o_measured (o_traced + 100000) a_now (.ref a_now_left) (.ref a_now_wordSets) now_sayings now_words now_filled a_now_signs f_now_signs p1 z_14 hc_14) rfl gX10_shrugMark_X10_plainMark hdX10_plainMark ⟨rfl, rfl⟩ (Nat.le_of_ble_eq_true rfl) (Nat.le_of_ble_eq_true rfl) 9 0 rfl rfl [0, 4, 6] [1, 2, 3, 5, 7, 8, 9, 10, 11, 12] rfl rfl rfl rfl (by decide) rfl hl.1 rfl (Nat.le_of_ble_eq_true rfl) (Nat.zero_le _) (Nat.zero_le _) dX10_shrugMark_14 (fun H locs hP hD hS => ?_)
  refine lv_iconst (v := 0) hx hb dX10_shrugMark_17 ic_0 ?_
  refine lv_aload_n hx hb dX10_shrugMark_18 rfl (lv_at hl 0 rfl) ?_
  obtain ⟨z_19, hc_19, h⟩ := bd_e h
  refine q_rV (As := []) (rest := [.int 0, .int z_14.1]) (wF := [(a_now_left, .inl (cI, 8, .inl f_now_left)), (a_now_signs, .inl (cI, 8, .inl f_now_signs)), (a_o, .inr (9, [w_o_text, .ref a_speech, .ref a_now, w_o_image0, w_o_image1, .ref a_signs, w_o_reader, .ref a_lengths, w_o_refusals, w_o_two, .int z_19.1, .long z_14.2])), (a_speech, .inr (7, [.ref a_speech_values, .ref a_speech_left, .int speech_choices, .int speech_worlds])), (a_speech_values, .inl (cI, 3, .inl f_speech_values)), (a_speech_left, .inl (cI, 30, .inl f_speech_left)), (a_now, .inr (0, [.ref a_now_left, .ref a_now_signs, .ref a_now_wordSets, .int now_sayings, .int now_words, .int now_filled])), (a_now_wordSets, .inl (cI, 3, .inl f_now_wordSets)), (a_signs, .inr (4, [.ref a_speech, .ref a_now])), (a_lengths, .inr (1, [.ref a_signs, .ref a_lengths_length, .ref a_lengths_order, .ref a_lengths_start, .int z_19.2.1])), (a_lengths_length, .inl (cI, 512, .inl z_19.2.2.1)), (a_lengths_order, .inl (cI, 512, .inl z_19.2.2.2.1)), (a_lengths_start, .inl (cI, 34, .inl z_19.2.2.2.2))]) hF hA hZ hK hP hD hS (c_X10_lengthsNow l D cI cB cZ a_o w_o_text w_o_image0 w_o_image1 w_o_reader w_o_refusals w_o_two o_measured z_14.2 a_speech speech_choices speech_worlds a_speech_values f_speech_values a_speech_left f_speech_left a_now (.ref a_now_left) (.ref a_now_signs) now_sayings now_words now_filled a_now_wordSets f_now_wordSets a_signs a_lengths lengths_found a_lengths_length f_lengths_length a_lengths_order f_lengths_order a_lengths_start f_lengths_start z_19 hc_19) rfl gX10_shrugMark_X10_lengthsNow hdX10_lengthsNow ⟨rfl, rfl⟩ (Nat.le_of_ble_eq_true rfl) (Nat.le_of_ble_eq_true rfl) 9 0 rfl rfl [10, 0, 1, 2, 11, 4, 5, 6, 7, 8, 9] [3, 12] rfl rfl rfl rfl (by decide) rfl hl.1 rfl (Nat.le_of_ble_eq_true rfl) (Nat.zero_le _) (Nat.zero_le _) dX10_shrugMark_19 (fun H locs hP hD hS => ?_)
  refine lv_aload_n hx hb dX10_shrugMark_22 rfl (lv_at hl 0 rfl) ?_
  refine va_get (D := D) (ci := 9) (v := .ref a_now) (C := RX10) (T := TX10) (N := 12) hx hb hts u_X10 hown hK hP 2 rfl rfl 2 (by decide) k_f2 (fun _ h9 => h9) rfl dX10_shrugMark_23 ?_
  refine lv_iload_n hx hb dX10_shrugMark_26 rfl (lv_at hl 1 rfl) ?_
  obtain ⟨z_27, hc_27, h⟩ := bd_e h
  refine q_iV (As := [.int p1]) (rest := [.ref a_lengths, .int 0, .int z_14.1]) (wF := [(a_now_signs, .inl (cI, 8, .inl f_now_signs)), (a_o, .inr (9, [w_o_text, .ref a_speech, .ref a_now, w_o_image0, w_o_image1, .ref a_signs, w_o_reader, .ref a_lengths, w_o_refusals, w_o_two, .int z_19.1, .long z_14.2])), (a_speech, .inr (7, [.ref a_speech_values, .ref a_speech_left, .int speech_choices, .int speech_worlds])), (a_speech_values, .inl (cI, 3, .inl f_speech_values)), (a_speech_left, .inl (cI, 30, .inl f_speech_left)), (a_now_wordSets, .inl (cI, 3, .inl f_now_wordSets)), (a_signs, .inr (4, [.ref a_speech, .ref a_now])), (a_lengths, .inr (1, [.ref a_signs, .ref a_lengths_length, .ref a_lengths_order, .ref a_lengths_start, .int z_19.2.1])), (a_lengths_length, .inl (cI, 512, .inl z_19.2.2.1)), (a_lengths_order, .inl (cI, 512, .inl z_19.2.2.2.1)), (a_lengths_start, .inl (cI, 34, .inl z_19.2.2.2.2)), (a_now, .inr (0, [.ref a_now_left, .ref a_now_signs, .ref a_now_wordSets, .int now_sayings, .int now_words, .int now_filled])), (a_now_left, .inl (cI, 8, .inl f_now_left))]) hF hA hZ hK hP hD hS (c_X0_leftBy l D cI cB cZ a_now (.ref a_now_signs) (.ref a_now_wordSets) now_sayings now_words now_filled a_now_left f_now_left p1 z_27 hc_27) rfl gX10_shrugMark_X0_leftBy hdX0_leftBy ⟨rfl, rfl⟩ (Nat.le_of_ble_eq_true rfl) (Nat.le_of_ble_eq_true rfl) 0 0 rfl rfl [6, 0] [1, 2, 3, 4, 5, 7, 8, 9, 10, 11, 12] rfl rfl rfl rfl (by decide) rfl hl.1 rfl (Nat.le_of_ble_eq_true rfl) (Nat.zero_le _) (Nat.zero_le _) dX10_shrugMark_27 (fun H locs hP hD hS => ?_)
  obtain ⟨z_30, hc_30, h⟩ := bd_e h
  refine q_iV (As := [.int z_27]) (rest := [.int 0, .int z_14.1]) (wF := [(a_now_signs, .inl (cI, 8, .inl f_now_signs)), (a_o, .inr (9, [w_o_text, .ref a_speech, .ref a_now, w_o_image0, w_o_image1, .ref a_signs, w_o_reader, .ref a_lengths, w_o_refusals, w_o_two, .int z_19.1, .long z_14.2])), (a_speech, .inr (7, [.ref a_speech_values, .ref a_speech_left, .int speech_choices, .int speech_worlds])), (a_speech_values, .inl (cI, 3, .inl f_speech_values)), (a_speech_left, .inl (cI, 30, .inl f_speech_left)), (a_now_wordSets, .inl (cI, 3, .inl f_now_wordSets)), (a_signs, .inr (4, [.ref a_speech, .ref a_now])), (a_lengths_order, .inl (cI, 512, .inl z_19.2.2.2.1)), (a_lengths_start, .inl (cI, 34, .inl z_19.2.2.2.2)), (a_now, .inr (0, [.ref a_now_left, .ref a_now_signs, .ref a_now_wordSets, .int now_sayings, .int now_words, .int now_filled])), (a_now_left, .inl (cI, 8, .inl f_now_left)), (a_lengths, .inr (1, [.ref a_signs, .ref a_lengths_length, .ref a_lengths_order, .ref a_lengths_start, .int z_19.2.1])), (a_lengths_length, .inl (cI, 512, .inl z_19.2.2.1))]) hF hA hZ hK hP hD hS (c_X1_of l D cI cB cZ a_lengths (.ref a_signs) (.ref a_lengths_order) (.ref a_lengths_start) z_19.2.1 a_lengths_length z_19.2.2.1 z_27 z_30 hc_30) rfl gX10_shrugMark_X1_of hdX1_of ⟨rfl, rfl⟩ (Nat.le_of_ble_eq_true rfl) (Nat.le_of_ble_eq_true rfl) 1 0 rfl rfl [7, 8] [0, 1, 2, 3, 4, 5, 6, 9, 10, 11, 12] rfl rfl rfl rfl (by decide) rfl hl.1 rfl (Nat.le_of_ble_eq_true rfl) (Nat.zero_le _) (Nat.zero_le _) dX10_shrugMark_30 (fun H locs hP hD hS => ?_)
  refine va_mmax hx hb (hml.trans hl.1.symm) hown k_m3 k_m4 k_m5 k_m6 (Nat.le_of_ble_eq_true rfl) (Nat.le_of_ble_eq_true rfl) (Nat.zero_le _) (Nat.zero_le _) dX10_shrugMark_33 ?_
  refine lv_iadd hx hb dX10_shrugMark_36 ?_
  have hz := Option.some.inj h
  subst hz
  exact hret H locs 37 ls (fun ty h => by cases h; rfl) (hP.sub [1, 2, 3, 4, 9, 10, 0, 5, 6, 11, 12, 7, 8] rfl) (hD.sub [1, 2, 3, 4, 9, 10, 0, 5, 6, 11, 12, 7, 8] (by decide) rfl) hS dX10_shrugMark_37
abbrev rmX10_mark : Room := { frames := 7, cells := 0, slots := 0, locals := 153 }
theorem hdX10_mark : yX10_mark.cls = RX10 ∧ yX10_mark.cls ≠ "java/lang/invoke/MethodHandle" ∧ yX10_mark.cls ≠ "java/lang/invoke/VarHandle" ∧ (parseMethodDescriptor yX10_mark.desc).map (fun d => d.parameters.length) = some 2 := by decide +kernel
set_option maxRecDepth 100000 in
set_option maxHeartbeats 4000000 in
theorem c_X10_mark (l : Launch) (D : va_G) (cI cB cZ : ClassId) (a_o : Nat) (w_o_text : Value) (w_o_image0 : Value) (w_o_image1 : Value) (w_o_reader : Value) (w_o_refusals : Value) (w_o_two : Value) (o_measured : Int32) (o_traced : Int64) (a_speech : Nat) (speech_choices : Int32) (speech_worlds : Int32) (a_speech_values : Nat) (f_speech_values : Nat → Int32) (a_speech_left : Nat) (f_speech_left : Nat → Int32) (a_now : Nat) (now_sayings : Int32) (now_words : Int32) (now_filled : Int32) (a_now_left : Nat) (f_now_left : Nat → Int32) (a_now_signs : Nat) (f_now_signs : Nat → Int32) (a_now_wordSets : Nat) (f_now_wordSets : Nat → Int32) (a_signs : Nat) (a_lengths : Nat) (lengths_found : Int32) (a_lengths_length : Nat) (f_lengths_length : Nat → Int32) (a_lengths_order : Nat) (f_lengths_order : Nat → Int32) (a_lengths_start : Nat) (f_lengths_start : Nat → Int32) (p1 : Int32) (p2 : Int32) (z : Int32 × Int32 × Int64 × Int32 × (Nat → Int32) × (Nat → Int32) × (Nat → Int32)) (h : P_X10_mark p1 p2 o_measured o_traced speech_choices speech_worlds f_speech_values f_speech_left now_sayings now_words f_now_left f_now_signs f_now_wordSets lengths_found f_lengths_length f_lengths_order f_lengths_start = some z) : KI l yX10_mark wsX10_mark rmX10_mark D [(cI, .int), (cB, .byte), (cZ, .boolean)] [.ref a_o, .int p1, .int p2] [(a_o, .inr (9, [w_o_text, .ref a_speech, .ref a_now, w_o_image0, w_o_image1, .ref a_signs, w_o_reader, .ref a_lengths, w_o_refusals, w_o_two, .int o_measured, .long o_traced])), (a_speech, .inr (7, [.ref a_speech_values, .ref a_speech_left, .int speech_choices, .int speech_worlds])), (a_speech_values, .inl (cI, 3, .inl f_speech_values)), (a_speech_left, .inl (cI, 30, .inl f_speech_left)), (a_now, .inr (0, [.ref a_now_left, .ref a_now_signs, .ref a_now_wordSets, .int now_sayings, .int now_words, .int now_filled])), (a_now_left, .inl (cI, 8, .inl f_now_left)), (a_now_signs, .inl (cI, 8, .inl f_now_signs)), (a_now_wordSets, .inl (cI, 3, .inl f_now_wordSets)), (a_signs, .inr (4, [.ref a_speech, .ref a_now])), (a_lengths, .inr (1, [.ref a_signs, .ref a_lengths_length, .ref a_lengths_order, .ref a_lengths_start, .int lengths_found])), (a_lengths_length, .inl (cI, 512, .inl f_lengths_length)), (a_lengths_order, .inl (cI, 512, .inl f_lengths_order)), (a_lengths_start, .inl (cI, 34, .inl f_lengths_start))] [(a_o, .inr (9, [w_o_text, .ref a_speech, .ref a_now, w_o_image0, w_o_image1, .ref a_signs, w_o_reader, .ref a_lengths, w_o_refusals, w_o_two, .int z.2.1, .long z.2.2.1])), (a_speech, .inr (7, [.ref a_speech_values, .ref a_speech_left, .int speech_choices, .int speech_worlds])), (a_speech_values, .inl (cI, 3, .inl f_speech_values)), (a_speech_left, .inl (cI, 30, .inl f_speech_left)), (a_now, .inr (0, [.ref a_now_left, .ref a_now_signs, .ref a_now_wordSets, .int now_sayings, .int now_words, .int now_filled])), (a_now_left, .inl (cI, 8, .inl f_now_left)), (a_now_signs, .inl (cI, 8, .inl f_now_signs)), (a_now_wordSets, .inl (cI, 3, .inl f_now_wordSets)), (a_signs, .inr (4, [.ref a_speech, .ref a_now])), (a_lengths, .inr (1, [.ref a_signs, .ref a_lengths_length, .ref a_lengths_order, .ref a_lengths_start, .int z.2.2.2.1])), (a_lengths_length, .inl (cI, 512, .inl z.2.2.2.2.1)), (a_lengths_order, .inl (cI, 512, .inl z.2.2.2.2.2.1)), (a_lengths_start, .inl (cI, 34, .inl z.2.2.2.2.2.2))] z.1 := by
  refine KI_of (own := RX10) (cc := cX10_mark) (maxL := 3) (ret := some .int) (by decide) rfl rfl (Nat.le_of_ble_eq_true rfl) (Or.inl rfl) ?_
  intro p e s m args below meth c A Q hx hb hml hown hts hA hZ hK hret H locs ls hP hD hS hl
  have hl : lv_has ls 3 [(0, .ref a_o), (1, .int p1), (2, .int p2)] := hl
  have hF : CallFix p m c cX10_mark 3 s args wsX10_mark RX10 := ⟨hx, hb, hml, hown, hts⟩
  have u_X10 : ∀ w ∈ u_ws RX10 TX10 12, w ∈ wsX10_mark := by decide +kernel
  have k_f0 := hts (.fieldLink RX10 26 "NoWordNo" "now" "LNoWordNo$Kept;") (by decide +kernel)
  have k_c1 := hts (.constant RX10 256 (-1000000)) (by decide +kernel)
  unfold P_X10_mark at h
  refine lv_aload_n hx hb dX10_mark_0 rfl (lv_at hl 0 rfl) ?_
  refine va_get (D := D) (ci := 9) (v := .ref a_now) (C := RX10) (T := TX10) (N := 12) hx hb hts u_X10 hown hK hP 0 rfl rfl 2 (by decide) k_f0 (fun _ h9 => h9) rfl dX10_mark_1 ?_
  refine lv_iload_n hx hb dX10_mark_4 rfl (lv_at hl 2 rfl) ?_
  obtain ⟨z_5, hc_5, h⟩ := bd_e h
  refine q_iV (As := [.int p2]) (rest := []) (wF := [(a_o, .inr (9, [w_o_text, .ref a_speech, .ref a_now, w_o_image0, w_o_image1, .ref a_signs, w_o_reader, .ref a_lengths, w_o_refusals, w_o_two, .int o_measured, .long o_traced])), (a_speech, .inr (7, [.ref a_speech_values, .ref a_speech_left, .int speech_choices, .int speech_worlds])), (a_speech_values, .inl (cI, 3, .inl f_speech_values)), (a_speech_left, .inl (cI, 30, .inl f_speech_left)), (a_now_left, .inl (cI, 8, .inl f_now_left)), (a_now_signs, .inl (cI, 8, .inl f_now_signs)), (a_now_wordSets, .inl (cI, 3, .inl f_now_wordSets)), (a_signs, .inr (4, [.ref a_speech, .ref a_now])), (a_lengths, .inr (1, [.ref a_signs, .ref a_lengths_length, .ref a_lengths_order, .ref a_lengths_start, .int lengths_found])), (a_lengths_length, .inl (cI, 512, .inl f_lengths_length)), (a_lengths_order, .inl (cI, 512, .inl f_lengths_order)), (a_lengths_start, .inl (cI, 34, .inl f_lengths_start)), (a_now, .inr (0, [.ref a_now_left, .ref a_now_signs, .ref a_now_wordSets, .int now_sayings, .int now_words, .int now_filled]))]) hF hA hZ hK hP hD hS (c_X0_isSaying l D cI cB cZ a_now (.ref a_now_left) (.ref a_now_signs) (.ref a_now_wordSets) now_sayings now_words now_filled p2 z_5 hc_5) rfl gX10_mark_X0_isSaying hdX0_isSaying ⟨rfl, rfl⟩ (Nat.le_of_ble_eq_true rfl) (Nat.le_of_ble_eq_true rfl) 0 0 rfl rfl [4] [0, 1, 2, 3, 5, 6, 7, 8, 9, 10, 11, 12] rfl rfl rfl rfl (by decide) rfl hl.1 rfl (Nat.le_of_ble_eq_true rfl) (Nat.zero_le _) (Nat.zero_le _) dX10_mark_5 (fun H locs hP hD hS => ?_)
  refine lv_if_ne (tgt := 15) hx hb dX10_mark_8 (by decide) (fun c_8 => ?_) (fun c_8 => ?_)
  · replace h := if_e c_8 h
    refine lv_iload_n hx hb dX10_mark_15 rfl (lv_at hl 1 rfl) ?_
    by_cases c_16_0 : p1 = 0
    · replace h := it_e c_16_0 h
      refine lv_tableIn (tgt := 56) hx hb dX10_mark_16 (by rw [c_16_0]; decide) (by rw [c_16_0]; decide) (by rw [c_16_0]; rfl) (by decide) ?_
      refine lv_aload_n hx hb dX10_mark_56 rfl (lv_at hl 0 rfl) ?_
      refine lv_iload_n hx hb dX10_mark_57 rfl (lv_at hl 2 rfl) ?_
      obtain ⟨z_58, hc_58, h⟩ := bd_e h
      refine q_iV (As := [.int p2]) (rest := []) (wF := [(a_speech, .inr (7, [.ref a_speech_values, .ref a_speech_left, .int speech_choices, .int speech_worlds])), (a_speech_values, .inl (cI, 3, .inl f_speech_values)), (a_speech_left, .inl (cI, 30, .inl f_speech_left)), (a_now_left, .inl (cI, 8, .inl f_now_left)), (a_now_wordSets, .inl (cI, 3, .inl f_now_wordSets)), (a_signs, .inr (4, [.ref a_speech, .ref a_now])), (a_lengths, .inr (1, [.ref a_signs, .ref a_lengths_length, .ref a_lengths_order, .ref a_lengths_start, .int lengths_found])), (a_lengths_length, .inl (cI, 512, .inl f_lengths_length)), (a_lengths_order, .inl (cI, 512, .inl f_lengths_order)), (a_lengths_start, .inl (cI, 34, .inl f_lengths_start)), (a_o, .inr (9, [w_o_text, .ref a_speech, .ref a_now, w_o_image0, w_o_image1, .ref a_signs, w_o_reader, .ref a_lengths, w_o_refusals, w_o_two, .int o_measured, .long z_58.2])), (a_now, .inr (0, [.ref a_now_left, .ref a_now_signs, .ref a_now_wordSets, .int now_sayings, .int now_words, .int now_filled])), (a_now_signs, .inl (cI, 8, .inl f_now_signs))]) hF hA hZ hK hP hD hS (c_X10_plainMark l D cI cB cZ a_o w_o_text (.ref a_speech) w_o_image0 w_o_image1 (.ref a_signs) w_o_reader (.ref a_lengths) w_o_refusals w_o_two o_measured o_traced a_now (.ref a_now_left) (.ref a_now_wordSets) now_sayings now_words now_filled a_now_signs f_now_signs p2 z_58 hc_58) rfl gX10_mark_X10_plainMark hdX10_plainMark ⟨rfl, rfl⟩ (Nat.le_of_ble_eq_true rfl) (Nat.le_of_ble_eq_true rfl) 9 0 rfl rfl [0, 12, 5] [1, 2, 3, 4, 6, 7, 8, 9, 10, 11] rfl rfl rfl rfl (by decide) rfl hl.1 rfl (Nat.le_of_ble_eq_true rfl) (Nat.zero_le _) (Nat.zero_le _) dX10_mark_58 (fun H locs hP hD hS => ?_)
      have hz := Option.some.inj h
      subst hz
      exact hret H locs 61 ls (fun ty h => by cases h; rfl) (hP.sub [10, 0, 1, 2, 11, 3, 12, 4, 5, 6, 7, 8, 9] rfl) (hD.sub [10, 0, 1, 2, 11, 3, 12, 4, 5, 6, 7, 8, 9] (by decide) rfl) hS dX10_mark_61
    replace h := if_e c_16_0 h
    by_cases c_16_1 : p1 = 1
    · replace h := it_e c_16_1 h
      refine lv_tableIn (tgt := 62) hx hb dX10_mark_16 (by rw [c_16_1]; decide) (by rw [c_16_1]; decide) (by rw [c_16_1]; rfl) (by decide) ?_
      refine lv_aload_n hx hb dX10_mark_62 rfl (lv_at hl 0 rfl) ?_
      refine lv_iload_n hx hb dX10_mark_63 rfl (lv_at hl 2 rfl) ?_
      obtain ⟨z_64, hc_64, h⟩ := bd_e h
      refine q_iV (As := [.int p2]) (rest := []) (wF := [(a_speech, .inr (7, [.ref a_speech_values, .ref a_speech_left, .int speech_choices, .int speech_worlds])), (a_speech_values, .inl (cI, 3, .inl f_speech_values)), (a_speech_left, .inl (cI, 30, .inl f_speech_left)), (a_now_wordSets, .inl (cI, 3, .inl f_now_wordSets)), (a_signs, .inr (4, [.ref a_speech, .ref a_now])), (a_lengths, .inr (1, [.ref a_signs, .ref a_lengths_length, .ref a_lengths_order, .ref a_lengths_start, .int lengths_found])), (a_lengths_length, .inl (cI, 512, .inl f_lengths_length)), (a_lengths_order, .inl (cI, 512, .inl f_lengths_order)), (a_lengths_start, .inl (cI, 34, .inl f_lengths_start)), (a_o, .inr (9, [w_o_text, .ref a_speech, .ref a_now, w_o_image0, w_o_image1, .ref a_signs, w_o_reader, .ref a_lengths, w_o_refusals, w_o_two, .int o_measured, .long z_64.2])), (a_now, .inr (0, [.ref a_now_left, .ref a_now_signs, .ref a_now_wordSets, .int now_sayings, .int now_words, .int now_filled])), (a_now_left, .inl (cI, 8, .inl f_now_left)), (a_now_signs, .inl (cI, 8, .inl f_now_signs))]) hF hA hZ hK hP hD hS (c_X10_offerMark l D cI cB cZ a_o w_o_text (.ref a_speech) w_o_image0 w_o_image1 (.ref a_signs) w_o_reader (.ref a_lengths) w_o_refusals w_o_two o_measured o_traced a_now (.ref a_now_wordSets) now_sayings now_words now_filled a_now_left f_now_left a_now_signs f_now_signs p2 z_64 hc_64) rfl gX10_mark_X10_offerMark hdX10_offerMark ⟨rfl, rfl⟩ (Nat.le_of_ble_eq_true rfl) (Nat.le_of_ble_eq_true rfl) 9 0 rfl rfl [0, 12, 4, 5] [1, 2, 3, 6, 7, 8, 9, 10, 11] rfl rfl rfl rfl (by decide) rfl hl.1 rfl (Nat.le_of_ble_eq_true rfl) (Nat.zero_le _) (Nat.zero_le _) dX10_mark_64 (fun H locs hP hD hS => ?_)
      have hz := Option.some.inj h
      subst hz
      exact hret H locs 67 ls (fun ty h => by cases h; rfl) (hP.sub [9, 0, 1, 2, 10, 11, 12, 3, 4, 5, 6, 7, 8] rfl) (hD.sub [9, 0, 1, 2, 10, 11, 12, 3, 4, 5, 6, 7, 8] (by decide) rfl) hS dX10_mark_67
    replace h := if_e c_16_1 h
    by_cases c_16_2 : p1 = 2
    · replace h := it_e c_16_2 h
      refine lv_tableIn (tgt := 68) hx hb dX10_mark_16 (by rw [c_16_2]; decide) (by rw [c_16_2]; decide) (by rw [c_16_2]; rfl) (by decide) ?_
      refine lv_aload_n hx hb dX10_mark_68 rfl (lv_at hl 0 rfl) ?_
      refine lv_iload_n hx hb dX10_mark_69 rfl (lv_at hl 2 rfl) ?_
      obtain ⟨z_70, hc_70, h⟩ := bd_e h
      refine q_iV (As := [.int p2]) (rest := []) (wF := [(a_speech, .inr (7, [.ref a_speech_values, .ref a_speech_left, .int speech_choices, .int speech_worlds])), (a_speech_values, .inl (cI, 3, .inl f_speech_values)), (a_speech_left, .inl (cI, 30, .inl f_speech_left)), (a_now_left, .inl (cI, 8, .inl f_now_left)), (a_now_wordSets, .inl (cI, 3, .inl f_now_wordSets)), (a_signs, .inr (4, [.ref a_speech, .ref a_now])), (a_lengths, .inr (1, [.ref a_signs, .ref a_lengths_length, .ref a_lengths_order, .ref a_lengths_start, .int lengths_found])), (a_lengths_length, .inl (cI, 512, .inl f_lengths_length)), (a_lengths_order, .inl (cI, 512, .inl f_lengths_order)), (a_lengths_start, .inl (cI, 34, .inl f_lengths_start)), (a_o, .inr (9, [w_o_text, .ref a_speech, .ref a_now, w_o_image0, w_o_image1, .ref a_signs, w_o_reader, .ref a_lengths, w_o_refusals, w_o_two, .int o_measured, .long z_70.2])), (a_now, .inr (0, [.ref a_now_left, .ref a_now_signs, .ref a_now_wordSets, .int now_sayings, .int now_words, .int now_filled])), (a_now_signs, .inl (cI, 8, .inl f_now_signs))]) hF hA hZ hK hP hD hS (c_X10_clauseMark l D cI cB cZ a_o w_o_text (.ref a_speech) w_o_image0 w_o_image1 (.ref a_signs) w_o_reader (.ref a_lengths) w_o_refusals w_o_two o_measured o_traced a_now (.ref a_now_left) (.ref a_now_wordSets) now_sayings now_words now_filled a_now_signs f_now_signs p2 z_70 hc_70) rfl gX10_mark_X10_clauseMark hdX10_clauseMark ⟨rfl, rfl⟩ (Nat.le_of_ble_eq_true rfl) (Nat.le_of_ble_eq_true rfl) 9 0 rfl rfl [0, 12, 5] [1, 2, 3, 4, 6, 7, 8, 9, 10, 11] rfl rfl rfl rfl (by decide) rfl hl.1 rfl (Nat.le_of_ble_eq_true rfl) (Nat.zero_le _) (Nat.zero_le _) dX10_mark_70 (fun H locs hP hD hS => ?_)
      have hz := Option.some.inj h
      subst hz
      exact hret H locs 73 ls (fun ty h => by cases h; rfl) (hP.sub [10, 0, 1, 2, 11, 3, 12, 4, 5, 6, 7, 8, 9] rfl) (hD.sub [10, 0, 1, 2, 11, 3, 12, 4, 5, 6, 7, 8, 9] (by decide) rfl) hS dX10_mark_73
    replace h := if_e c_16_2 h
    by_cases c_16_3 : p1 = 3
    · replace h := it_e c_16_3 h
      refine lv_tableIn (tgt := 74) hx hb dX10_mark_16 (by rw [c_16_3]; decide) (by rw [c_16_3]; decide) (by rw [c_16_3]; rfl) (by decide) ?_
      refine lv_aload_n hx hb dX10_mark_74 rfl (lv_at hl 0 rfl) ?_
      refine lv_iload_n hx hb dX10_mark_75 rfl (lv_at hl 2 rfl) ?_
      obtain ⟨z_76, hc_76, h⟩ := bd_e h
      refine q_iV (As := [.int p2]) (rest := []) (wF := [(a_speech_values, .inl (cI, 3, .inl f_speech_values)), (a_speech_left, .inl (cI, 30, .inl f_speech_left)), (a_now_wordSets, .inl (cI, 3, .inl f_now_wordSets)), (a_signs, .inr (4, [.ref a_speech, .ref a_now])), (a_lengths, .inr (1, [.ref a_signs, .ref a_lengths_length, .ref a_lengths_order, .ref a_lengths_start, .int lengths_found])), (a_lengths_length, .inl (cI, 512, .inl f_lengths_length)), (a_lengths_order, .inl (cI, 512, .inl f_lengths_order)), (a_lengths_start, .inl (cI, 34, .inl f_lengths_start)), (a_o, .inr (9, [w_o_text, .ref a_speech, .ref a_now, w_o_image0, w_o_image1, .ref a_signs, w_o_reader, .ref a_lengths, w_o_refusals, w_o_two, .int o_measured, .long z_76.2])), (a_speech, .inr (7, [.ref a_speech_values, .ref a_speech_left, .int speech_choices, .int speech_worlds])), (a_now, .inr (0, [.ref a_now_left, .ref a_now_signs, .ref a_now_wordSets, .int now_sayings, .int now_words, .int now_filled])), (a_now_left, .inl (cI, 8, .inl f_now_left)), (a_now_signs, .inl (cI, 8, .inl f_now_signs))]) hF hA hZ hK hP hD hS (c_X10_vowMark l D cI cB cZ a_o w_o_text w_o_image0 w_o_image1 (.ref a_signs) w_o_reader (.ref a_lengths) w_o_refusals w_o_two o_measured o_traced a_speech (.ref a_speech_values) (.ref a_speech_left) speech_choices speech_worlds a_now (.ref a_now_wordSets) now_sayings now_words now_filled a_now_left f_now_left a_now_signs f_now_signs p2 z_76 hc_76) rfl gX10_mark_X10_vowMark hdX10_vowMark ⟨rfl, rfl⟩ (Nat.le_of_ble_eq_true rfl) (Nat.le_of_ble_eq_true rfl) 9 0 rfl rfl [0, 1, 12, 4, 5] [2, 3, 6, 7, 8, 9, 10, 11] rfl rfl rfl rfl (by decide) rfl hl.1 rfl (Nat.le_of_ble_eq_true rfl) (Nat.zero_le _) (Nat.zero_le _) dX10_mark_76 (fun H locs hP hD hS => ?_)
      have hz := Option.some.inj h
      subst hz
      exact hret H locs 79 ls (fun ty h => by cases h; rfl) (hP.sub [8, 9, 0, 1, 10, 11, 12, 2, 3, 4, 5, 6, 7] rfl) (hD.sub [8, 9, 0, 1, 10, 11, 12, 2, 3, 4, 5, 6, 7] (by decide) rfl) hS dX10_mark_79
    replace h := if_e c_16_3 h
    by_cases c_16_4 : p1 = 4
    · replace h := it_e c_16_4 h
      refine lv_tableIn (tgt := 80) hx hb dX10_mark_16 (by rw [c_16_4]; decide) (by rw [c_16_4]; decide) (by rw [c_16_4]; rfl) (by decide) ?_
      refine lv_aload_n hx hb dX10_mark_80 rfl (lv_at hl 0 rfl) ?_
      refine lv_iload_n hx hb dX10_mark_81 rfl (lv_at hl 2 rfl) ?_
      obtain ⟨z_82, hc_82, h⟩ := bd_e h
      refine q_iV (As := [.int p2]) (rest := []) (wF := [(a_speech, .inr (7, [.ref a_speech_values, .ref a_speech_left, .int speech_choices, .int speech_worlds])), (a_speech_values, .inl (cI, 3, .inl f_speech_values)), (a_speech_left, .inl (cI, 30, .inl f_speech_left)), (a_now_wordSets, .inl (cI, 3, .inl f_now_wordSets)), (a_signs, .inr (4, [.ref a_speech, .ref a_now])), (a_lengths, .inr (1, [.ref a_signs, .ref a_lengths_length, .ref a_lengths_order, .ref a_lengths_start, .int lengths_found])), (a_lengths_length, .inl (cI, 512, .inl f_lengths_length)), (a_lengths_order, .inl (cI, 512, .inl f_lengths_order)), (a_lengths_start, .inl (cI, 34, .inl f_lengths_start)), (a_o, .inr (9, [w_o_text, .ref a_speech, .ref a_now, w_o_image0, w_o_image1, .ref a_signs, w_o_reader, .ref a_lengths, w_o_refusals, w_o_two, .int o_measured, .long z_82.2])), (a_now, .inr (0, [.ref a_now_left, .ref a_now_signs, .ref a_now_wordSets, .int now_sayings, .int now_words, .int now_filled])), (a_now_left, .inl (cI, 8, .inl f_now_left)), (a_now_signs, .inl (cI, 8, .inl f_now_signs))]) hF hA hZ hK hP hD hS (c_X10_questionMark l D cI cB cZ a_o w_o_text (.ref a_speech) w_o_image0 w_o_image1 (.ref a_signs) w_o_reader (.ref a_lengths) w_o_refusals w_o_two o_measured o_traced a_now (.ref a_now_wordSets) now_sayings now_words now_filled a_now_left f_now_left a_now_signs f_now_signs p2 z_82 hc_82) rfl gX10_mark_X10_questionMark hdX10_questionMark ⟨rfl, rfl⟩ (Nat.le_of_ble_eq_true rfl) (Nat.le_of_ble_eq_true rfl) 9 0 rfl rfl [0, 12, 4, 5] [1, 2, 3, 6, 7, 8, 9, 10, 11] rfl rfl rfl rfl (by decide) rfl hl.1 rfl (Nat.le_of_ble_eq_true rfl) (Nat.zero_le _) (Nat.zero_le _) dX10_mark_82 (fun H locs hP hD hS => ?_)
      have hz := Option.some.inj h
      subst hz
      exact hret H locs 85 ls (fun ty h => by cases h; rfl) (hP.sub [9, 0, 1, 2, 10, 11, 12, 3, 4, 5, 6, 7, 8] rfl) (hD.sub [9, 0, 1, 2, 10, 11, 12, 3, 4, 5, 6, 7, 8] (by decide) rfl) hS dX10_mark_85
    replace h := if_e c_16_4 h
    by_cases c_16_5 : p1 = 5
    · replace h := it_e c_16_5 h
      refine lv_tableIn (tgt := 86) hx hb dX10_mark_16 (by rw [c_16_5]; decide) (by rw [c_16_5]; decide) (by rw [c_16_5]; rfl) (by decide) ?_
      refine lv_aload_n hx hb dX10_mark_86 rfl (lv_at hl 0 rfl) ?_
      refine lv_iload_n hx hb dX10_mark_87 rfl (lv_at hl 2 rfl) ?_
      obtain ⟨z_88, hc_88, h⟩ := bd_e h
      refine q_iV (As := [.int p2]) (rest := []) (wF := [(a_o, .inr (9, [w_o_text, .ref a_speech, .ref a_now, w_o_image0, w_o_image1, .ref a_signs, w_o_reader, .ref a_lengths, w_o_refusals, w_o_two, .int z_88.2.1, .long z_88.2.2.1])), (a_speech, .inr (7, [.ref a_speech_values, .ref a_speech_left, .int speech_choices, .int speech_worlds])), (a_speech_values, .inl (cI, 3, .inl f_speech_values)), (a_speech_left, .inl (cI, 30, .inl f_speech_left)), (a_now, .inr (0, [.ref a_now_left, .ref a_now_signs, .ref a_now_wordSets, .int now_sayings, .int now_words, .int now_filled])), (a_now_left, .inl (cI, 8, .inl f_now_left)), (a_now_signs, .inl (cI, 8, .inl f_now_signs)), (a_now_wordSets, .inl (cI, 3, .inl f_now_wordSets)), (a_signs, .inr (4, [.ref a_speech, .ref a_now])), (a_lengths, .inr (1, [.ref a_signs, .ref a_lengths_length, .ref a_lengths_order, .ref a_lengths_start, .int z_88.2.2.2.1])), (a_lengths_length, .inl (cI, 512, .inl z_88.2.2.2.2.1)), (a_lengths_order, .inl (cI, 512, .inl z_88.2.2.2.2.2.1)), (a_lengths_start, .inl (cI, 34, .inl z_88.2.2.2.2.2.2))]) hF hA hZ hK hP hD hS (c_X10_shrugMark l D cI cB cZ a_o w_o_text w_o_image0 w_o_image1 w_o_reader w_o_refusals w_o_two o_measured o_traced a_speech speech_choices speech_worlds a_speech_values f_speech_values a_speech_left f_speech_left a_now now_sayings now_words now_filled a_now_left f_now_left a_now_signs f_now_signs a_now_wordSets f_now_wordSets a_signs a_lengths lengths_found a_lengths_length f_lengths_length a_lengths_order f_lengths_order a_lengths_start f_lengths_start p2 z_88 hc_88) rfl gX10_mark_X10_shrugMark hdX10_shrugMark ⟨rfl, rfl⟩ (Nat.le_of_ble_eq_true rfl) (Nat.le_of_ble_eq_true rfl) 9 0 rfl rfl [0, 1, 2, 3, 12, 4, 5, 6, 7, 8, 9, 10, 11] [] rfl rfl rfl rfl (by decide) rfl hl.1 rfl (Nat.le_of_ble_eq_true rfl) (Nat.zero_le _) (Nat.zero_le _) dX10_mark_88 (fun H locs hP hD hS => ?_)
      have hz := Option.some.inj h
      subst hz
      exact hret H locs 91 ls (fun ty h => by cases h; rfl) hP hD hS dX10_mark_91
    replace h := if_e c_16_5 h
    refine lv_tableOut (tgt := 92) hx hb dX10_mark_16 (q_out6 c_16_0 c_16_1 c_16_2 c_16_3 c_16_4 c_16_5) (by decide) ?_
    refine lv_ldcw (v := (-1000000)) hx hb hown k_c1 dX10_mark_92 ?_
    have hz := Option.some.inj h
    subst hz
    exact hret H locs 95 ls (fun ty h => by cases h; rfl) (hP.sub [0, 1, 2, 3, 12, 4, 5, 6, 7, 8, 9, 10, 11] rfl) (hD.sub [0, 1, 2, 3, 12, 4, 5, 6, 7, 8, 9, 10, 11] (by decide) rfl) hS dX10_mark_95
  · replace h := it_e c_8 h
    refine lv_ldcw (v := (-1000000)) hx hb hown k_c1 dX10_mark_11 ?_
    have hz := Option.some.inj h
    subst hz
    exact hret H locs 14 ls (fun ty h => by cases h; rfl) (hP.sub [0, 1, 2, 3, 12, 4, 5, 6, 7, 8, 9, 10, 11] rfl) (hD.sub [0, 1, 2, 3, 12, 4, 5, 6, 7, 8, 9, 10, 11] (by decide) rfl) hS dX10_mark_14
abbrev rmX10_imageOf : Room := { frames := 0, cells := 0, slots := 0, locals := 0 }
theorem hdX10_imageOf : yX10_imageOf.cls = RX10 ∧ yX10_imageOf.cls ≠ "java/lang/invoke/MethodHandle" ∧ yX10_imageOf.cls ≠ "java/lang/invoke/VarHandle" ∧ (parseMethodDescriptor yX10_imageOf.desc).map (fun d => d.parameters.length) = some 1 := by decide +kernel
set_option maxRecDepth 100000 in
set_option maxHeartbeats 4000000 in
theorem c_X10_imageOf_0 (l : Launch) (D : va_G) (cI cB cZ : ClassId) (a_o : Nat) (w_o_text : Value) (w_o_speech : Value) (w_o_now : Value) (w_o_signs : Value) (w_o_reader : Value) (w_o_lengths : Value) (w_o_refusals : Value) (w_o_two : Value) (o_measured : Int32) (o_traced : Int64) (a_image0 : Nat) (w_image0_left : Value) (w_image0_signs : Value) (w_image0_wordSets : Value) (image0_sayings : Int32) (image0_words : Int32) (image0_filled : Int32) (a_image1 : Nat) (w_image1_left : Value) (w_image1_signs : Value) (w_image1_wordSets : Value) (image1_sayings : Int32) (image1_words : Int32) (image1_filled : Int32) (p1 : Int32) (hv : p1 = 0) : KR l yX10_imageOf wsX10_imageOf rmX10_imageOf D [(cI, .int), (cB, .byte), (cZ, .boolean)] [.ref a_o, .int p1] [(a_o, .inr (9, [w_o_text, w_o_speech, w_o_now, .ref a_image0, .ref a_image1, w_o_signs, w_o_reader, w_o_lengths, w_o_refusals, w_o_two, .int o_measured, .long o_traced])), (a_image0, .inr (0, [w_image0_left, w_image0_signs, w_image0_wordSets, .int image0_sayings, .int image0_words, .int image0_filled])), (a_image1, .inr (0, [w_image1_left, w_image1_signs, w_image1_wordSets, .int image1_sayings, .int image1_words, .int image1_filled]))] [(a_o, .inr (9, [w_o_text, w_o_speech, w_o_now, .ref a_image0, .ref a_image1, w_o_signs, w_o_reader, w_o_lengths, w_o_refusals, w_o_two, .int o_measured, .long o_traced])), (a_image0, .inr (0, [w_image0_left, w_image0_signs, w_image0_wordSets, .int image0_sayings, .int image0_words, .int image0_filled])), (a_image1, .inr (0, [w_image1_left, w_image1_signs, w_image1_wordSets, .int image1_sayings, .int image1_words, .int image1_filled]))] a_image0 := by
  refine KR_of (own := RX10) (cc := cX10_imageOf) (maxL := 2) (by decide) rfl rfl (Nat.le_of_ble_eq_true rfl) (Or.inl ⟨_, rfl⟩) ?_
  intro p e s m args below meth c A Q hx hb hml hown hts hA hZ hK hret H locs ls hP hD hS hl
  have hl : lv_has ls 2 [(0, .ref a_o), (1, .int p1)] := hl
  have hF : CallFix p m c cX10_imageOf 2 s args wsX10_imageOf RX10 := ⟨hx, hb, hml, hown, hts⟩
  have u_X10 : ∀ w ∈ u_ws RX10 TX10 12, w ∈ wsX10_imageOf := by decide +kernel
  have k_f0 := hts (.fieldLink RX10 30 "NoWordNo" "image0" "LNoWordNo$Kept;") (by decide +kernel)
  refine lv_iload_n hx hb dX10_imageOf_0 rfl (lv_at hl 1 rfl) ?_
  refine lv_if_ne (tgt := 11) hx hb dX10_imageOf_1 (by decide) (fun c_1 => ?_) (fun c_1 => ?_)
  · exact absurd hv c_1
  · skip
    refine lv_aload_n hx hb dX10_imageOf_4 rfl (lv_at hl 0 rfl) ?_
    refine va_get (D := D) (ci := 9) (v := .ref a_image0) (C := RX10) (T := TX10) (N := 12) hx hb hts u_X10 hown hK hP 0 rfl rfl 3 (by decide) k_f0 (fun _ h9 => h9) rfl dX10_imageOf_5 ?_
    refine lv_goto (tgt := 15) hx hb dX10_imageOf_8 (by decide) ?_
    exact hret H locs 15 ls hP hD hS dX10_imageOf_15
set_option maxRecDepth 100000 in
set_option maxHeartbeats 4000000 in
theorem c_X10_imageOf_1 (l : Launch) (D : va_G) (cI cB cZ : ClassId) (a_o : Nat) (w_o_text : Value) (w_o_speech : Value) (w_o_now : Value) (w_o_signs : Value) (w_o_reader : Value) (w_o_lengths : Value) (w_o_refusals : Value) (w_o_two : Value) (o_measured : Int32) (o_traced : Int64) (a_image0 : Nat) (w_image0_left : Value) (w_image0_signs : Value) (w_image0_wordSets : Value) (image0_sayings : Int32) (image0_words : Int32) (image0_filled : Int32) (a_image1 : Nat) (w_image1_left : Value) (w_image1_signs : Value) (w_image1_wordSets : Value) (image1_sayings : Int32) (image1_words : Int32) (image1_filled : Int32) (p1 : Int32) (hv : ¬ p1 = 0) : KR l yX10_imageOf wsX10_imageOf rmX10_imageOf D [(cI, .int), (cB, .byte), (cZ, .boolean)] [.ref a_o, .int p1] [(a_o, .inr (9, [w_o_text, w_o_speech, w_o_now, .ref a_image0, .ref a_image1, w_o_signs, w_o_reader, w_o_lengths, w_o_refusals, w_o_two, .int o_measured, .long o_traced])), (a_image0, .inr (0, [w_image0_left, w_image0_signs, w_image0_wordSets, .int image0_sayings, .int image0_words, .int image0_filled])), (a_image1, .inr (0, [w_image1_left, w_image1_signs, w_image1_wordSets, .int image1_sayings, .int image1_words, .int image1_filled]))] [(a_o, .inr (9, [w_o_text, w_o_speech, w_o_now, .ref a_image0, .ref a_image1, w_o_signs, w_o_reader, w_o_lengths, w_o_refusals, w_o_two, .int o_measured, .long o_traced])), (a_image0, .inr (0, [w_image0_left, w_image0_signs, w_image0_wordSets, .int image0_sayings, .int image0_words, .int image0_filled])), (a_image1, .inr (0, [w_image1_left, w_image1_signs, w_image1_wordSets, .int image1_sayings, .int image1_words, .int image1_filled]))] a_image1 := by
  refine KR_of (own := RX10) (cc := cX10_imageOf) (maxL := 2) (by decide) rfl rfl (Nat.le_of_ble_eq_true rfl) (Or.inl ⟨_, rfl⟩) ?_
  intro p e s m args below meth c A Q hx hb hml hown hts hA hZ hK hret H locs ls hP hD hS hl
  have hl : lv_has ls 2 [(0, .ref a_o), (1, .int p1)] := hl
  have hF : CallFix p m c cX10_imageOf 2 s args wsX10_imageOf RX10 := ⟨hx, hb, hml, hown, hts⟩
  have u_X10 : ∀ w ∈ u_ws RX10 TX10 12, w ∈ wsX10_imageOf := by decide +kernel
  have k_f0 := hts (.fieldLink RX10 33 "NoWordNo" "image1" "LNoWordNo$Kept;") (by decide +kernel)
  refine lv_iload_n hx hb dX10_imageOf_0 rfl (lv_at hl 1 rfl) ?_
  refine lv_if_ne (tgt := 11) hx hb dX10_imageOf_1 (by decide) (fun c_1 => ?_) (fun c_1 => ?_)
  · skip
    refine lv_aload_n hx hb dX10_imageOf_11 rfl (lv_at hl 0 rfl) ?_
    refine va_get (D := D) (ci := 9) (v := .ref a_image1) (C := RX10) (T := TX10) (N := 12) hx hb hts u_X10 hown hK hP 0 rfl rfl 4 (by decide) k_f0 (fun _ h9 => h9) rfl dX10_imageOf_12 ?_
    exact hret H locs 15 ls hP hD hS dX10_imageOf_15
  · exact absurd c_1 hv
abbrev rmX0_copy : Room := { frames := 1, cells := 0, slots := 0, locals := 22 }
theorem hdX0_copy : yX0_copy.cls = RX0 ∧ yX0_copy.cls ≠ "java/lang/invoke/MethodHandle" ∧ yX0_copy.cls ≠ "java/lang/invoke/VarHandle" ∧ (parseMethodDescriptor yX0_copy.desc).map (fun d => d.parameters.length) = some 1 := by decide +kernel
set_option maxRecDepth 100000 in
set_option maxHeartbeats 4000000 in
theorem c_X0_copy (l : Launch) (D : va_G) (cI cB cZ : ClassId) (a_o : Nat) (o_sayings : Int32) (o_words : Int32) (o_filled : Int32) (a_left : Nat) (f_left : Nat → Int32) (a_signs : Nat) (f_signs : Nat → Int32) (a_wordSets : Nat) (f_wordSets : Nat → Int32) (a_p1 : Nat) (p1_sayings : Int32) (p1_words : Int32) (p1_filled : Int32) (a_p1_left : Nat) (f_p1_left : Nat → Int32) (a_p1_signs : Nat) (f_p1_signs : Nat → Int32) (a_p1_wordSets : Nat) (f_p1_wordSets : Nat → Int32) (z : Int32 × Int32 × Int32 × (Nat → Int32) × (Nat → Int32) × (Nat → Int32)) (h : P_X0_copy o_sayings o_words o_filled f_left f_signs f_wordSets p1_sayings p1_words f_p1_left f_p1_signs f_p1_wordSets = some z) : KV l yX0_copy wsX0_copy rmX0_copy D [(cI, .int), (cB, .byte), (cZ, .boolean)] [.ref a_o, .ref a_p1] [(a_o, .inr (0, [.ref a_left, .ref a_signs, .ref a_wordSets, .int o_sayings, .int o_words, .int o_filled])), (a_left, .inl (cI, 8, .inl f_left)), (a_signs, .inl (cI, 8, .inl f_signs)), (a_wordSets, .inl (cI, 3, .inl f_wordSets)), (a_p1, .inr (0, [.ref a_p1_left, .ref a_p1_signs, .ref a_p1_wordSets, .int p1_sayings, .int p1_words, .int p1_filled])), (a_p1_left, .inl (cI, 8, .inl f_p1_left)), (a_p1_signs, .inl (cI, 8, .inl f_p1_signs)), (a_p1_wordSets, .inl (cI, 3, .inl f_p1_wordSets))] [(a_o, .inr (0, [.ref a_left, .ref a_signs, .ref a_wordSets, .int z.1, .int z.2.1, .int z.2.2.1])), (a_left, .inl (cI, 8, .inl z.2.2.2.1)), (a_signs, .inl (cI, 8, .inl z.2.2.2.2.1)), (a_wordSets, .inl (cI, 3, .inl z.2.2.2.2.2)), (a_p1, .inr (0, [.ref a_p1_left, .ref a_p1_signs, .ref a_p1_wordSets, .int p1_sayings, .int p1_words, .int p1_filled])), (a_p1_left, .inl (cI, 8, .inl f_p1_left)), (a_p1_signs, .inl (cI, 8, .inl f_p1_signs)), (a_p1_wordSets, .inl (cI, 3, .inl f_p1_wordSets))] := by
  refine KV_of (own := RX0) (cc := cX0_copy) (maxL := 3) (by decide) rfl rfl (Nat.le_of_ble_eq_true rfl) ?_
  intro p e s m args below meth c A Q hx hb hml hown hts hA hZ hK hret H locs ls hP hD hS hl
  have hl : lv_has ls 3 [(0, .ref a_o), (1, .ref a_p1)] := hl
  have hF : CallFix p m c cX0_copy 3 s args wsX0_copy RX0 := ⟨hx, hb, hml, hown, hts⟩
  have u_X0 : ∀ w ∈ u_ws RX0 TX0 6, w ∈ wsX0_copy := by decide +kernel
  have k_f0 := hts (.fieldLink RX0 19 "NoWordNo$Kept" "sayings" "I") (by decide +kernel)
  have k_f1 := hts (.fieldLink RX0 23 "NoWordNo$Kept" "words" "I") (by decide +kernel)
  have k_f2 := hts (.fieldLink RX0 26 "NoWordNo$Kept" "filled" "Z") (by decide +kernel)
  have k_f3 := hts (.fieldLink RX0 16 "NoWordNo$Kept" "wordSets" "[I") (by decide +kernel)
  have k_f4 := hts (.fieldLink RX0 9 "NoWordNo$Kept" "left" "[I") (by decide +kernel)
  have k_f5 := hts (.fieldLink RX0 13 "NoWordNo$Kept" "signs" "[I") (by decide +kernel)
  unfold P_X0_copy at h
  refine lv_iconst (v := 0) hx hb dX0_copy_0 ic_0 ?_
  refine lv_istore_n (lv' := [(2, .int 0), (0, .ref a_o), (1, .ref a_p1)]) hx hb dX0_copy_1 rfl hl (by decide) rfl (fun ls hl => ?_)
  obtain ⟨k46, hk46, h⟩ := jn_e h
  have Jk46 : ∀ (x46_f_left : (Nat → Int32)) (x46_f_signs : (Nat → Int32)) (H : Heap) (locs : List Loc) (ls : Array Slot), k46 x46_f_left x46_f_signs = some z → va_P D vwCl [(a_o, .inr (0, [.ref a_left, .ref a_signs, .ref a_wordSets, .int o_sayings, .int o_words, .int o_filled])), (a_left, .inl (cI, 8, .inl x46_f_left)), (a_signs, .inl (cI, 8, .inl x46_f_signs)), (a_wordSets, .inl (cI, 3, .inl f_wordSets)), (a_p1, .inr (0, [.ref a_p1_left, .ref a_p1_signs, .ref a_p1_wordSets, .int p1_sayings, .int p1_words, .int p1_filled])), (a_p1_left, .inl (cI, 8, .inl f_p1_left)), (a_p1_signs, .inl (cI, 8, .inl f_p1_signs)), (a_p1_wordSets, .inl (cI, 3, .inl f_p1_wordSets))] H → va_D A [(a_o, .inr (0, [.ref a_left, .ref a_signs, .ref a_wordSets, .int o_sayings, .int o_words, .int o_filled])), (a_left, .inl (cI, 8, .inl x46_f_left)), (a_signs, .inl (cI, 8, .inl x46_f_signs)), (a_wordSets, .inl (cI, 3, .inl f_wordSets)), (a_p1, .inr (0, [.ref a_p1_left, .ref a_p1_signs, .ref a_p1_wordSets, .int p1_sayings, .int p1_words, .int p1_filled])), (a_p1_left, .inl (cI, 8, .inl f_p1_left)), (a_p1_signs, .inl (cI, 8, .inl f_p1_signs)), (a_p1_wordSets, .inl (cI, 3, .inl f_p1_wordSets))] → va_S A s.heap H locs → lv_has ls 3 [(0, .ref a_o), (1, .ref a_p1)] → W p l e rmX0_copy s m args below meth c H locs 0 0 Q (F0 m 46 ls []) := by
    intro x46_f_left x46_f_signs H locs ls h hP hD hS hl
    rw [hk46] at h
    refine lv_iconst (v := 0) hx hb dX0_copy_46 ic_0 ?_
    refine lv_istore_n (lv' := [(2, .int 0), (0, .ref a_o), (1, .ref a_p1)]) hx hb dX0_copy_47 rfl hl (by decide) rfl (fun ls hl => ?_)
    obtain ⟨k75, hk75, h⟩ := jn_e h
    have Jk75 : ∀ (x75_f_wordSets : (Nat → Int32)) (H : Heap) (locs : List Loc) (ls : Array Slot), k75 x75_f_wordSets = some z → va_P D vwCl [(a_o, .inr (0, [.ref a_left, .ref a_signs, .ref a_wordSets, .int o_sayings, .int o_words, .int o_filled])), (a_left, .inl (cI, 8, .inl x46_f_left)), (a_signs, .inl (cI, 8, .inl x46_f_signs)), (a_wordSets, .inl (cI, 3, .inl x75_f_wordSets)), (a_p1, .inr (0, [.ref a_p1_left, .ref a_p1_signs, .ref a_p1_wordSets, .int p1_sayings, .int p1_words, .int p1_filled])), (a_p1_left, .inl (cI, 8, .inl f_p1_left)), (a_p1_signs, .inl (cI, 8, .inl f_p1_signs)), (a_p1_wordSets, .inl (cI, 3, .inl f_p1_wordSets))] H → va_D A [(a_o, .inr (0, [.ref a_left, .ref a_signs, .ref a_wordSets, .int o_sayings, .int o_words, .int o_filled])), (a_left, .inl (cI, 8, .inl x46_f_left)), (a_signs, .inl (cI, 8, .inl x46_f_signs)), (a_wordSets, .inl (cI, 3, .inl x75_f_wordSets)), (a_p1, .inr (0, [.ref a_p1_left, .ref a_p1_signs, .ref a_p1_wordSets, .int p1_sayings, .int p1_words, .int p1_filled])), (a_p1_left, .inl (cI, 8, .inl f_p1_left)), (a_p1_signs, .inl (cI, 8, .inl f_p1_signs)), (a_p1_wordSets, .inl (cI, 3, .inl f_p1_wordSets))] → va_S A s.heap H locs → lv_has ls 3 [(0, .ref a_o), (1, .ref a_p1)] → W p l e rmX0_copy s m args below meth c H locs 0 0 Q (F0 m 75 ls []) := by
      intro x75_f_wordSets H locs ls h hP hD hS hl
      rw [hk75] at h
      refine lv_aload_n hx hb dX0_copy_75 rfl (lv_at hl 0 rfl) ?_
      refine lv_aload_n hx hb dX0_copy_76 rfl (lv_at hl 1 rfl) ?_
      refine va_get (D := D) (ci := 0) (v := .int p1_sayings) (C := RX0) (T := TX0) (N := 6) hx hb hts u_X0 hown hK hP 4 rfl rfl 3 (by decide) k_f0 (fun _ h9 => h9) rfl dX0_copy_77 ?_
      refine va_put (D := D) (ci := 0) (v := .int p1_sayings) (ty := .int) (C := RX0) (T := TX0) (N := 6) hx hb hts u_X0 tyX0 tyX0_ok nmX0 hown hK hP hD hS 0 rfl rfl 3 (by decide) k_f0 (fun _ h9 => h9) rfl (tyX0_ok 3 (by decide)) rfl rfl (Nat.le_of_ble_eq_true rfl) dX0_copy_80 (fun H locs hP hD hS => ?_)
      have hP : va_P D vwCl [(a_o, .inr (0, [.ref a_left, .ref a_signs, .ref a_wordSets, .int p1_sayings, .int o_words, .int o_filled])), (a_left, .inl (cI, 8, .inl x46_f_left)), (a_signs, .inl (cI, 8, .inl x46_f_signs)), (a_wordSets, .inl (cI, 3, .inl x75_f_wordSets)), (a_p1, .inr (0, [.ref a_p1_left, .ref a_p1_signs, .ref a_p1_wordSets, .int p1_sayings, .int p1_words, .int p1_filled])), (a_p1_left, .inl (cI, 8, .inl f_p1_left)), (a_p1_signs, .inl (cI, 8, .inl f_p1_signs)), (a_p1_wordSets, .inl (cI, 3, .inl f_p1_wordSets))] H := hP
      have hD : va_D A [(a_o, .inr (0, [.ref a_left, .ref a_signs, .ref a_wordSets, .int p1_sayings, .int o_words, .int o_filled])), (a_left, .inl (cI, 8, .inl x46_f_left)), (a_signs, .inl (cI, 8, .inl x46_f_signs)), (a_wordSets, .inl (cI, 3, .inl x75_f_wordSets)), (a_p1, .inr (0, [.ref a_p1_left, .ref a_p1_signs, .ref a_p1_wordSets, .int p1_sayings, .int p1_words, .int p1_filled])), (a_p1_left, .inl (cI, 8, .inl f_p1_left)), (a_p1_signs, .inl (cI, 8, .inl f_p1_signs)), (a_p1_wordSets, .inl (cI, 3, .inl f_p1_wordSets))] := hD
      refine lv_aload_n hx hb dX0_copy_83 rfl (lv_at hl 0 rfl) ?_
      refine lv_aload_n hx hb dX0_copy_84 rfl (lv_at hl 1 rfl) ?_
      refine va_get (D := D) (ci := 0) (v := .int p1_words) (C := RX0) (T := TX0) (N := 6) hx hb hts u_X0 hown hK hP 4 rfl rfl 4 (by decide) k_f1 (fun _ h9 => h9) rfl dX0_copy_85 ?_
      refine va_put (D := D) (ci := 0) (v := .int p1_words) (ty := .int) (C := RX0) (T := TX0) (N := 6) hx hb hts u_X0 tyX0 tyX0_ok nmX0 hown hK hP hD hS 0 rfl rfl 4 (by decide) k_f1 (fun _ h9 => h9) rfl (tyX0_ok 4 (by decide)) rfl rfl (Nat.le_of_ble_eq_true rfl) dX0_copy_88 (fun H locs hP hD hS => ?_)
      have hP : va_P D vwCl [(a_o, .inr (0, [.ref a_left, .ref a_signs, .ref a_wordSets, .int p1_sayings, .int p1_words, .int o_filled])), (a_left, .inl (cI, 8, .inl x46_f_left)), (a_signs, .inl (cI, 8, .inl x46_f_signs)), (a_wordSets, .inl (cI, 3, .inl x75_f_wordSets)), (a_p1, .inr (0, [.ref a_p1_left, .ref a_p1_signs, .ref a_p1_wordSets, .int p1_sayings, .int p1_words, .int p1_filled])), (a_p1_left, .inl (cI, 8, .inl f_p1_left)), (a_p1_signs, .inl (cI, 8, .inl f_p1_signs)), (a_p1_wordSets, .inl (cI, 3, .inl f_p1_wordSets))] H := hP
      have hD : va_D A [(a_o, .inr (0, [.ref a_left, .ref a_signs, .ref a_wordSets, .int p1_sayings, .int p1_words, .int o_filled])), (a_left, .inl (cI, 8, .inl x46_f_left)), (a_signs, .inl (cI, 8, .inl x46_f_signs)), (a_wordSets, .inl (cI, 3, .inl x75_f_wordSets)), (a_p1, .inr (0, [.ref a_p1_left, .ref a_p1_signs, .ref a_p1_wordSets, .int p1_sayings, .int p1_words, .int p1_filled])), (a_p1_left, .inl (cI, 8, .inl f_p1_left)), (a_p1_signs, .inl (cI, 8, .inl f_p1_signs)), (a_p1_wordSets, .inl (cI, 3, .inl f_p1_wordSets))] := hD
      refine lv_aload_n hx hb dX0_copy_91 rfl (lv_at hl 0 rfl) ?_
      refine lv_iconst (v := 1) hx hb dX0_copy_92 ic_1 ?_
      refine va_put (D := D) (ci := 0) (v := .int 1) (ty := .boolean) (C := RX0) (T := TX0) (N := 6) hx hb hts u_X0 tyX0 tyX0_ok nmX0 hown hK hP hD hS 0 rfl rfl 5 (by decide) k_f2 (fun _ h9 => h9) rfl (tyX0_ok 5 (by decide)) rfl rfl (Nat.le_of_ble_eq_true rfl) dX0_copy_93 (fun H locs hP hD hS => ?_)
      have hP : va_P D vwCl [(a_o, .inr (0, [.ref a_left, .ref a_signs, .ref a_wordSets, .int p1_sayings, .int p1_words, .int 1])), (a_left, .inl (cI, 8, .inl x46_f_left)), (a_signs, .inl (cI, 8, .inl x46_f_signs)), (a_wordSets, .inl (cI, 3, .inl x75_f_wordSets)), (a_p1, .inr (0, [.ref a_p1_left, .ref a_p1_signs, .ref a_p1_wordSets, .int p1_sayings, .int p1_words, .int p1_filled])), (a_p1_left, .inl (cI, 8, .inl f_p1_left)), (a_p1_signs, .inl (cI, 8, .inl f_p1_signs)), (a_p1_wordSets, .inl (cI, 3, .inl f_p1_wordSets))] H := hP
      have hD : va_D A [(a_o, .inr (0, [.ref a_left, .ref a_signs, .ref a_wordSets, .int p1_sayings, .int p1_words, .int 1])), (a_left, .inl (cI, 8, .inl x46_f_left)), (a_signs, .inl (cI, 8, .inl x46_f_signs)), (a_wordSets, .inl (cI, 3, .inl x75_f_wordSets)), (a_p1, .inr (0, [.ref a_p1_left, .ref a_p1_signs, .ref a_p1_wordSets, .int p1_sayings, .int p1_words, .int p1_filled])), (a_p1_left, .inl (cI, 8, .inl f_p1_left)), (a_p1_signs, .inl (cI, 8, .inl f_p1_signs)), (a_p1_wordSets, .inl (cI, 3, .inl f_p1_wordSets))] := hD
      have hz := Option.some.inj h
      subst hz
      exact hret H locs 96 ls hP hD hS dX0_copy_96
    have L48 : ∀ (n : Nat), ∀ (x48_l2 : Int32) (x48_f_wordSets : (Nat → Int32)) (H : Heap) (locs : List Loc) (ls : Array Slot), P_X0_copy_48 f_p1_wordSets k75 n x48_l2 x48_f_wordSets = some z → va_P D vwCl [(a_o, .inr (0, [.ref a_left, .ref a_signs, .ref a_wordSets, .int o_sayings, .int o_words, .int o_filled])), (a_left, .inl (cI, 8, .inl x46_f_left)), (a_signs, .inl (cI, 8, .inl x46_f_signs)), (a_wordSets, .inl (cI, 3, .inl x48_f_wordSets)), (a_p1, .inr (0, [.ref a_p1_left, .ref a_p1_signs, .ref a_p1_wordSets, .int p1_sayings, .int p1_words, .int p1_filled])), (a_p1_left, .inl (cI, 8, .inl f_p1_left)), (a_p1_signs, .inl (cI, 8, .inl f_p1_signs)), (a_p1_wordSets, .inl (cI, 3, .inl f_p1_wordSets))] H → va_D A [(a_o, .inr (0, [.ref a_left, .ref a_signs, .ref a_wordSets, .int o_sayings, .int o_words, .int o_filled])), (a_left, .inl (cI, 8, .inl x46_f_left)), (a_signs, .inl (cI, 8, .inl x46_f_signs)), (a_wordSets, .inl (cI, 3, .inl x48_f_wordSets)), (a_p1, .inr (0, [.ref a_p1_left, .ref a_p1_signs, .ref a_p1_wordSets, .int p1_sayings, .int p1_words, .int p1_filled])), (a_p1_left, .inl (cI, 8, .inl f_p1_left)), (a_p1_signs, .inl (cI, 8, .inl f_p1_signs)), (a_p1_wordSets, .inl (cI, 3, .inl f_p1_wordSets))] → va_S A s.heap H locs → lv_has ls 3 [(0, .ref a_o), (1, .ref a_p1), (2, .int x48_l2)] → W p l e rmX0_copy s m args below meth c H locs 0 0 Q (F0 m 48 ls []) := by
      intro n
      induction n with
      | zero =>
        intro x48_l2 x48_f_wordSets H locs ls h
        exact no_e h
      | succ n ih48 =>
        intro x48_l2 x48_f_wordSets H locs ls h hP hD hS hl
        rw [P_X0_copy_48] at h
        refine lv_iload_n hx hb dX0_copy_48 rfl (lv_at hl 2 rfl) ?_
        refine lv_iconst (v := 3) hx hb dX0_copy_49 ic_3 ?_
        refine lv_icmp_ge (tgt := 75) hx hb dX0_copy_50 (by decide) (fun c_50 => ?_) (fun c_50 => ?_)
        · replace h := it_e c_50 h
          exact Jk75 x48_f_wordSets H locs ls h hP hD hS (lv_sub hl [0, 1] rfl)
        · replace h := if_e c_50 h
          refine lv_aload_n hx hb dX0_copy_53 rfl (lv_at hl 0 rfl) ?_
          refine va_get (D := D) (ci := 0) (v := .ref a_wordSets) (C := RX0) (T := TX0) (N := 6) hx hb hts u_X0 hown hK hP 0 rfl rfl 2 (by decide) k_f3 (fun _ h9 => h9) rfl dX0_copy_54 ?_
          refine lv_iload_n hx hb dX0_copy_57 rfl (lv_at hl 2 rfl) ?_
          refine lv_aload_n hx hb dX0_copy_58 rfl (lv_at hl 1 rfl) ?_
          refine va_get (D := D) (ci := 0) (v := .ref a_p1_wordSets) (C := RX0) (T := TX0) (N := 6) hx hb hts u_X0 hown hK hP 4 rfl rfl 2 (by decide) k_f3 (fun _ h9 => h9) rfl dX0_copy_59 ?_
          refine lv_iload_n hx hb dX0_copy_62 rfl (lv_at hl 2 rfl) ?_
          obtain ⟨z_63, hc_63, h⟩ := bd_e h
          refine q_iS (As := [.ref a_p1_wordSets, .int x48_l2]) (rest := [.int x48_l2, .ref a_wordSets]) (wF := [(a_o, .inr (0, [.ref a_left, .ref a_signs, .ref a_wordSets, .int o_sayings, .int o_words, .int o_filled])), (a_left, .inl (cI, 8, .inl x46_f_left)), (a_signs, .inl (cI, 8, .inl x46_f_signs)), (a_wordSets, .inl (cI, 3, .inl x48_f_wordSets)), (a_p1, .inr (0, [.ref a_p1_left, .ref a_p1_signs, .ref a_p1_wordSets, .int p1_sayings, .int p1_words, .int p1_filled])), (a_p1_left, .inl (cI, 8, .inl f_p1_left)), (a_p1_signs, .inl (cI, 8, .inl f_p1_signs)), (a_p1_wordSets, .inl (cI, 3, .inl f_p1_wordSets))]) hF hA hZ hK hP hD hS (c_X4_at l D cI cB cZ a_p1_wordSets 3 f_p1_wordSets x48_l2 z_63 hc_63) rfl gX0_copy_X4_at hdX4_at ⟨rfl, rfl⟩ (Nat.le_of_ble_eq_true rfl) (Nat.le_of_ble_eq_true rfl) [7] [0, 1, 2, 3, 4, 5, 6] rfl rfl rfl rfl (by decide) rfl hl.1 rfl (Nat.le_of_ble_eq_true rfl) (Nat.zero_le _) (Nat.zero_le _) dX0_copy_63 (fun H locs hP hD hS => ?_)
          obtain ⟨z_66, hc_66, h⟩ := bd_e h
          refine q_vS (As := [.ref a_wordSets, .int x48_l2, .int z_63]) (rest := []) (wF := [(a_o, .inr (0, [.ref a_left, .ref a_signs, .ref a_wordSets, .int o_sayings, .int o_words, .int o_filled])), (a_left, .inl (cI, 8, .inl x46_f_left)), (a_signs, .inl (cI, 8, .inl x46_f_signs)), (a_p1, .inr (0, [.ref a_p1_left, .ref a_p1_signs, .ref a_p1_wordSets, .int p1_sayings, .int p1_words, .int p1_filled])), (a_p1_left, .inl (cI, 8, .inl f_p1_left)), (a_p1_signs, .inl (cI, 8, .inl f_p1_signs)), (a_p1_wordSets, .inl (cI, 3, .inl f_p1_wordSets)), (a_wordSets, .inl (cI, 3, .inl z_66))]) hF hA hZ hK hP hD hS (c_X4_put l D cI cB cZ a_wordSets 3 x48_f_wordSets x48_l2 z_63 z_66 hc_66) rfl gX0_copy_X4_put hdX4_put ⟨rfl, rfl⟩ (Nat.le_of_ble_eq_true rfl) (Nat.le_of_ble_eq_true rfl) [3] [0, 1, 2, 4, 5, 6, 7] rfl rfl rfl rfl (by decide) rfl hl.1 rfl (Nat.le_of_ble_eq_true rfl) (Nat.zero_le _) (Nat.zero_le _) dX0_copy_66 (fun H locs hP hD hS => ?_)
          refine lv_iinc (v := x48_l2 + 1) (lv' := [(2, .int (x48_l2 + 1)), (0, .ref a_o), (1, .ref a_p1)]) hx hb dX0_copy_69 hl (k := 2) rfl (congrArg (x48_l2 + ·) ic_1) (by decide) rfl (fun ls hl => ?_)
          refine lv_goto (tgt := 48) hx hb dX0_copy_72 (by decide) ?_
          exact ih48 (x48_l2 + 1) z_66 H locs ls h (hP.sub [0, 1, 2, 7, 3, 4, 5, 6] rfl) (hD.sub [0, 1, 2, 7, 3, 4, 5, 6] (by decide) rfl) hS (lv_sub hl [1, 2, 0] rfl)
    exact L48 QF 0 f_wordSets H locs ls h hP hD hS (lv_sub hl [1, 2, 0] rfl)
  have L2 : ∀ (n : Nat), ∀ (x2_l2 : Int32) (x2_f_left : (Nat → Int32)) (x2_f_signs : (Nat → Int32)) (H : Heap) (locs : List Loc) (ls : Array Slot), P_X0_copy_2 f_p1_left f_p1_signs k46 n x2_l2 x2_f_left x2_f_signs = some z → va_P D vwCl [(a_o, .inr (0, [.ref a_left, .ref a_signs, .ref a_wordSets, .int o_sayings, .int o_words, .int o_filled])), (a_left, .inl (cI, 8, .inl x2_f_left)), (a_signs, .inl (cI, 8, .inl x2_f_signs)), (a_wordSets, .inl (cI, 3, .inl f_wordSets)), (a_p1, .inr (0, [.ref a_p1_left, .ref a_p1_signs, .ref a_p1_wordSets, .int p1_sayings, .int p1_words, .int p1_filled])), (a_p1_left, .inl (cI, 8, .inl f_p1_left)), (a_p1_signs, .inl (cI, 8, .inl f_p1_signs)), (a_p1_wordSets, .inl (cI, 3, .inl f_p1_wordSets))] H → va_D A [(a_o, .inr (0, [.ref a_left, .ref a_signs, .ref a_wordSets, .int o_sayings, .int o_words, .int o_filled])), (a_left, .inl (cI, 8, .inl x2_f_left)), (a_signs, .inl (cI, 8, .inl x2_f_signs)), (a_wordSets, .inl (cI, 3, .inl f_wordSets)), (a_p1, .inr (0, [.ref a_p1_left, .ref a_p1_signs, .ref a_p1_wordSets, .int p1_sayings, .int p1_words, .int p1_filled])), (a_p1_left, .inl (cI, 8, .inl f_p1_left)), (a_p1_signs, .inl (cI, 8, .inl f_p1_signs)), (a_p1_wordSets, .inl (cI, 3, .inl f_p1_wordSets))] → va_S A s.heap H locs → lv_has ls 3 [(0, .ref a_o), (1, .ref a_p1), (2, .int x2_l2)] → W p l e rmX0_copy s m args below meth c H locs 0 0 Q (F0 m 2 ls []) := by
    intro n
    induction n with
    | zero =>
      intro x2_l2 x2_f_left x2_f_signs H locs ls h
      exact no_e h
    | succ n ih2 =>
      intro x2_l2 x2_f_left x2_f_signs H locs ls h hP hD hS hl
      rw [P_X0_copy_2] at h
      refine lv_iload_n hx hb dX0_copy_2 rfl (lv_at hl 2 rfl) ?_
      refine lv_bipush (v := 8) hx hb dX0_copy_3 bc_8 ?_
      refine lv_icmp_ge (tgt := 46) hx hb dX0_copy_5 (by decide) (fun c_5 => ?_) (fun c_5 => ?_)
      · replace h := it_e c_5 h
        exact Jk46 x2_f_left x2_f_signs H locs ls h hP hD hS (lv_sub hl [0, 1] rfl)
      · replace h := if_e c_5 h
        refine lv_aload_n hx hb dX0_copy_8 rfl (lv_at hl 0 rfl) ?_
        refine va_get (D := D) (ci := 0) (v := .ref a_left) (C := RX0) (T := TX0) (N := 6) hx hb hts u_X0 hown hK hP 0 rfl rfl 0 (by decide) k_f4 (fun _ h9 => h9) rfl dX0_copy_9 ?_
        refine lv_iload_n hx hb dX0_copy_12 rfl (lv_at hl 2 rfl) ?_
        refine lv_aload_n hx hb dX0_copy_13 rfl (lv_at hl 1 rfl) ?_
        refine va_get (D := D) (ci := 0) (v := .ref a_p1_left) (C := RX0) (T := TX0) (N := 6) hx hb hts u_X0 hown hK hP 4 rfl rfl 0 (by decide) k_f4 (fun _ h9 => h9) rfl dX0_copy_14 ?_
        refine lv_iload_n hx hb dX0_copy_17 rfl (lv_at hl 2 rfl) ?_
        obtain ⟨z_18, hc_18, h⟩ := bd_e h
        refine q_iS (As := [.ref a_p1_left, .int x2_l2]) (rest := [.int x2_l2, .ref a_left]) (wF := [(a_o, .inr (0, [.ref a_left, .ref a_signs, .ref a_wordSets, .int o_sayings, .int o_words, .int o_filled])), (a_left, .inl (cI, 8, .inl x2_f_left)), (a_signs, .inl (cI, 8, .inl x2_f_signs)), (a_wordSets, .inl (cI, 3, .inl f_wordSets)), (a_p1, .inr (0, [.ref a_p1_left, .ref a_p1_signs, .ref a_p1_wordSets, .int p1_sayings, .int p1_words, .int p1_filled])), (a_p1_signs, .inl (cI, 8, .inl f_p1_signs)), (a_p1_wordSets, .inl (cI, 3, .inl f_p1_wordSets)), (a_p1_left, .inl (cI, 8, .inl f_p1_left))]) hF hA hZ hK hP hD hS (c_X4_at l D cI cB cZ a_p1_left 8 f_p1_left x2_l2 z_18 hc_18) rfl gX0_copy_X4_at hdX4_at ⟨rfl, rfl⟩ (Nat.le_of_ble_eq_true rfl) (Nat.le_of_ble_eq_true rfl) [5] [0, 1, 2, 3, 4, 6, 7] rfl rfl rfl rfl (by decide) rfl hl.1 rfl (Nat.le_of_ble_eq_true rfl) (Nat.zero_le _) (Nat.zero_le _) dX0_copy_18 (fun H locs hP hD hS => ?_)
        obtain ⟨z_21, hc_21, h⟩ := bd_e h
        refine q_vS (As := [.ref a_left, .int x2_l2, .int z_18]) (rest := []) (wF := [(a_o, .inr (0, [.ref a_left, .ref a_signs, .ref a_wordSets, .int o_sayings, .int o_words, .int o_filled])), (a_signs, .inl (cI, 8, .inl x2_f_signs)), (a_wordSets, .inl (cI, 3, .inl f_wordSets)), (a_p1, .inr (0, [.ref a_p1_left, .ref a_p1_signs, .ref a_p1_wordSets, .int p1_sayings, .int p1_words, .int p1_filled])), (a_p1_signs, .inl (cI, 8, .inl f_p1_signs)), (a_p1_wordSets, .inl (cI, 3, .inl f_p1_wordSets)), (a_p1_left, .inl (cI, 8, .inl f_p1_left)), (a_left, .inl (cI, 8, .inl z_21))]) hF hA hZ hK hP hD hS (c_X4_put l D cI cB cZ a_left 8 x2_f_left x2_l2 z_18 z_21 hc_21) rfl gX0_copy_X4_put hdX4_put ⟨rfl, rfl⟩ (Nat.le_of_ble_eq_true rfl) (Nat.le_of_ble_eq_true rfl) [1] [0, 2, 3, 4, 5, 6, 7] rfl rfl rfl rfl (by decide) rfl hl.1 rfl (Nat.le_of_ble_eq_true rfl) (Nat.zero_le _) (Nat.zero_le _) dX0_copy_21 (fun H locs hP hD hS => ?_)
        refine lv_aload_n hx hb dX0_copy_24 rfl (lv_at hl 0 rfl) ?_
        refine va_get (D := D) (ci := 0) (v := .ref a_signs) (C := RX0) (T := TX0) (N := 6) hx hb hts u_X0 hown hK hP 0 rfl rfl 1 (by decide) k_f5 (fun _ h9 => h9) rfl dX0_copy_25 ?_
        refine lv_iload_n hx hb dX0_copy_28 rfl (lv_at hl 2 rfl) ?_
        refine lv_aload_n hx hb dX0_copy_29 rfl (lv_at hl 1 rfl) ?_
        refine va_get (D := D) (ci := 0) (v := .ref a_p1_signs) (C := RX0) (T := TX0) (N := 6) hx hb hts u_X0 hown hK hP 3 rfl rfl 1 (by decide) k_f5 (fun _ h9 => h9) rfl dX0_copy_30 ?_
        refine lv_iload_n hx hb dX0_copy_33 rfl (lv_at hl 2 rfl) ?_
        obtain ⟨z_34, hc_34, h⟩ := bd_e h
        refine q_iS (As := [.ref a_p1_signs, .int x2_l2]) (rest := [.int x2_l2, .ref a_signs]) (wF := [(a_o, .inr (0, [.ref a_left, .ref a_signs, .ref a_wordSets, .int o_sayings, .int o_words, .int o_filled])), (a_signs, .inl (cI, 8, .inl x2_f_signs)), (a_wordSets, .inl (cI, 3, .inl f_wordSets)), (a_p1, .inr (0, [.ref a_p1_left, .ref a_p1_signs, .ref a_p1_wordSets, .int p1_sayings, .int p1_words, .int p1_filled])), (a_p1_wordSets, .inl (cI, 3, .inl f_p1_wordSets)), (a_p1_left, .inl (cI, 8, .inl f_p1_left)), (a_left, .inl (cI, 8, .inl z_21)), (a_p1_signs, .inl (cI, 8, .inl f_p1_signs))]) hF hA hZ hK hP hD hS (c_X4_at l D cI cB cZ a_p1_signs 8 f_p1_signs x2_l2 z_34 hc_34) rfl gX0_copy_X4_at hdX4_at ⟨rfl, rfl⟩ (Nat.le_of_ble_eq_true rfl) (Nat.le_of_ble_eq_true rfl) [4] [0, 1, 2, 3, 5, 6, 7] rfl rfl rfl rfl (by decide) rfl hl.1 rfl (Nat.le_of_ble_eq_true rfl) (Nat.zero_le _) (Nat.zero_le _) dX0_copy_34 (fun H locs hP hD hS => ?_)
        obtain ⟨z_37, hc_37, h⟩ := bd_e h
        refine q_vS (As := [.ref a_signs, .int x2_l2, .int z_34]) (rest := []) (wF := [(a_o, .inr (0, [.ref a_left, .ref a_signs, .ref a_wordSets, .int o_sayings, .int o_words, .int o_filled])), (a_wordSets, .inl (cI, 3, .inl f_wordSets)), (a_p1, .inr (0, [.ref a_p1_left, .ref a_p1_signs, .ref a_p1_wordSets, .int p1_sayings, .int p1_words, .int p1_filled])), (a_p1_wordSets, .inl (cI, 3, .inl f_p1_wordSets)), (a_p1_left, .inl (cI, 8, .inl f_p1_left)), (a_left, .inl (cI, 8, .inl z_21)), (a_p1_signs, .inl (cI, 8, .inl f_p1_signs)), (a_signs, .inl (cI, 8, .inl z_37))]) hF hA hZ hK hP hD hS (c_X4_put l D cI cB cZ a_signs 8 x2_f_signs x2_l2 z_34 z_37 hc_37) rfl gX0_copy_X4_put hdX4_put ⟨rfl, rfl⟩ (Nat.le_of_ble_eq_true rfl) (Nat.le_of_ble_eq_true rfl) [1] [0, 2, 3, 4, 5, 6, 7] rfl rfl rfl rfl (by decide) rfl hl.1 rfl (Nat.le_of_ble_eq_true rfl) (Nat.zero_le _) (Nat.zero_le _) dX0_copy_37 (fun H locs hP hD hS => ?_)
        refine lv_iinc (v := x2_l2 + 1) (lv' := [(2, .int (x2_l2 + 1)), (0, .ref a_o), (1, .ref a_p1)]) hx hb dX0_copy_40 hl (k := 2) rfl (congrArg (x2_l2 + ·) ic_1) (by decide) rfl (fun ls hl => ?_)
        refine lv_goto (tgt := 2) hx hb dX0_copy_43 (by decide) ?_
        exact ih2 (x2_l2 + 1) z_21 z_37 H locs ls h (hP.sub [0, 5, 7, 1, 2, 4, 6, 3] rfl) (hD.sub [0, 5, 7, 1, 2, 4, 6, 3] (by decide) rfl) hS (lv_sub hl [1, 2, 0] rfl)
  exact L2 QF 0 f_left f_signs H locs ls h hP hD hS (lv_sub hl [1, 2, 0] rfl)
abbrev rmX10_keep : Room := { frames := 2, cells := 0, slots := 0, locals := 44 }
theorem hdX10_keep : yX10_keep.cls = RX10 ∧ yX10_keep.cls ≠ "java/lang/invoke/MethodHandle" ∧ yX10_keep.cls ≠ "java/lang/invoke/VarHandle" ∧ (parseMethodDescriptor yX10_keep.desc).map (fun d => d.parameters.length) = some 1 := by decide +kernel
set_option maxRecDepth 100000 in
set_option maxHeartbeats 4000000 in
theorem c_X10_keep (l : Launch) (D : va_G) (cI cB cZ : ClassId) (a_o : Nat) (w_o_text : Value) (w_o_speech : Value) (w_o_signs : Value) (w_o_reader : Value) (w_o_lengths : Value) (w_o_refusals : Value) (w_o_two : Value) (o_measured : Int32) (o_traced : Int64) (a_now : Nat) (now_sayings : Int32) (now_words : Int32) (now_filled : Int32) (a_now_left : Nat) (f_now_left : Nat → Int32) (a_now_signs : Nat) (f_now_signs : Nat → Int32) (a_now_wordSets : Nat) (f_now_wordSets : Nat → Int32) (a_image0 : Nat) (image0_sayings : Int32) (image0_words : Int32) (image0_filled : Int32) (a_image0_left : Nat) (f_image0_left : Nat → Int32) (a_image0_signs : Nat) (f_image0_signs : Nat → Int32) (a_image0_wordSets : Nat) (f_image0_wordSets : Nat → Int32) (a_image1 : Nat) (image1_sayings : Int32) (image1_words : Int32) (image1_filled : Int32) (a_image1_left : Nat) (f_image1_left : Nat → Int32) (a_image1_signs : Nat) (f_image1_signs : Nat → Int32) (a_image1_wordSets : Nat) (f_image1_wordSets : Nat → Int32) (p1 : Int32) (z : Int32 × Int32 × Int32 × Int32 × (Nat → Int32) × (Nat → Int32) × (Nat → Int32) × Int32 × Int32 × Int32 × (Nat → Int32) × (Nat → Int32) × (Nat → Int32)) (h : P_X10_keep p1 now_sayings now_words f_now_left f_now_signs f_now_wordSets image0_sayings image0_words image0_filled f_image0_left f_image0_signs f_image0_wordSets image1_sayings image1_words image1_filled f_image1_left f_image1_signs f_image1_wordSets = some z) : KI l yX10_keep wsX10_keep rmX10_keep D [(cI, .int), (cB, .byte), (cZ, .boolean)] [.ref a_o, .int p1] [(a_o, .inr (9, [w_o_text, w_o_speech, .ref a_now, .ref a_image0, .ref a_image1, w_o_signs, w_o_reader, w_o_lengths, w_o_refusals, w_o_two, .int o_measured, .long o_traced])), (a_now, .inr (0, [.ref a_now_left, .ref a_now_signs, .ref a_now_wordSets, .int now_sayings, .int now_words, .int now_filled])), (a_now_left, .inl (cI, 8, .inl f_now_left)), (a_now_signs, .inl (cI, 8, .inl f_now_signs)), (a_now_wordSets, .inl (cI, 3, .inl f_now_wordSets)), (a_image0, .inr (0, [.ref a_image0_left, .ref a_image0_signs, .ref a_image0_wordSets, .int image0_sayings, .int image0_words, .int image0_filled])), (a_image0_left, .inl (cI, 8, .inl f_image0_left)), (a_image0_signs, .inl (cI, 8, .inl f_image0_signs)), (a_image0_wordSets, .inl (cI, 3, .inl f_image0_wordSets)), (a_image1, .inr (0, [.ref a_image1_left, .ref a_image1_signs, .ref a_image1_wordSets, .int image1_sayings, .int image1_words, .int image1_filled])), (a_image1_left, .inl (cI, 8, .inl f_image1_left)), (a_image1_signs, .inl (cI, 8, .inl f_image1_signs)), (a_image1_wordSets, .inl (cI, 3, .inl f_image1_wordSets))] [(a_o, .inr (9, [w_o_text, w_o_speech, .ref a_now, .ref a_image0, .ref a_image1, w_o_signs, w_o_reader, w_o_lengths, w_o_refusals, w_o_two, .int o_measured, .long o_traced])), (a_now, .inr (0, [.ref a_now_left, .ref a_now_signs, .ref a_now_wordSets, .int now_sayings, .int now_words, .int now_filled])), (a_now_left, .inl (cI, 8, .inl f_now_left)), (a_now_signs, .inl (cI, 8, .inl f_now_signs)), (a_now_wordSets, .inl (cI, 3, .inl f_now_wordSets)), (a_image0, .inr (0, [.ref a_image0_left, .ref a_image0_signs, .ref a_image0_wordSets, .int z.2.1, .int z.2.2.1, .int z.2.2.2.1])), (a_image0_left, .inl (cI, 8, .inl z.2.2.2.2.1)), (a_image0_signs, .inl (cI, 8, .inl z.2.2.2.2.2.1)), (a_image0_wordSets, .inl (cI, 3, .inl z.2.2.2.2.2.2.1)), (a_image1, .inr (0, [.ref a_image1_left, .ref a_image1_signs, .ref a_image1_wordSets, .int z.2.2.2.2.2.2.2.1, .int z.2.2.2.2.2.2.2.2.1, .int z.2.2.2.2.2.2.2.2.2.1])), (a_image1_left, .inl (cI, 8, .inl z.2.2.2.2.2.2.2.2.2.2.1)), (a_image1_signs, .inl (cI, 8, .inl z.2.2.2.2.2.2.2.2.2.2.2.1)), (a_image1_wordSets, .inl (cI, 3, .inl z.2.2.2.2.2.2.2.2.2.2.2.2))] z.1 := by
  refine KI_of (own := RX10) (cc := cX10_keep) (maxL := 2) (ret := some .int) (by decide) rfl rfl (Nat.le_of_ble_eq_true rfl) (Or.inl rfl) ?_
  intro p e s m args below meth c A Q hx hb hml hown hts hA hZ hK hret H locs ls hP hD hS hl
  have hl : lv_has ls 2 [(0, .ref a_o), (1, .int p1)] := hl
  have hF : CallFix p m c cX10_keep 2 s args wsX10_keep RX10 := ⟨hx, hb, hml, hown, hts⟩
  have u_X10 : ∀ w ∈ u_ws RX10 TX10 12, w ∈ wsX10_keep := by decide +kernel
  have k_f0 := hts (.fieldLink RX10 26 "NoWordNo" "now" "LNoWordNo$Kept;") (by decide +kernel)
  unfold P_X10_keep at h
  refine lv_iload_n hx hb dX10_keep_0 rfl (lv_at hl 1 rfl) ?_
  refine lv_if_lt (tgt := 9) hx hb dX10_keep_1 (by decide) (fun c_1 => ?_) (fun c_1 => ?_)
  · replace h := it_e c_1 h
    refine lv_iconst (v := (-1)) hx hb dX10_keep_9 ic_m1 ?_
    have hz := Option.some.inj h
    subst hz
    exact hret H locs 10 ls (fun ty h => by cases h; rfl) hP hD hS dX10_keep_10
  · replace h := if_e c_1 h
    refine lv_iload_n hx hb dX10_keep_4 rfl (lv_at hl 1 rfl) ?_
    refine lv_iconst (v := 1) hx hb dX10_keep_5 ic_1 ?_
    refine lv_icmp_le (tgt := 11) hx hb dX10_keep_6 (by decide) (fun c_6 => ?_) (fun c_6 => ?_)
    · replace h := it_e c_6 h
      refine lv_aload_n hx hb dX10_keep_11 rfl (lv_at hl 0 rfl) ?_
      refine lv_iload_n hx hb dX10_keep_12 rfl (lv_at hl 1 rfl) ?_
      by_cases c_13 : p1 = 0
      · replace h := it_e c_13 h
        refine q_rV (As := [.int p1]) (rest := []) (wF := [(a_now, .inr (0, [.ref a_now_left, .ref a_now_signs, .ref a_now_wordSets, .int now_sayings, .int now_words, .int now_filled])), (a_now_left, .inl (cI, 8, .inl f_now_left)), (a_now_signs, .inl (cI, 8, .inl f_now_signs)), (a_now_wordSets, .inl (cI, 3, .inl f_now_wordSets)), (a_image0_left, .inl (cI, 8, .inl f_image0_left)), (a_image0_signs, .inl (cI, 8, .inl f_image0_signs)), (a_image0_wordSets, .inl (cI, 3, .inl f_image0_wordSets)), (a_image1_left, .inl (cI, 8, .inl f_image1_left)), (a_image1_signs, .inl (cI, 8, .inl f_image1_signs)), (a_image1_wordSets, .inl (cI, 3, .inl f_image1_wordSets)), (a_o, .inr (9, [w_o_text, w_o_speech, .ref a_now, .ref a_image0, .ref a_image1, w_o_signs, w_o_reader, w_o_lengths, w_o_refusals, w_o_two, .int o_measured, .long o_traced])), (a_image0, .inr (0, [.ref a_image0_left, .ref a_image0_signs, .ref a_image0_wordSets, .int image0_sayings, .int image0_words, .int image0_filled])), (a_image1, .inr (0, [.ref a_image1_left, .ref a_image1_signs, .ref a_image1_wordSets, .int image1_sayings, .int image1_words, .int image1_filled]))]) hF hA hZ hK hP hD hS (c_X10_imageOf_0 l D cI cB cZ a_o w_o_text w_o_speech (.ref a_now) w_o_signs w_o_reader w_o_lengths w_o_refusals w_o_two o_measured o_traced a_image0 (.ref a_image0_left) (.ref a_image0_signs) (.ref a_image0_wordSets) image0_sayings image0_words image0_filled a_image1 (.ref a_image1_left) (.ref a_image1_signs) (.ref a_image1_wordSets) image1_sayings image1_words image1_filled p1 c_13) rfl gX10_keep_X10_imageOf hdX10_imageOf ⟨rfl, rfl⟩ (Nat.le_of_ble_eq_true rfl) (Nat.le_of_ble_eq_true rfl) 9 0 rfl rfl [0, 5, 9] [1, 2, 3, 4, 6, 7, 8, 10, 11, 12] rfl rfl rfl rfl (by decide) rfl hl.1 rfl (Nat.le_of_ble_eq_true rfl) (Nat.zero_le _) (Nat.zero_le _) dX10_keep_13 (fun H locs hP hD hS => ?_)
        refine lv_aload_n hx hb dX10_keep_16 rfl (lv_at hl 0 rfl) ?_
        refine va_get (D := D) (ci := 9) (v := .ref a_now) (C := RX10) (T := TX10) (N := 12) hx hb hts u_X10 hown hK hP 10 rfl rfl 2 (by decide) k_f0 (fun _ h9 => h9) rfl dX10_keep_17 ?_
        obtain ⟨z_20, hc_20, h⟩ := bd_e h
        refine q_vV (As := [.ref a_now]) (rest := []) (wF := [(a_image1_left, .inl (cI, 8, .inl f_image1_left)), (a_image1_signs, .inl (cI, 8, .inl f_image1_signs)), (a_image1_wordSets, .inl (cI, 3, .inl f_image1_wordSets)), (a_o, .inr (9, [w_o_text, w_o_speech, .ref a_now, .ref a_image0, .ref a_image1, w_o_signs, w_o_reader, w_o_lengths, w_o_refusals, w_o_two, .int o_measured, .long o_traced])), (a_image1, .inr (0, [.ref a_image1_left, .ref a_image1_signs, .ref a_image1_wordSets, .int image1_sayings, .int image1_words, .int image1_filled])), (a_image0, .inr (0, [.ref a_image0_left, .ref a_image0_signs, .ref a_image0_wordSets, .int z_20.1, .int z_20.2.1, .int z_20.2.2.1])), (a_image0_left, .inl (cI, 8, .inl z_20.2.2.2.1)), (a_image0_signs, .inl (cI, 8, .inl z_20.2.2.2.2.1)), (a_image0_wordSets, .inl (cI, 3, .inl z_20.2.2.2.2.2)), (a_now, .inr (0, [.ref a_now_left, .ref a_now_signs, .ref a_now_wordSets, .int now_sayings, .int now_words, .int now_filled])), (a_now_left, .inl (cI, 8, .inl f_now_left)), (a_now_signs, .inl (cI, 8, .inl f_now_signs)), (a_now_wordSets, .inl (cI, 3, .inl f_now_wordSets))]) hF hA hZ hK hP hD hS (c_X0_copy l D cI cB cZ a_image0 image0_sayings image0_words image0_filled a_image0_left f_image0_left a_image0_signs f_image0_signs a_image0_wordSets f_image0_wordSets a_now now_sayings now_words now_filled a_now_left f_now_left a_now_signs f_now_signs a_now_wordSets f_now_wordSets z_20 hc_20) rfl gX10_keep_X0_copy hdX0_copy ⟨rfl, rfl⟩ (Nat.le_of_ble_eq_true rfl) (Nat.le_of_ble_eq_true rfl) 0 0 rfl rfl [11, 4, 5, 6, 0, 1, 2, 3] [7, 8, 9, 10, 12] rfl rfl rfl rfl (by decide) rfl hl.1 rfl (Nat.le_of_ble_eq_true rfl) (Nat.zero_le _) (Nat.zero_le _) dX10_keep_20 (fun H locs hP hD hS => ?_)
        refine lv_aload_n hx hb dX10_keep_23 rfl (lv_at hl 0 rfl) ?_
        refine va_get (D := D) (ci := 9) (v := .ref a_now) (C := RX10) (T := TX10) (N := 12) hx hb hts u_X10 hown hK hP 3 rfl rfl 2 (by decide) k_f0 (fun _ h9 => h9) rfl dX10_keep_24 ?_
        obtain ⟨z_27, hc_27, h⟩ := bd_e h
        refine q_iV (As := []) (rest := []) (wF := [(a_image1_left, .inl (cI, 8, .inl f_image1_left)), (a_image1_signs, .inl (cI, 8, .inl f_image1_signs)), (a_image1_wordSets, .inl (cI, 3, .inl f_image1_wordSets)), (a_o, .inr (9, [w_o_text, w_o_speech, .ref a_now, .ref a_image0, .ref a_image1, w_o_signs, w_o_reader, w_o_lengths, w_o_refusals, w_o_two, .int o_measured, .long o_traced])), (a_image1, .inr (0, [.ref a_image1_left, .ref a_image1_signs, .ref a_image1_wordSets, .int image1_sayings, .int image1_words, .int image1_filled])), (a_image0, .inr (0, [.ref a_image0_left, .ref a_image0_signs, .ref a_image0_wordSets, .int z_20.1, .int z_20.2.1, .int z_20.2.2.1])), (a_image0_left, .inl (cI, 8, .inl z_20.2.2.2.1)), (a_image0_signs, .inl (cI, 8, .inl z_20.2.2.2.2.1)), (a_image0_wordSets, .inl (cI, 3, .inl z_20.2.2.2.2.2)), (a_now_left, .inl (cI, 8, .inl f_now_left)), (a_now_signs, .inl (cI, 8, .inl f_now_signs)), (a_now_wordSets, .inl (cI, 3, .inl f_now_wordSets)), (a_now, .inr (0, [.ref a_now_left, .ref a_now_signs, .ref a_now_wordSets, .int now_sayings, .int now_words, .int now_filled]))]) hF hA hZ hK hP hD hS (c_X0_sayings l D cI cB cZ a_now (.ref a_now_left) (.ref a_now_signs) (.ref a_now_wordSets) now_sayings now_words now_filled z_27 hc_27) rfl gX10_keep_X0_sayings hdX0_sayings ⟨rfl, rfl⟩ (Nat.le_of_ble_eq_true rfl) (Nat.le_of_ble_eq_true rfl) 0 0 rfl rfl [9] [0, 1, 2, 3, 4, 5, 6, 7, 8, 10, 11, 12] rfl rfl rfl rfl (by decide) rfl hl.1 rfl (Nat.le_of_ble_eq_true rfl) (Nat.zero_le _) (Nat.zero_le _) dX10_keep_27 (fun H locs hP hD hS => ?_)
        have hz := Option.some.inj h
        subst hz
        exact hret H locs 30 ls (fun ty h => by cases h; rfl) (hP.sub [3, 12, 9, 10, 11, 5, 6, 7, 8, 4, 0, 1, 2] rfl) (hD.sub [3, 12, 9, 10, 11, 5, 6, 7, 8, 4, 0, 1, 2] (by decide) rfl) hS dX10_keep_30
      · replace h := if_e c_13 h
        refine q_rV (As := [.int p1]) (rest := []) (wF := [(a_now, .inr (0, [.ref a_now_left, .ref a_now_signs, .ref a_now_wordSets, .int now_sayings, .int now_words, .int now_filled])), (a_now_left, .inl (cI, 8, .inl f_now_left)), (a_now_signs, .inl (cI, 8, .inl f_now_signs)), (a_now_wordSets, .inl (cI, 3, .inl f_now_wordSets)), (a_image0_left, .inl (cI, 8, .inl f_image0_left)), (a_image0_signs, .inl (cI, 8, .inl f_image0_signs)), (a_image0_wordSets, .inl (cI, 3, .inl f_image0_wordSets)), (a_image1_left, .inl (cI, 8, .inl f_image1_left)), (a_image1_signs, .inl (cI, 8, .inl f_image1_signs)), (a_image1_wordSets, .inl (cI, 3, .inl f_image1_wordSets)), (a_o, .inr (9, [w_o_text, w_o_speech, .ref a_now, .ref a_image0, .ref a_image1, w_o_signs, w_o_reader, w_o_lengths, w_o_refusals, w_o_two, .int o_measured, .long o_traced])), (a_image0, .inr (0, [.ref a_image0_left, .ref a_image0_signs, .ref a_image0_wordSets, .int image0_sayings, .int image0_words, .int image0_filled])), (a_image1, .inr (0, [.ref a_image1_left, .ref a_image1_signs, .ref a_image1_wordSets, .int image1_sayings, .int image1_words, .int image1_filled]))]) hF hA hZ hK hP hD hS (c_X10_imageOf_1 l D cI cB cZ a_o w_o_text w_o_speech (.ref a_now) w_o_signs w_o_reader w_o_lengths w_o_refusals w_o_two o_measured o_traced a_image0 (.ref a_image0_left) (.ref a_image0_signs) (.ref a_image0_wordSets) image0_sayings image0_words image0_filled a_image1 (.ref a_image1_left) (.ref a_image1_signs) (.ref a_image1_wordSets) image1_sayings image1_words image1_filled p1 c_13) rfl gX10_keep_X10_imageOf hdX10_imageOf ⟨rfl, rfl⟩ (Nat.le_of_ble_eq_true rfl) (Nat.le_of_ble_eq_true rfl) 9 0 rfl rfl [0, 5, 9] [1, 2, 3, 4, 6, 7, 8, 10, 11, 12] rfl rfl rfl rfl (by decide) rfl hl.1 rfl (Nat.le_of_ble_eq_true rfl) (Nat.zero_le _) (Nat.zero_le _) dX10_keep_13 (fun H locs hP hD hS => ?_)
        refine lv_aload_n hx hb dX10_keep_16 rfl (lv_at hl 0 rfl) ?_
        refine va_get (D := D) (ci := 9) (v := .ref a_now) (C := RX10) (T := TX10) (N := 12) hx hb hts u_X10 hown hK hP 10 rfl rfl 2 (by decide) k_f0 (fun _ h9 => h9) rfl dX10_keep_17 ?_
        obtain ⟨z_20, hc_20, h⟩ := bd_e h
        refine q_vV (As := [.ref a_now]) (rest := []) (wF := [(a_image0_left, .inl (cI, 8, .inl f_image0_left)), (a_image0_signs, .inl (cI, 8, .inl f_image0_signs)), (a_image0_wordSets, .inl (cI, 3, .inl f_image0_wordSets)), (a_o, .inr (9, [w_o_text, w_o_speech, .ref a_now, .ref a_image0, .ref a_image1, w_o_signs, w_o_reader, w_o_lengths, w_o_refusals, w_o_two, .int o_measured, .long o_traced])), (a_image0, .inr (0, [.ref a_image0_left, .ref a_image0_signs, .ref a_image0_wordSets, .int image0_sayings, .int image0_words, .int image0_filled])), (a_image1, .inr (0, [.ref a_image1_left, .ref a_image1_signs, .ref a_image1_wordSets, .int z_20.1, .int z_20.2.1, .int z_20.2.2.1])), (a_image1_left, .inl (cI, 8, .inl z_20.2.2.2.1)), (a_image1_signs, .inl (cI, 8, .inl z_20.2.2.2.2.1)), (a_image1_wordSets, .inl (cI, 3, .inl z_20.2.2.2.2.2)), (a_now, .inr (0, [.ref a_now_left, .ref a_now_signs, .ref a_now_wordSets, .int now_sayings, .int now_words, .int now_filled])), (a_now_left, .inl (cI, 8, .inl f_now_left)), (a_now_signs, .inl (cI, 8, .inl f_now_signs)), (a_now_wordSets, .inl (cI, 3, .inl f_now_wordSets))]) hF hA hZ hK hP hD hS (c_X0_copy l D cI cB cZ a_image1 image1_sayings image1_words image1_filled a_image1_left f_image1_left a_image1_signs f_image1_signs a_image1_wordSets f_image1_wordSets a_now now_sayings now_words now_filled a_now_left f_now_left a_now_signs f_now_signs a_now_wordSets f_now_wordSets z_20 hc_20) rfl gX10_keep_X0_copy hdX0_copy ⟨rfl, rfl⟩ (Nat.le_of_ble_eq_true rfl) (Nat.le_of_ble_eq_true rfl) 0 0 rfl rfl [12, 7, 8, 9, 0, 1, 2, 3] [4, 5, 6, 10, 11] rfl rfl rfl rfl (by decide) rfl hl.1 rfl (Nat.le_of_ble_eq_true rfl) (Nat.zero_le _) (Nat.zero_le _) dX10_keep_20 (fun H locs hP hD hS => ?_)
        refine lv_aload_n hx hb dX10_keep_23 rfl (lv_at hl 0 rfl) ?_
        refine va_get (D := D) (ci := 9) (v := .ref a_now) (C := RX10) (T := TX10) (N := 12) hx hb hts u_X10 hown hK hP 3 rfl rfl 2 (by decide) k_f0 (fun _ h9 => h9) rfl dX10_keep_24 ?_
        obtain ⟨z_27, hc_27, h⟩ := bd_e h
        refine q_iV (As := []) (rest := []) (wF := [(a_image0_left, .inl (cI, 8, .inl f_image0_left)), (a_image0_signs, .inl (cI, 8, .inl f_image0_signs)), (a_image0_wordSets, .inl (cI, 3, .inl f_image0_wordSets)), (a_o, .inr (9, [w_o_text, w_o_speech, .ref a_now, .ref a_image0, .ref a_image1, w_o_signs, w_o_reader, w_o_lengths, w_o_refusals, w_o_two, .int o_measured, .long o_traced])), (a_image0, .inr (0, [.ref a_image0_left, .ref a_image0_signs, .ref a_image0_wordSets, .int image0_sayings, .int image0_words, .int image0_filled])), (a_image1, .inr (0, [.ref a_image1_left, .ref a_image1_signs, .ref a_image1_wordSets, .int z_20.1, .int z_20.2.1, .int z_20.2.2.1])), (a_image1_left, .inl (cI, 8, .inl z_20.2.2.2.1)), (a_image1_signs, .inl (cI, 8, .inl z_20.2.2.2.2.1)), (a_image1_wordSets, .inl (cI, 3, .inl z_20.2.2.2.2.2)), (a_now_left, .inl (cI, 8, .inl f_now_left)), (a_now_signs, .inl (cI, 8, .inl f_now_signs)), (a_now_wordSets, .inl (cI, 3, .inl f_now_wordSets)), (a_now, .inr (0, [.ref a_now_left, .ref a_now_signs, .ref a_now_wordSets, .int now_sayings, .int now_words, .int now_filled]))]) hF hA hZ hK hP hD hS (c_X0_sayings l D cI cB cZ a_now (.ref a_now_left) (.ref a_now_signs) (.ref a_now_wordSets) now_sayings now_words now_filled z_27 hc_27) rfl gX10_keep_X0_sayings hdX0_sayings ⟨rfl, rfl⟩ (Nat.le_of_ble_eq_true rfl) (Nat.le_of_ble_eq_true rfl) 0 0 rfl rfl [9] [0, 1, 2, 3, 4, 5, 6, 7, 8, 10, 11, 12] rfl rfl rfl rfl (by decide) rfl hl.1 rfl (Nat.le_of_ble_eq_true rfl) (Nat.zero_le _) (Nat.zero_le _) dX10_keep_27 (fun H locs hP hD hS => ?_)
        have hz := Option.some.inj h
        subst hz
        exact hret H locs 30 ls (fun ty h => by cases h; rfl) (hP.sub [3, 12, 9, 10, 11, 4, 0, 1, 2, 5, 6, 7, 8] rfl) (hD.sub [3, 12, 9, 10, 11, 4, 0, 1, 2, 5, 6, 7, 8] (by decide) rfl) hS dX10_keep_30
    · replace h := if_e c_6 h
      refine lv_iconst (v := (-1)) hx hb dX10_keep_9 ic_m1 ?_
      have hz := Option.some.inj h
      subst hz
      exact hret H locs 10 ls (fun ty h => by cases h; rfl) hP hD hS dX10_keep_10
abbrev rmX0_isFilled : Room := { frames := 0, cells := 0, slots := 0, locals := 0 }
theorem hdX0_isFilled : yX0_isFilled.cls = RX0 ∧ yX0_isFilled.cls ≠ "java/lang/invoke/MethodHandle" ∧ yX0_isFilled.cls ≠ "java/lang/invoke/VarHandle" ∧ (parseMethodDescriptor yX0_isFilled.desc).map (fun d => d.parameters.length) = some 0 := by decide +kernel
set_option maxRecDepth 100000 in
set_option maxHeartbeats 4000000 in
theorem c_X0_isFilled (l : Launch) (D : va_G) (cI cB cZ : ClassId) (a_o : Nat) (w_o_left : Value) (w_o_signs : Value) (w_o_wordSets : Value) (o_sayings : Int32) (o_words : Int32) (o_filled : Int32) (z : Int32) (h : P_X0_isFilled o_filled = some z) : KI l yX0_isFilled wsX0_isFilled rmX0_isFilled D [(cI, .int), (cB, .byte), (cZ, .boolean)] [.ref a_o] [(a_o, .inr (0, [w_o_left, w_o_signs, w_o_wordSets, .int o_sayings, .int o_words, .int o_filled]))] [(a_o, .inr (0, [w_o_left, w_o_signs, w_o_wordSets, .int o_sayings, .int o_words, .int o_filled]))] z := by
  refine KI_of (own := RX0) (cc := cX0_isFilled) (maxL := 1) (ret := some .boolean) (by decide) rfl rfl (Nat.le_of_ble_eq_true rfl) (Or.inr rfl) ?_
  intro p e s m args below meth c A Q hx hb hml hown hts hA hZ hK hret H locs ls hP hD hS hl
  have hl : lv_has ls 1 [(0, .ref a_o)] := hl
  have hF : CallFix p m c cX0_isFilled 1 s args wsX0_isFilled RX0 := ⟨hx, hb, hml, hown, hts⟩
  have u_X0 : ∀ w ∈ u_ws RX0 TX0 6, w ∈ wsX0_isFilled := by decide +kernel
  have k_f0 := hts (.fieldLink RX0 26 "NoWordNo$Kept" "filled" "Z") (by decide +kernel)
  unfold P_X0_isFilled at h
  refine lv_aload_n hx hb dX0_isFilled_0 rfl (lv_at hl 0 rfl) ?_
  refine va_get (D := D) (ci := 0) (v := .int o_filled) (C := RX0) (T := TX0) (N := 6) hx hb hts u_X0 hown hK hP 0 rfl rfl 5 (by decide) k_f0 (fun _ h9 => h9) rfl dX0_isFilled_1 ?_
  obtain ⟨hn9, -, h⟩ := cz_e h
  have hz := Option.some.inj h
  subst hz
  exact hret H locs 4 ls (fun ty h => by cases h; exact hn9) hP hD hS dX0_isFilled_4
abbrev rmX10_back : Room := { frames := 2, cells := 0, slots := 0, locals := 44 }
theorem hdX10_back : yX10_back.cls = RX10 ∧ yX10_back.cls ≠ "java/lang/invoke/MethodHandle" ∧ yX10_back.cls ≠ "java/lang/invoke/VarHandle" ∧ (parseMethodDescriptor yX10_back.desc).map (fun d => d.parameters.length) = some 1 := by decide +kernel
set_option maxRecDepth 100000 in
set_option maxHeartbeats 4000000 in
theorem c_X10_back (l : Launch) (D : va_G) (cI cB cZ : ClassId) (a_o : Nat) (w_o_text : Value) (w_o_speech : Value) (w_o_signs : Value) (w_o_reader : Value) (w_o_lengths : Value) (w_o_two : Value) (o_measured : Int32) (o_traced : Int64) (a_now : Nat) (now_sayings : Int32) (now_words : Int32) (now_filled : Int32) (a_now_left : Nat) (f_now_left : Nat → Int32) (a_now_signs : Nat) (f_now_signs : Nat → Int32) (a_now_wordSets : Nat) (f_now_wordSets : Nat → Int32) (a_image0 : Nat) (image0_sayings : Int32) (image0_words : Int32) (image0_filled : Int32) (a_image0_left : Nat) (f_image0_left : Nat → Int32) (a_image0_signs : Nat) (f_image0_signs : Nat → Int32) (a_image0_wordSets : Nat) (f_image0_wordSets : Nat → Int32) (a_image1 : Nat) (image1_sayings : Int32) (image1_words : Int32) (image1_filled : Int32) (a_image1_left : Nat) (f_image1_left : Nat → Int32) (a_image1_signs : Nat) (f_image1_signs : Nat → Int32) (a_image1_wordSets : Nat) (f_image1_wordSets : Nat → Int32) (a_refusals : Nat) (w_refusals_tongue : Value) (w_refusals_tried : Value) (refusals_sign : Int32) (refusals_sum : Int32) (refusals_known : Int32) (p1 : Int32) (z : Int32 × Int32 × Int32 × Int32 × Int32 × (Nat → Int32) × (Nat → Int32) × (Nat → Int32) × Int32) (h : P_X10_back p1 o_measured now_sayings now_words now_filled f_now_left f_now_signs f_now_wordSets image0_sayings image0_words image0_filled f_image0_left f_image0_signs f_image0_wordSets image1_sayings image1_words image1_filled f_image1_left f_image1_signs f_image1_wordSets refusals_known = some z) : KI l yX10_back wsX10_back rmX10_back D [(cI, .int), (cB, .byte), (cZ, .boolean)] [.ref a_o, .int p1] [(a_o, .inr (9, [w_o_text, w_o_speech, .ref a_now, .ref a_image0, .ref a_image1, w_o_signs, w_o_reader, w_o_lengths, .ref a_refusals, w_o_two, .int o_measured, .long o_traced])), (a_now, .inr (0, [.ref a_now_left, .ref a_now_signs, .ref a_now_wordSets, .int now_sayings, .int now_words, .int now_filled])), (a_now_left, .inl (cI, 8, .inl f_now_left)), (a_now_signs, .inl (cI, 8, .inl f_now_signs)), (a_now_wordSets, .inl (cI, 3, .inl f_now_wordSets)), (a_image0, .inr (0, [.ref a_image0_left, .ref a_image0_signs, .ref a_image0_wordSets, .int image0_sayings, .int image0_words, .int image0_filled])), (a_image0_left, .inl (cI, 8, .inl f_image0_left)), (a_image0_signs, .inl (cI, 8, .inl f_image0_signs)), (a_image0_wordSets, .inl (cI, 3, .inl f_image0_wordSets)), (a_image1, .inr (0, [.ref a_image1_left, .ref a_image1_signs, .ref a_image1_wordSets, .int image1_sayings, .int image1_words, .int image1_filled])), (a_image1_left, .inl (cI, 8, .inl f_image1_left)), (a_image1_signs, .inl (cI, 8, .inl f_image1_signs)), (a_image1_wordSets, .inl (cI, 3, .inl f_image1_wordSets)), (a_refusals, .inr (3, [w_refusals_tongue, w_refusals_tried, .int refusals_sign, .int refusals_sum, .int refusals_known]))] [(a_o, .inr (9, [w_o_text, w_o_speech, .ref a_now, .ref a_image0, .ref a_image1, w_o_signs, w_o_reader, w_o_lengths, .ref a_refusals, w_o_two, .int z.2.1, .long o_traced])), (a_now, .inr (0, [.ref a_now_left, .ref a_now_signs, .ref a_now_wordSets, .int z.2.2.1, .int z.2.2.2.1, .int z.2.2.2.2.1])), (a_now_left, .inl (cI, 8, .inl z.2.2.2.2.2.1)), (a_now_signs, .inl (cI, 8, .inl z.2.2.2.2.2.2.1)), (a_now_wordSets, .inl (cI, 3, .inl z.2.2.2.2.2.2.2.1)), (a_image0, .inr (0, [.ref a_image0_left, .ref a_image0_signs, .ref a_image0_wordSets, .int image0_sayings, .int image0_words, .int image0_filled])), (a_image0_left, .inl (cI, 8, .inl f_image0_left)), (a_image0_signs, .inl (cI, 8, .inl f_image0_signs)), (a_image0_wordSets, .inl (cI, 3, .inl f_image0_wordSets)), (a_image1, .inr (0, [.ref a_image1_left, .ref a_image1_signs, .ref a_image1_wordSets, .int image1_sayings, .int image1_words, .int image1_filled])), (a_image1_left, .inl (cI, 8, .inl f_image1_left)), (a_image1_signs, .inl (cI, 8, .inl f_image1_signs)), (a_image1_wordSets, .inl (cI, 3, .inl f_image1_wordSets)), (a_refusals, .inr (3, [w_refusals_tongue, w_refusals_tried, .int refusals_sign, .int refusals_sum, .int z.2.2.2.2.2.2.2.2]))] z.1 := by
  refine KI_of (own := RX10) (cc := cX10_back) (maxL := 3) (ret := some .int) (by decide) rfl rfl (Nat.le_of_ble_eq_true rfl) (Or.inl rfl) ?_
  intro p e s m args below meth c A Q hx hb hml hown hts hA hZ hK hret H locs ls hP hD hS hl
  have hl : lv_has ls 3 [(0, .ref a_o), (1, .int p1)] := hl
  have hF : CallFix p m c cX10_back 3 s args wsX10_back RX10 := ⟨hx, hb, hml, hown, hts⟩
  have u_X10 : ∀ w ∈ u_ws RX10 TX10 12, w ∈ wsX10_back := by decide +kernel
  have k_f0 := hts (.fieldLink RX10 26 "NoWordNo" "now" "LNoWordNo$Kept;") (by decide +kernel)
  unfold P_X10_back at h
  refine lv_iload_n hx hb dX10_back_0 rfl (lv_at hl 1 rfl) ?_
  refine lv_if_lt (tgt := 9) hx hb dX10_back_1 (by decide) (fun c_1 => ?_) (fun c_1 => ?_)
  · replace h := it_e c_1 h
    refine lv_iconst (v := (-1)) hx hb dX10_back_9 ic_m1 ?_
    have hz := Option.some.inj h
    subst hz
    exact hret H locs 10 ls (fun ty h => by cases h; rfl) hP hD hS dX10_back_10
  · replace h := if_e c_1 h
    refine lv_iload_n hx hb dX10_back_4 rfl (lv_at hl 1 rfl) ?_
    refine lv_iconst (v := 1) hx hb dX10_back_5 ic_1 ?_
    refine lv_icmp_le (tgt := 11) hx hb dX10_back_6 (by decide) (fun c_6 => ?_) (fun c_6 => ?_)
    · replace h := it_e c_6 h
      refine lv_aload_n hx hb dX10_back_11 rfl (lv_at hl 0 rfl) ?_
      refine lv_iload_n hx hb dX10_back_12 rfl (lv_at hl 1 rfl) ?_
      by_cases c_13 : p1 = 0
      · replace h := it_e c_13 h
        refine q_rV (As := [.int p1]) (rest := []) (wF := [(a_now, .inr (0, [.ref a_now_left, .ref a_now_signs, .ref a_now_wordSets, .int now_sayings, .int now_words, .int now_filled])), (a_now_left, .inl (cI, 8, .inl f_now_left)), (a_now_signs, .inl (cI, 8, .inl f_now_signs)), (a_now_wordSets, .inl (cI, 3, .inl f_now_wordSets)), (a_image0_left, .inl (cI, 8, .inl f_image0_left)), (a_image0_signs, .inl (cI, 8, .inl f_image0_signs)), (a_image0_wordSets, .inl (cI, 3, .inl f_image0_wordSets)), (a_image1_left, .inl (cI, 8, .inl f_image1_left)), (a_image1_signs, .inl (cI, 8, .inl f_image1_signs)), (a_image1_wordSets, .inl (cI, 3, .inl f_image1_wordSets)), (a_refusals, .inr (3, [w_refusals_tongue, w_refusals_tried, .int refusals_sign, .int refusals_sum, .int refusals_known])), (a_o, .inr (9, [w_o_text, w_o_speech, .ref a_now, .ref a_image0, .ref a_image1, w_o_signs, w_o_reader, w_o_lengths, .ref a_refusals, w_o_two, .int o_measured, .long o_traced])), (a_image0, .inr (0, [.ref a_image0_left, .ref a_image0_signs, .ref a_image0_wordSets, .int image0_sayings, .int image0_words, .int image0_filled])), (a_image1, .inr (0, [.ref a_image1_left, .ref a_image1_signs, .ref a_image1_wordSets, .int image1_sayings, .int image1_words, .int image1_filled]))]) hF hA hZ hK hP hD hS (c_X10_imageOf_0 l D cI cB cZ a_o w_o_text w_o_speech (.ref a_now) w_o_signs w_o_reader w_o_lengths (.ref a_refusals) w_o_two o_measured o_traced a_image0 (.ref a_image0_left) (.ref a_image0_signs) (.ref a_image0_wordSets) image0_sayings image0_words image0_filled a_image1 (.ref a_image1_left) (.ref a_image1_signs) (.ref a_image1_wordSets) image1_sayings image1_words image1_filled p1 c_13) rfl gX10_back_X10_imageOf hdX10_imageOf ⟨rfl, rfl⟩ (Nat.le_of_ble_eq_true rfl) (Nat.le_of_ble_eq_true rfl) 9 0 rfl rfl [0, 5, 9] [1, 2, 3, 4, 6, 7, 8, 10, 11, 12, 13] rfl rfl rfl rfl (by decide) rfl hl.1 rfl (Nat.le_of_ble_eq_true rfl) (Nat.zero_le _) (Nat.zero_le _) dX10_back_13 (fun H locs hP hD hS => ?_)
        refine lv_astore_n (lv' := [(2, .ref a_image0), (0, .ref a_o), (1, .int p1)]) hx hb dX10_back_16 rfl hl (by decide) rfl (fun ls hl => ?_)
        refine lv_aload_n hx hb dX10_back_17 rfl (lv_at hl 0 rfl) ?_
        obtain ⟨z_18, hc_18, h⟩ := bd_e h
        refine q_iV (As := []) (rest := []) (wF := [(a_now, .inr (0, [.ref a_now_left, .ref a_now_signs, .ref a_now_wordSets, .int now_sayings, .int now_words, .int now_filled])), (a_now_left, .inl (cI, 8, .inl f_now_left)), (a_now_signs, .inl (cI, 8, .inl f_now_signs)), (a_now_wordSets, .inl (cI, 3, .inl f_now_wordSets)), (a_image0_left, .inl (cI, 8, .inl f_image0_left)), (a_image0_signs, .inl (cI, 8, .inl f_image0_signs)), (a_image0_wordSets, .inl (cI, 3, .inl f_image0_wordSets)), (a_image1_left, .inl (cI, 8, .inl f_image1_left)), (a_image1_signs, .inl (cI, 8, .inl f_image1_signs)), (a_image1_wordSets, .inl (cI, 3, .inl f_image1_wordSets)), (a_refusals, .inr (3, [w_refusals_tongue, w_refusals_tried, .int refusals_sign, .int refusals_sum, .int refusals_known])), (a_o, .inr (9, [w_o_text, w_o_speech, .ref a_now, .ref a_image0, .ref a_image1, w_o_signs, w_o_reader, w_o_lengths, .ref a_refusals, w_o_two, .int o_measured, .long o_traced])), (a_image1, .inr (0, [.ref a_image1_left, .ref a_image1_signs, .ref a_image1_wordSets, .int image1_sayings, .int image1_words, .int image1_filled])), (a_image0, .inr (0, [.ref a_image0_left, .ref a_image0_signs, .ref a_image0_wordSets, .int image0_sayings, .int image0_words, .int image0_filled]))]) hF hA hZ hK hP hD hS (c_X0_isFilled l D cI cB cZ a_image0 (.ref a_image0_left) (.ref a_image0_signs) (.ref a_image0_wordSets) image0_sayings image0_words image0_filled z_18 hc_18) rfl gX10_back_X0_isFilled hdX0_isFilled ⟨rfl, rfl⟩ (Nat.le_of_ble_eq_true rfl) (Nat.le_of_ble_eq_true rfl) 0 0 rfl rfl [12] [0, 1, 2, 3, 4, 5, 6, 7, 8, 9, 10, 11, 13] rfl rfl rfl rfl (by decide) rfl hl.1 rfl (Nat.le_of_ble_eq_true rfl) (Nat.zero_le _) (Nat.zero_le _) dX10_back_18 (fun H locs hP hD hS => ?_)
        refine lv_if_ne (tgt := 27) hx hb dX10_back_21 (by decide) (fun c_21 => ?_) (fun c_21 => ?_)
        · replace h := if_e c_21 h
          refine lv_aload_n hx hb dX10_back_27 rfl (lv_at hl 1 rfl) ?_
          refine va_get (D := D) (ci := 9) (v := .ref a_now) (C := RX10) (T := TX10) (N := 12) hx hb hts u_X10 hown hK hP 11 rfl rfl 2 (by decide) k_f0 (fun _ h9 => h9) rfl dX10_back_28 ?_
          refine lv_aload_n hx hb dX10_back_31 rfl (lv_at hl 0 rfl) ?_
          obtain ⟨z_32, hc_32, h⟩ := bd_e h
          refine q_vV (As := [.ref a_image0]) (rest := []) (wF := [(a_image1_left, .inl (cI, 8, .inl f_image1_left)), (a_image1_signs, .inl (cI, 8, .inl f_image1_signs)), (a_image1_wordSets, .inl (cI, 3, .inl f_image1_wordSets)), (a_refusals, .inr (3, [w_refusals_tongue, w_refusals_tried, .int refusals_sign, .int refusals_sum, .int refusals_known])), (a_o, .inr (9, [w_o_text, w_o_speech, .ref a_now, .ref a_image0, .ref a_image1, w_o_signs, w_o_reader, w_o_lengths, .ref a_refusals, w_o_two, .int o_measured, .long o_traced])), (a_image1, .inr (0, [.ref a_image1_left, .ref a_image1_signs, .ref a_image1_wordSets, .int image1_sayings, .int image1_words, .int image1_filled])), (a_now, .inr (0, [.ref a_now_left, .ref a_now_signs, .ref a_now_wordSets, .int z_32.1, .int z_32.2.1, .int z_32.2.2.1])), (a_now_left, .inl (cI, 8, .inl z_32.2.2.2.1)), (a_now_signs, .inl (cI, 8, .inl z_32.2.2.2.2.1)), (a_now_wordSets, .inl (cI, 3, .inl z_32.2.2.2.2.2)), (a_image0, .inr (0, [.ref a_image0_left, .ref a_image0_signs, .ref a_image0_wordSets, .int image0_sayings, .int image0_words, .int image0_filled])), (a_image0_left, .inl (cI, 8, .inl f_image0_left)), (a_image0_signs, .inl (cI, 8, .inl f_image0_signs)), (a_image0_wordSets, .inl (cI, 3, .inl f_image0_wordSets))]) hF hA hZ hK hP hD hS (c_X0_copy l D cI cB cZ a_now now_sayings now_words now_filled a_now_left f_now_left a_now_signs f_now_signs a_now_wordSets f_now_wordSets a_image0 image0_sayings image0_words image0_filled a_image0_left f_image0_left a_image0_signs f_image0_signs a_image0_wordSets f_image0_wordSets z_32 hc_32) rfl gX10_back_X0_copy hdX0_copy ⟨rfl, rfl⟩ (Nat.le_of_ble_eq_true rfl) (Nat.le_of_ble_eq_true rfl) 0 0 rfl rfl [0, 1, 2, 3, 13, 4, 5, 6] [7, 8, 9, 10, 11, 12] rfl rfl rfl rfl (by decide) rfl hl.1 rfl (Nat.le_of_ble_eq_true rfl) (Nat.zero_le _) (Nat.zero_le _) dX10_back_32 (fun H locs hP hD hS => ?_)
          refine lv_aload_n hx hb dX10_back_35 rfl (lv_at hl 1 rfl) ?_
          obtain ⟨z_36, hc_36, h⟩ := bd_e h
          refine q_vV (As := []) (rest := []) (wF := [(a_image1_left, .inl (cI, 8, .inl f_image1_left)), (a_image1_signs, .inl (cI, 8, .inl f_image1_signs)), (a_image1_wordSets, .inl (cI, 3, .inl f_image1_wordSets)), (a_image1, .inr (0, [.ref a_image1_left, .ref a_image1_signs, .ref a_image1_wordSets, .int image1_sayings, .int image1_words, .int image1_filled])), (a_now, .inr (0, [.ref a_now_left, .ref a_now_signs, .ref a_now_wordSets, .int z_32.1, .int z_32.2.1, .int z_32.2.2.1])), (a_now_left, .inl (cI, 8, .inl z_32.2.2.2.1)), (a_now_signs, .inl (cI, 8, .inl z_32.2.2.2.2.1)), (a_now_wordSets, .inl (cI, 3, .inl z_32.2.2.2.2.2)), (a_image0, .inr (0, [.ref a_image0_left, .ref a_image0_signs, .ref a_image0_wordSets, .int image0_sayings, .int image0_words, .int image0_filled])), (a_image0_left, .inl (cI, 8, .inl f_image0_left)), (a_image0_signs, .inl (cI, 8, .inl f_image0_signs)), (a_image0_wordSets, .inl (cI, 3, .inl f_image0_wordSets)), (a_o, .inr (9, [w_o_text, w_o_speech, .ref a_now, .ref a_image0, .ref a_image1, w_o_signs, w_o_reader, w_o_lengths, .ref a_refusals, w_o_two, .int z_36.1, .long o_traced])), (a_refusals, .inr (3, [w_refusals_tongue, w_refusals_tried, .int refusals_sign, .int refusals_sum, .int z_36.2]))]) hF hA hZ hK hP hD hS (c_X10_signsChanged l D cI cB cZ a_o w_o_text w_o_speech (.ref a_now) (.ref a_image0) (.ref a_image1) w_o_signs w_o_reader w_o_lengths w_o_two o_measured o_traced a_refusals w_refusals_tongue w_refusals_tried refusals_sign refusals_sum refusals_known z_36 hc_36) rfl gX10_back_X10_signsChanged hdX10_signsChanged ⟨rfl, rfl⟩ (Nat.le_of_ble_eq_true rfl) (Nat.le_of_ble_eq_true rfl) 9 0 rfl rfl [4, 3] [0, 1, 2, 5, 6, 7, 8, 9, 10, 11, 12, 13] rfl rfl rfl rfl (by decide) rfl hl.1 rfl (Nat.le_of_ble_eq_true rfl) (Nat.zero_le _) (Nat.zero_le _) dX10_back_36 (fun H locs hP hD hS => ?_)
          refine lv_aload_n hx hb dX10_back_39 rfl (lv_at hl 1 rfl) ?_
          refine va_get (D := D) (ci := 9) (v := .ref a_now) (C := RX10) (T := TX10) (N := 12) hx hb hts u_X10 hown hK hP 12 rfl rfl 2 (by decide) k_f0 (fun _ h9 => h9) rfl dX10_back_40 ?_
          obtain ⟨z_43, hc_43, h⟩ := bd_e h
          refine q_iV (As := []) (rest := []) (wF := [(a_image1_left, .inl (cI, 8, .inl f_image1_left)), (a_image1_signs, .inl (cI, 8, .inl f_image1_signs)), (a_image1_wordSets, .inl (cI, 3, .inl f_image1_wordSets)), (a_image1, .inr (0, [.ref a_image1_left, .ref a_image1_signs, .ref a_image1_wordSets, .int image1_sayings, .int image1_words, .int image1_filled])), (a_now_left, .inl (cI, 8, .inl z_32.2.2.2.1)), (a_now_signs, .inl (cI, 8, .inl z_32.2.2.2.2.1)), (a_now_wordSets, .inl (cI, 3, .inl z_32.2.2.2.2.2)), (a_image0, .inr (0, [.ref a_image0_left, .ref a_image0_signs, .ref a_image0_wordSets, .int image0_sayings, .int image0_words, .int image0_filled])), (a_image0_left, .inl (cI, 8, .inl f_image0_left)), (a_image0_signs, .inl (cI, 8, .inl f_image0_signs)), (a_image0_wordSets, .inl (cI, 3, .inl f_image0_wordSets)), (a_o, .inr (9, [w_o_text, w_o_speech, .ref a_now, .ref a_image0, .ref a_image1, w_o_signs, w_o_reader, w_o_lengths, .ref a_refusals, w_o_two, .int z_36.1, .long o_traced])), (a_refusals, .inr (3, [w_refusals_tongue, w_refusals_tried, .int refusals_sign, .int refusals_sum, .int z_36.2])), (a_now, .inr (0, [.ref a_now_left, .ref a_now_signs, .ref a_now_wordSets, .int z_32.1, .int z_32.2.1, .int z_32.2.2.1]))]) hF hA hZ hK hP hD hS (c_X0_sayings l D cI cB cZ a_now (.ref a_now_left) (.ref a_now_signs) (.ref a_now_wordSets) z_32.1 z_32.2.1 z_32.2.2.1 z_43 hc_43) rfl gX10_back_X0_sayings hdX0_sayings ⟨rfl, rfl⟩ (Nat.le_of_ble_eq_true rfl) (Nat.le_of_ble_eq_true rfl) 0 0 rfl rfl [4] [0, 1, 2, 3, 5, 6, 7, 8, 9, 10, 11, 12, 13] rfl rfl rfl rfl (by decide) rfl hl.1 rfl (Nat.le_of_ble_eq_true rfl) (Nat.zero_le _) (Nat.zero_le _) dX10_back_43 (fun H locs hP hD hS => ?_)
          have hz := Option.some.inj h
          subst hz
          exact hret H locs 46 ls (fun ty h => by cases h; rfl) (hP.sub [11, 13, 4, 5, 6, 7, 8, 9, 10, 3, 0, 1, 2, 12] rfl) (hD.sub [11, 13, 4, 5, 6, 7, 8, 9, 10, 3, 0, 1, 2, 12] (by decide) rfl) hS dX10_back_46
        · replace h := it_e c_21 h
          refine lv_bipush (v := (-2)) hx hb dX10_back_24 bc_m2 ?_
          have hz := Option.some.inj h
          subst hz
          exact hret H locs 26 ls (fun ty h => by cases h; rfl) (hP.sub [11, 0, 1, 2, 3, 13, 4, 5, 6, 12, 7, 8, 9, 10] rfl) (hD.sub [11, 0, 1, 2, 3, 13, 4, 5, 6, 12, 7, 8, 9, 10] (by decide) rfl) hS dX10_back_26
      · replace h := if_e c_13 h
        refine q_rV (As := [.int p1]) (rest := []) (wF := [(a_now, .inr (0, [.ref a_now_left, .ref a_now_signs, .ref a_now_wordSets, .int now_sayings, .int now_words, .int now_filled])), (a_now_left, .inl (cI, 8, .inl f_now_left)), (a_now_signs, .inl (cI, 8, .inl f_now_signs)), (a_now_wordSets, .inl (cI, 3, .inl f_now_wordSets)), (a_image0_left, .inl (cI, 8, .inl f_image0_left)), (a_image0_signs, .inl (cI, 8, .inl f_image0_signs)), (a_image0_wordSets, .inl (cI, 3, .inl f_image0_wordSets)), (a_image1_left, .inl (cI, 8, .inl f_image1_left)), (a_image1_signs, .inl (cI, 8, .inl f_image1_signs)), (a_image1_wordSets, .inl (cI, 3, .inl f_image1_wordSets)), (a_refusals, .inr (3, [w_refusals_tongue, w_refusals_tried, .int refusals_sign, .int refusals_sum, .int refusals_known])), (a_o, .inr (9, [w_o_text, w_o_speech, .ref a_now, .ref a_image0, .ref a_image1, w_o_signs, w_o_reader, w_o_lengths, .ref a_refusals, w_o_two, .int o_measured, .long o_traced])), (a_image0, .inr (0, [.ref a_image0_left, .ref a_image0_signs, .ref a_image0_wordSets, .int image0_sayings, .int image0_words, .int image0_filled])), (a_image1, .inr (0, [.ref a_image1_left, .ref a_image1_signs, .ref a_image1_wordSets, .int image1_sayings, .int image1_words, .int image1_filled]))]) hF hA hZ hK hP hD hS (c_X10_imageOf_1 l D cI cB cZ a_o w_o_text w_o_speech (.ref a_now) w_o_signs w_o_reader w_o_lengths (.ref a_refusals) w_o_two o_measured o_traced a_image0 (.ref a_image0_left) (.ref a_image0_signs) (.ref a_image0_wordSets) image0_sayings image0_words image0_filled a_image1 (.ref a_image1_left) (.ref a_image1_signs) (.ref a_image1_wordSets) image1_sayings image1_words image1_filled p1 c_13) rfl gX10_back_X10_imageOf hdX10_imageOf ⟨rfl, rfl⟩ (Nat.le_of_ble_eq_true rfl) (Nat.le_of_ble_eq_true rfl) 9 0 rfl rfl [0, 5, 9] [1, 2, 3, 4, 6, 7, 8, 10, 11, 12, 13] rfl rfl rfl rfl (by decide) rfl hl.1 rfl (Nat.le_of_ble_eq_true rfl) (Nat.zero_le _) (Nat.zero_le _) dX10_back_13 (fun H locs hP hD hS => ?_)
        refine lv_astore_n (lv' := [(2, .ref a_image1), (0, .ref a_o), (1, .int p1)]) hx hb dX10_back_16 rfl hl (by decide) rfl (fun ls hl => ?_)
        refine lv_aload_n hx hb dX10_back_17 rfl (lv_at hl 0 rfl) ?_
        obtain ⟨z_18, hc_18, h⟩ := bd_e h
        refine q_iV (As := []) (rest := []) (wF := [(a_now, .inr (0, [.ref a_now_left, .ref a_now_signs, .ref a_now_wordSets, .int now_sayings, .int now_words, .int now_filled])), (a_now_left, .inl (cI, 8, .inl f_now_left)), (a_now_signs, .inl (cI, 8, .inl f_now_signs)), (a_now_wordSets, .inl (cI, 3, .inl f_now_wordSets)), (a_image0_left, .inl (cI, 8, .inl f_image0_left)), (a_image0_signs, .inl (cI, 8, .inl f_image0_signs)), (a_image0_wordSets, .inl (cI, 3, .inl f_image0_wordSets)), (a_image1_left, .inl (cI, 8, .inl f_image1_left)), (a_image1_signs, .inl (cI, 8, .inl f_image1_signs)), (a_image1_wordSets, .inl (cI, 3, .inl f_image1_wordSets)), (a_refusals, .inr (3, [w_refusals_tongue, w_refusals_tried, .int refusals_sign, .int refusals_sum, .int refusals_known])), (a_o, .inr (9, [w_o_text, w_o_speech, .ref a_now, .ref a_image0, .ref a_image1, w_o_signs, w_o_reader, w_o_lengths, .ref a_refusals, w_o_two, .int o_measured, .long o_traced])), (a_image0, .inr (0, [.ref a_image0_left, .ref a_image0_signs, .ref a_image0_wordSets, .int image0_sayings, .int image0_words, .int image0_filled])), (a_image1, .inr (0, [.ref a_image1_left, .ref a_image1_signs, .ref a_image1_wordSets, .int image1_sayings, .int image1_words, .int image1_filled]))]) hF hA hZ hK hP hD hS (c_X0_isFilled l D cI cB cZ a_image1 (.ref a_image1_left) (.ref a_image1_signs) (.ref a_image1_wordSets) image1_sayings image1_words image1_filled z_18 hc_18) rfl gX10_back_X0_isFilled hdX0_isFilled ⟨rfl, rfl⟩ (Nat.le_of_ble_eq_true rfl) (Nat.le_of_ble_eq_true rfl) 0 0 rfl rfl [13] [0, 1, 2, 3, 4, 5, 6, 7, 8, 9, 10, 11, 12] rfl rfl rfl rfl (by decide) rfl hl.1 rfl (Nat.le_of_ble_eq_true rfl) (Nat.zero_le _) (Nat.zero_le _) dX10_back_18 (fun H locs hP hD hS => ?_)
        refine lv_if_ne (tgt := 27) hx hb dX10_back_21 (by decide) (fun c_21 => ?_) (fun c_21 => ?_)
        · replace h := if_e c_21 h
          refine lv_aload_n hx hb dX10_back_27 rfl (lv_at hl 1 rfl) ?_
          refine va_get (D := D) (ci := 9) (v := .ref a_now) (C := RX10) (T := TX10) (N := 12) hx hb hts u_X10 hown hK hP 11 rfl rfl 2 (by decide) k_f0 (fun _ h9 => h9) rfl dX10_back_28 ?_
          refine lv_aload_n hx hb dX10_back_31 rfl (lv_at hl 0 rfl) ?_
          obtain ⟨z_32, hc_32, h⟩ := bd_e h
          refine q_vV (As := [.ref a_image1]) (rest := []) (wF := [(a_image0_left, .inl (cI, 8, .inl f_image0_left)), (a_image0_signs, .inl (cI, 8, .inl f_image0_signs)), (a_image0_wordSets, .inl (cI, 3, .inl f_image0_wordSets)), (a_refusals, .inr (3, [w_refusals_tongue, w_refusals_tried, .int refusals_sign, .int refusals_sum, .int refusals_known])), (a_o, .inr (9, [w_o_text, w_o_speech, .ref a_now, .ref a_image0, .ref a_image1, w_o_signs, w_o_reader, w_o_lengths, .ref a_refusals, w_o_two, .int o_measured, .long o_traced])), (a_image0, .inr (0, [.ref a_image0_left, .ref a_image0_signs, .ref a_image0_wordSets, .int image0_sayings, .int image0_words, .int image0_filled])), (a_now, .inr (0, [.ref a_now_left, .ref a_now_signs, .ref a_now_wordSets, .int z_32.1, .int z_32.2.1, .int z_32.2.2.1])), (a_now_left, .inl (cI, 8, .inl z_32.2.2.2.1)), (a_now_signs, .inl (cI, 8, .inl z_32.2.2.2.2.1)), (a_now_wordSets, .inl (cI, 3, .inl z_32.2.2.2.2.2)), (a_image1, .inr (0, [.ref a_image1_left, .ref a_image1_signs, .ref a_image1_wordSets, .int image1_sayings, .int image1_words, .int image1_filled])), (a_image1_left, .inl (cI, 8, .inl f_image1_left)), (a_image1_signs, .inl (cI, 8, .inl f_image1_signs)), (a_image1_wordSets, .inl (cI, 3, .inl f_image1_wordSets))]) hF hA hZ hK hP hD hS (c_X0_copy l D cI cB cZ a_now now_sayings now_words now_filled a_now_left f_now_left a_now_signs f_now_signs a_now_wordSets f_now_wordSets a_image1 image1_sayings image1_words image1_filled a_image1_left f_image1_left a_image1_signs f_image1_signs a_image1_wordSets f_image1_wordSets z_32 hc_32) rfl gX10_back_X0_copy hdX0_copy ⟨rfl, rfl⟩ (Nat.le_of_ble_eq_true rfl) (Nat.le_of_ble_eq_true rfl) 0 0 rfl rfl [0, 1, 2, 3, 13, 7, 8, 9] [4, 5, 6, 10, 11, 12] rfl rfl rfl rfl (by decide) rfl hl.1 rfl (Nat.le_of_ble_eq_true rfl) (Nat.zero_le _) (Nat.zero_le _) dX10_back_32 (fun H locs hP hD hS => ?_)
          refine lv_aload_n hx hb dX10_back_35 rfl (lv_at hl 1 rfl) ?_
          obtain ⟨z_36, hc_36, h⟩ := bd_e h
          refine q_vV (As := []) (rest := []) (wF := [(a_image0_left, .inl (cI, 8, .inl f_image0_left)), (a_image0_signs, .inl (cI, 8, .inl f_image0_signs)), (a_image0_wordSets, .inl (cI, 3, .inl f_image0_wordSets)), (a_image0, .inr (0, [.ref a_image0_left, .ref a_image0_signs, .ref a_image0_wordSets, .int image0_sayings, .int image0_words, .int image0_filled])), (a_now, .inr (0, [.ref a_now_left, .ref a_now_signs, .ref a_now_wordSets, .int z_32.1, .int z_32.2.1, .int z_32.2.2.1])), (a_now_left, .inl (cI, 8, .inl z_32.2.2.2.1)), (a_now_signs, .inl (cI, 8, .inl z_32.2.2.2.2.1)), (a_now_wordSets, .inl (cI, 3, .inl z_32.2.2.2.2.2)), (a_image1, .inr (0, [.ref a_image1_left, .ref a_image1_signs, .ref a_image1_wordSets, .int image1_sayings, .int image1_words, .int image1_filled])), (a_image1_left, .inl (cI, 8, .inl f_image1_left)), (a_image1_signs, .inl (cI, 8, .inl f_image1_signs)), (a_image1_wordSets, .inl (cI, 3, .inl f_image1_wordSets)), (a_o, .inr (9, [w_o_text, w_o_speech, .ref a_now, .ref a_image0, .ref a_image1, w_o_signs, w_o_reader, w_o_lengths, .ref a_refusals, w_o_two, .int z_36.1, .long o_traced])), (a_refusals, .inr (3, [w_refusals_tongue, w_refusals_tried, .int refusals_sign, .int refusals_sum, .int z_36.2]))]) hF hA hZ hK hP hD hS (c_X10_signsChanged l D cI cB cZ a_o w_o_text w_o_speech (.ref a_now) (.ref a_image0) (.ref a_image1) w_o_signs w_o_reader w_o_lengths w_o_two o_measured o_traced a_refusals w_refusals_tongue w_refusals_tried refusals_sign refusals_sum refusals_known z_36 hc_36) rfl gX10_back_X10_signsChanged hdX10_signsChanged ⟨rfl, rfl⟩ (Nat.le_of_ble_eq_true rfl) (Nat.le_of_ble_eq_true rfl) 9 0 rfl rfl [4, 3] [0, 1, 2, 5, 6, 7, 8, 9, 10, 11, 12, 13] rfl rfl rfl rfl (by decide) rfl hl.1 rfl (Nat.le_of_ble_eq_true rfl) (Nat.zero_le _) (Nat.zero_le _) dX10_back_36 (fun H locs hP hD hS => ?_)
          refine lv_aload_n hx hb dX10_back_39 rfl (lv_at hl 1 rfl) ?_
          refine va_get (D := D) (ci := 9) (v := .ref a_now) (C := RX10) (T := TX10) (N := 12) hx hb hts u_X10 hown hK hP 12 rfl rfl 2 (by decide) k_f0 (fun _ h9 => h9) rfl dX10_back_40 ?_
          obtain ⟨z_43, hc_43, h⟩ := bd_e h
          refine q_iV (As := []) (rest := []) (wF := [(a_image0_left, .inl (cI, 8, .inl f_image0_left)), (a_image0_signs, .inl (cI, 8, .inl f_image0_signs)), (a_image0_wordSets, .inl (cI, 3, .inl f_image0_wordSets)), (a_image0, .inr (0, [.ref a_image0_left, .ref a_image0_signs, .ref a_image0_wordSets, .int image0_sayings, .int image0_words, .int image0_filled])), (a_now_left, .inl (cI, 8, .inl z_32.2.2.2.1)), (a_now_signs, .inl (cI, 8, .inl z_32.2.2.2.2.1)), (a_now_wordSets, .inl (cI, 3, .inl z_32.2.2.2.2.2)), (a_image1, .inr (0, [.ref a_image1_left, .ref a_image1_signs, .ref a_image1_wordSets, .int image1_sayings, .int image1_words, .int image1_filled])), (a_image1_left, .inl (cI, 8, .inl f_image1_left)), (a_image1_signs, .inl (cI, 8, .inl f_image1_signs)), (a_image1_wordSets, .inl (cI, 3, .inl f_image1_wordSets)), (a_o, .inr (9, [w_o_text, w_o_speech, .ref a_now, .ref a_image0, .ref a_image1, w_o_signs, w_o_reader, w_o_lengths, .ref a_refusals, w_o_two, .int z_36.1, .long o_traced])), (a_refusals, .inr (3, [w_refusals_tongue, w_refusals_tried, .int refusals_sign, .int refusals_sum, .int z_36.2])), (a_now, .inr (0, [.ref a_now_left, .ref a_now_signs, .ref a_now_wordSets, .int z_32.1, .int z_32.2.1, .int z_32.2.2.1]))]) hF hA hZ hK hP hD hS (c_X0_sayings l D cI cB cZ a_now (.ref a_now_left) (.ref a_now_signs) (.ref a_now_wordSets) z_32.1 z_32.2.1 z_32.2.2.1 z_43 hc_43) rfl gX10_back_X0_sayings hdX0_sayings ⟨rfl, rfl⟩ (Nat.le_of_ble_eq_true rfl) (Nat.le_of_ble_eq_true rfl) 0 0 rfl rfl [4] [0, 1, 2, 3, 5, 6, 7, 8, 9, 10, 11, 12, 13] rfl rfl rfl rfl (by decide) rfl hl.1 rfl (Nat.le_of_ble_eq_true rfl) (Nat.zero_le _) (Nat.zero_le _) dX10_back_43 (fun H locs hP hD hS => ?_)
          have hz := Option.some.inj h
          subst hz
          exact hret H locs 46 ls (fun ty h => by cases h; rfl) (hP.sub [11, 13, 4, 5, 6, 3, 0, 1, 2, 7, 8, 9, 10, 12] rfl) (hD.sub [11, 13, 4, 5, 6, 3, 0, 1, 2, 7, 8, 9, 10, 12] (by decide) rfl) hS dX10_back_46
        · replace h := it_e c_21 h
          refine lv_bipush (v := (-2)) hx hb dX10_back_24 bc_m2 ?_
          have hz := Option.some.inj h
          subst hz
          exact hret H locs 26 ls (fun ty h => by cases h; rfl) (hP.sub [11, 0, 1, 2, 3, 12, 4, 5, 6, 13, 7, 8, 9, 10] rfl) (hD.sub [11, 0, 1, 2, 3, 12, 4, 5, 6, 13, 7, 8, 9, 10] (by decide) rfl) hS dX10_back_26
    · replace h := if_e c_6 h
      refine lv_iconst (v := (-1)) hx hb dX10_back_9 ic_m1 ?_
      have hz := Option.some.inj h
      subst hz
      exact hret H locs 10 ls (fun ty h => by cases h; rfl) hP hD hS dX10_back_10
abbrev rmX10_count : Room := { frames := 1, cells := 0, slots := 0, locals := 20 }
theorem hdX10_count : yX10_count.cls = RX10 ∧ yX10_count.cls ≠ "java/lang/invoke/MethodHandle" ∧ yX10_count.cls ≠ "java/lang/invoke/VarHandle" ∧ (parseMethodDescriptor yX10_count.desc).map (fun d => d.parameters.length) = some 1 := by decide +kernel
set_option maxRecDepth 100000 in
set_option maxHeartbeats 4000000 in
theorem c_X10_count (l : Launch) (D : va_G) (cI cB cZ : ClassId) (a_o : Nat) (w_o_image0 : Value) (w_o_image1 : Value) (w_o_signs : Value) (w_o_reader : Value) (w_o_lengths : Value) (w_o_refusals : Value) (w_o_two : Value) (o_measured : Int32) (o_traced : Int64) (a_text : Nat) (w_text_bytes : Value) (text_size : Int32) (a_speech : Nat) (w_speech_values : Value) (w_speech_left : Value) (speech_choices : Int32) (speech_worlds : Int32) (a_now : Nat) (w_now_left : Value) (w_now_signs : Value) (w_now_wordSets : Value) (now_sayings : Int32) (now_words : Int32) (now_filled : Int32) (p1 : Int32) (z : Int32) (h : P_X10_count p1 text_size speech_choices speech_worlds now_sayings now_words = some z) : KI l yX10_count wsX10_count rmX10_count D [(cI, .int), (cB, .byte), (cZ, .boolean)] [.ref a_o, .int p1] [(a_o, .inr (9, [.ref a_text, .ref a_speech, .ref a_now, w_o_image0, w_o_image1, w_o_signs, w_o_reader, w_o_lengths, w_o_refusals, w_o_two, .int o_measured, .long o_traced])), (a_text, .inr (5, [w_text_bytes, .int text_size])), (a_speech, .inr (7, [w_speech_values, w_speech_left, .int speech_choices, .int speech_worlds])), (a_now, .inr (0, [w_now_left, w_now_signs, w_now_wordSets, .int now_sayings, .int now_words, .int now_filled]))] [(a_o, .inr (9, [.ref a_text, .ref a_speech, .ref a_now, w_o_image0, w_o_image1, w_o_signs, w_o_reader, w_o_lengths, w_o_refusals, w_o_two, .int o_measured, .long o_traced])), (a_text, .inr (5, [w_text_bytes, .int text_size])), (a_speech, .inr (7, [w_speech_values, w_speech_left, .int speech_choices, .int speech_worlds])), (a_now, .inr (0, [w_now_left, w_now_signs, w_now_wordSets, .int now_sayings, .int now_words, .int now_filled]))] z := by
  refine KI_of (own := RX10) (cc := cX10_count) (maxL := 2) (ret := some .int) (by decide) rfl rfl (Nat.le_of_ble_eq_true rfl) (Or.inl rfl) ?_
  intro p e s m args below meth c A Q hx hb hml hown hts hA hZ hK hret H locs ls hP hD hS hl
  have hl : lv_has ls 2 [(0, .ref a_o), (1, .int p1)] := hl
  have hF : CallFix p m c cX10_count 2 s args wsX10_count RX10 := ⟨hx, hb, hml, hown, hts⟩
  have u_X10 : ∀ w ∈ u_ws RX10 TX10 12, w ∈ wsX10_count := by decide +kernel
  have k_f0 := hts (.fieldLink RX10 19 "NoWordNo" "speech" "LNoWordNo$Tongue;") (by decide +kernel)
  have k_f1 := hts (.fieldLink RX10 26 "NoWordNo" "now" "LNoWordNo$Kept;") (by decide +kernel)
  have k_f2 := hts (.fieldLink RX10 10 "NoWordNo" "text" "LNoWordNo$Text;") (by decide +kernel)
  unfold P_X10_count at h
  refine lv_iload_n hx hb dX10_count_0 rfl (lv_at hl 1 rfl) ?_
  by_cases c_1_0 : p1 = 0
  · replace h := it_e c_1_0 h
    refine lv_tableIn (tgt := 36) hx hb dX10_count_1 (by rw [c_1_0]; decide) (by rw [c_1_0]; decide) (by rw [c_1_0]; rfl) (by decide) ?_
    refine lv_aload_n hx hb dX10_count_36 rfl (lv_at hl 0 rfl) ?_
    refine va_get (D := D) (ci := 9) (v := .ref a_speech) (C := RX10) (T := TX10) (N := 12) hx hb hts u_X10 hown hK hP 0 rfl rfl 1 (by decide) k_f0 (fun _ h9 => h9) rfl dX10_count_37 ?_
    obtain ⟨z_40, hc_40, h⟩ := bd_e h
    refine q_iV (As := []) (rest := []) (wF := [(a_o, .inr (9, [.ref a_text, .ref a_speech, .ref a_now, w_o_image0, w_o_image1, w_o_signs, w_o_reader, w_o_lengths, w_o_refusals, w_o_two, .int o_measured, .long o_traced])), (a_text, .inr (5, [w_text_bytes, .int text_size])), (a_now, .inr (0, [w_now_left, w_now_signs, w_now_wordSets, .int now_sayings, .int now_words, .int now_filled])), (a_speech, .inr (7, [w_speech_values, w_speech_left, .int speech_choices, .int speech_worlds]))]) hF hA hZ hK hP hD hS (c_X8_choices l D cI cB cZ a_speech w_speech_values w_speech_left speech_choices speech_worlds z_40 hc_40) rfl gX10_count_X8_choices hdX8_choices ⟨rfl, rfl⟩ (Nat.le_of_ble_eq_true rfl) (Nat.le_of_ble_eq_true rfl) 7 0 rfl rfl [2] [0, 1, 3] rfl rfl rfl rfl (by decide) rfl hl.1 rfl (Nat.le_of_ble_eq_true rfl) (Nat.zero_le _) (Nat.zero_le _) dX10_count_40 (fun H locs hP hD hS => ?_)
    have hz := Option.some.inj h
    subst hz
    exact hret H locs 43 ls (fun ty h => by cases h; rfl) (hP.sub [0, 1, 3, 2] rfl) (hD.sub [0, 1, 3, 2] (by decide) rfl) hS dX10_count_43
  replace h := if_e c_1_0 h
  by_cases c_1_1 : p1 = 1
  · replace h := it_e c_1_1 h
    refine lv_tableIn (tgt := 44) hx hb dX10_count_1 (by rw [c_1_1]; decide) (by rw [c_1_1]; decide) (by rw [c_1_1]; rfl) (by decide) ?_
    refine lv_aload_n hx hb dX10_count_44 rfl (lv_at hl 0 rfl) ?_
    refine va_get (D := D) (ci := 9) (v := .ref a_speech) (C := RX10) (T := TX10) (N := 12) hx hb hts u_X10 hown hK hP 0 rfl rfl 1 (by decide) k_f0 (fun _ h9 => h9) rfl dX10_count_45 ?_
    obtain ⟨z_48, hc_48, h⟩ := bd_e h
    refine q_iV (As := []) (rest := []) (wF := [(a_o, .inr (9, [.ref a_text, .ref a_speech, .ref a_now, w_o_image0, w_o_image1, w_o_signs, w_o_reader, w_o_lengths, w_o_refusals, w_o_two, .int o_measured, .long o_traced])), (a_text, .inr (5, [w_text_bytes, .int text_size])), (a_now, .inr (0, [w_now_left, w_now_signs, w_now_wordSets, .int now_sayings, .int now_words, .int now_filled])), (a_speech, .inr (7, [w_speech_values, w_speech_left, .int speech_choices, .int speech_worlds]))]) hF hA hZ hK hP hD hS (c_X8_worlds l D cI cB cZ a_speech w_speech_values w_speech_left speech_choices speech_worlds z_48 hc_48) rfl gX10_count_X8_worlds hdX8_worlds ⟨rfl, rfl⟩ (Nat.le_of_ble_eq_true rfl) (Nat.le_of_ble_eq_true rfl) 7 0 rfl rfl [2] [0, 1, 3] rfl rfl rfl rfl (by decide) rfl hl.1 rfl (Nat.le_of_ble_eq_true rfl) (Nat.zero_le _) (Nat.zero_le _) dX10_count_48 (fun H locs hP hD hS => ?_)
    have hz := Option.some.inj h
    subst hz
    exact hret H locs 51 ls (fun ty h => by cases h; rfl) (hP.sub [0, 1, 3, 2] rfl) (hD.sub [0, 1, 3, 2] (by decide) rfl) hS dX10_count_51
  replace h := if_e c_1_1 h
  by_cases c_1_2 : p1 = 2
  · replace h := it_e c_1_2 h
    refine lv_tableIn (tgt := 52) hx hb dX10_count_1 (by rw [c_1_2]; decide) (by rw [c_1_2]; decide) (by rw [c_1_2]; rfl) (by decide) ?_
    refine lv_aload_n hx hb dX10_count_52 rfl (lv_at hl 0 rfl) ?_
    refine va_get (D := D) (ci := 9) (v := .ref a_now) (C := RX10) (T := TX10) (N := 12) hx hb hts u_X10 hown hK hP 0 rfl rfl 2 (by decide) k_f1 (fun _ h9 => h9) rfl dX10_count_53 ?_
    obtain ⟨z_56, hc_56, h⟩ := bd_e h
    refine q_iV (As := []) (rest := []) (wF := [(a_o, .inr (9, [.ref a_text, .ref a_speech, .ref a_now, w_o_image0, w_o_image1, w_o_signs, w_o_reader, w_o_lengths, w_o_refusals, w_o_two, .int o_measured, .long o_traced])), (a_text, .inr (5, [w_text_bytes, .int text_size])), (a_speech, .inr (7, [w_speech_values, w_speech_left, .int speech_choices, .int speech_worlds])), (a_now, .inr (0, [w_now_left, w_now_signs, w_now_wordSets, .int now_sayings, .int now_words, .int now_filled]))]) hF hA hZ hK hP hD hS (c_X0_sayings l D cI cB cZ a_now w_now_left w_now_signs w_now_wordSets now_sayings now_words now_filled z_56 hc_56) rfl gX10_count_X0_sayings hdX0_sayings ⟨rfl, rfl⟩ (Nat.le_of_ble_eq_true rfl) (Nat.le_of_ble_eq_true rfl) 0 0 rfl rfl [3] [0, 1, 2] rfl rfl rfl rfl (by decide) rfl hl.1 rfl (Nat.le_of_ble_eq_true rfl) (Nat.zero_le _) (Nat.zero_le _) dX10_count_56 (fun H locs hP hD hS => ?_)
    have hz := Option.some.inj h
    subst hz
    exact hret H locs 59 ls (fun ty h => by cases h; rfl) hP hD hS dX10_count_59
  replace h := if_e c_1_2 h
  by_cases c_1_3 : p1 = 3
  · replace h := it_e c_1_3 h
    refine lv_tableIn (tgt := 60) hx hb dX10_count_1 (by rw [c_1_3]; decide) (by rw [c_1_3]; decide) (by rw [c_1_3]; rfl) (by decide) ?_
    refine lv_aload_n hx hb dX10_count_60 rfl (lv_at hl 0 rfl) ?_
    refine va_get (D := D) (ci := 9) (v := .ref a_now) (C := RX10) (T := TX10) (N := 12) hx hb hts u_X10 hown hK hP 0 rfl rfl 2 (by decide) k_f1 (fun _ h9 => h9) rfl dX10_count_61 ?_
    obtain ⟨z_64, hc_64, h⟩ := bd_e h
    refine q_iV (As := []) (rest := []) (wF := [(a_o, .inr (9, [.ref a_text, .ref a_speech, .ref a_now, w_o_image0, w_o_image1, w_o_signs, w_o_reader, w_o_lengths, w_o_refusals, w_o_two, .int o_measured, .long o_traced])), (a_text, .inr (5, [w_text_bytes, .int text_size])), (a_speech, .inr (7, [w_speech_values, w_speech_left, .int speech_choices, .int speech_worlds])), (a_now, .inr (0, [w_now_left, w_now_signs, w_now_wordSets, .int now_sayings, .int now_words, .int now_filled]))]) hF hA hZ hK hP hD hS (c_X0_words l D cI cB cZ a_now w_now_left w_now_signs w_now_wordSets now_sayings now_words now_filled z_64 hc_64) rfl gX10_count_X0_words hdX0_words ⟨rfl, rfl⟩ (Nat.le_of_ble_eq_true rfl) (Nat.le_of_ble_eq_true rfl) 0 0 rfl rfl [3] [0, 1, 2] rfl rfl rfl rfl (by decide) rfl hl.1 rfl (Nat.le_of_ble_eq_true rfl) (Nat.zero_le _) (Nat.zero_le _) dX10_count_64 (fun H locs hP hD hS => ?_)
    have hz := Option.some.inj h
    subst hz
    exact hret H locs 67 ls (fun ty h => by cases h; rfl) hP hD hS dX10_count_67
  replace h := if_e c_1_3 h
  by_cases c_1_4 : p1 = 4
  · replace h := it_e c_1_4 h
    refine lv_tableIn (tgt := 68) hx hb dX10_count_1 (by rw [c_1_4]; decide) (by rw [c_1_4]; decide) (by rw [c_1_4]; rfl) (by decide) ?_
    refine lv_aload_n hx hb dX10_count_68 rfl (lv_at hl 0 rfl) ?_
    refine va_get (D := D) (ci := 9) (v := .ref a_text) (C := RX10) (T := TX10) (N := 12) hx hb hts u_X10 hown hK hP 0 rfl rfl 0 (by decide) k_f2 (fun _ h9 => h9) rfl dX10_count_69 ?_
    obtain ⟨z_72, hc_72, h⟩ := bd_e h
    refine q_iV (As := []) (rest := []) (wF := [(a_o, .inr (9, [.ref a_text, .ref a_speech, .ref a_now, w_o_image0, w_o_image1, w_o_signs, w_o_reader, w_o_lengths, w_o_refusals, w_o_two, .int o_measured, .long o_traced])), (a_speech, .inr (7, [w_speech_values, w_speech_left, .int speech_choices, .int speech_worlds])), (a_now, .inr (0, [w_now_left, w_now_signs, w_now_wordSets, .int now_sayings, .int now_words, .int now_filled])), (a_text, .inr (5, [w_text_bytes, .int text_size]))]) hF hA hZ hK hP hD hS (c_X6_size l D cI cB cZ a_text w_text_bytes text_size z_72 hc_72) rfl gX10_count_X6_size hdX6_size ⟨rfl, rfl⟩ (Nat.le_of_ble_eq_true rfl) (Nat.le_of_ble_eq_true rfl) 5 0 rfl rfl [1] [0, 2, 3] rfl rfl rfl rfl (by decide) rfl hl.1 rfl (Nat.le_of_ble_eq_true rfl) (Nat.zero_le _) (Nat.zero_le _) dX10_count_72 (fun H locs hP hD hS => ?_)
    have hz := Option.some.inj h
    subst hz
    exact hret H locs 75 ls (fun ty h => by cases h; rfl) (hP.sub [0, 3, 1, 2] rfl) (hD.sub [0, 3, 1, 2] (by decide) rfl) hS dX10_count_75
  replace h := if_e c_1_4 h
  refine lv_tableOut (tgt := 76) hx hb dX10_count_1 (q_out5 c_1_0 c_1_1 c_1_2 c_1_3 c_1_4) (by decide) ?_
  refine lv_iconst (v := (-1)) hx hb dX10_count_76 ic_m1 ?_
  have hz := Option.some.inj h
  subst hz
  exact hret H locs 77 ls (fun ty h => by cases h; rfl) hP hD hS dX10_count_77
abbrev rmX10_trace : Room := { frames := 0, cells := 0, slots := 0, locals := 0 }
theorem hdX10_trace : yX10_trace.cls = RX10 ∧ yX10_trace.cls ≠ "java/lang/invoke/MethodHandle" ∧ yX10_trace.cls ≠ "java/lang/invoke/VarHandle" ∧ (parseMethodDescriptor yX10_trace.desc).map (fun d => d.parameters.length) = some 0 := by decide +kernel
set_option maxRecDepth 100000 in
set_option maxHeartbeats 4000000 in
theorem c_X10_trace (l : Launch) (D : va_G) (cI cB cZ : ClassId) (a_o : Nat) (w_o_text : Value) (w_o_speech : Value) (w_o_now : Value) (w_o_image0 : Value) (w_o_image1 : Value) (w_o_signs : Value) (w_o_reader : Value) (w_o_lengths : Value) (w_o_refusals : Value) (w_o_two : Value) (o_measured : Int32) (o_traced : Int64) (z : Int64) (h : P_X10_trace o_traced = some z) : KL l yX10_trace wsX10_trace rmX10_trace D [(cI, .int), (cB, .byte), (cZ, .boolean)] [.ref a_o] [(a_o, .inr (9, [w_o_text, w_o_speech, w_o_now, w_o_image0, w_o_image1, w_o_signs, w_o_reader, w_o_lengths, w_o_refusals, w_o_two, .int o_measured, .long o_traced]))] [(a_o, .inr (9, [w_o_text, w_o_speech, w_o_now, w_o_image0, w_o_image1, w_o_signs, w_o_reader, w_o_lengths, w_o_refusals, w_o_two, .int o_measured, .long o_traced]))] z := by
  refine KL_of (own := RX10) (cc := cX10_trace) (maxL := 1) (by decide) rfl rfl (Nat.le_of_ble_eq_true rfl) ?_
  intro p e s m args below meth c A Q hx hb hml hown hts hA hZ hK hret H locs ls hP hD hS hl
  have hl : lv_has ls 1 [(0, .ref a_o)] := hl
  have hF : CallFix p m c cX10_trace 1 s args wsX10_trace RX10 := ⟨hx, hb, hml, hown, hts⟩
  have u_X10 : ∀ w ∈ u_ws RX10 TX10 12, w ∈ wsX10_trace := by decide +kernel
  have k_f0 := hts (.fieldLink RX10 85 "NoWordNo" "traced" "J") (by decide +kernel)
  unfold P_X10_trace at h
  refine lv_aload_n hx hb dX10_trace_0 rfl (lv_at hl 0 rfl) ?_
  refine va_get (D := D) (ci := 9) (v := .long o_traced) (C := RX10) (T := TX10) (N := 12) hx hb hts u_X10 hown hK hP 0 rfl rfl 11 (by decide) k_f0 (fun _ h9 => h9) rfl dX10_trace_1 ?_
  have hz := Option.some.inj h
  subst hz
  exact hret H locs 4 ls hP hD hS dX10_trace_4
abbrev rmX11_in : Room := { frames := 0, cells := 0, slots := 0, locals := 0 }
theorem hdX11_in : yX11_in.cls ≠ "java/lang/invoke/MethodHandle" ∧ yX11_in.cls ≠ "java/lang/invoke/VarHandle" ∧ (parseMethodDescriptor yX11_in.desc).map (fun d => d.parameters.length) = some 3 := by decide +kernel
set_option maxRecDepth 100000 in
set_option maxHeartbeats 4000000 in
theorem c_X11_in (l : Launch) (D : va_G) (cI cB cZ : ClassId) (p0 : Int32) (p1 : Int32) (p2 : Int32) (z : Int32) (h : P_X11_in p0 p1 p2 = some z) : KI l yX11_in wsX11_in rmX11_in D [(cI, .int), (cB, .byte), (cZ, .boolean)] [.int p0, .int p1, .int p2] [] [] z := by
  refine KI_of (own := RX11) (cc := cX11_in) (maxL := 3) (ret := some .boolean) (by decide) rfl rfl (Nat.le_of_ble_eq_true rfl) (Or.inr rfl) ?_
  intro p e s m args below meth c A Q hx hb hml hown hts hA hZ hK hret H locs ls hP hD hS hl
  have hl : lv_has ls 3 [(0, .int p0), (1, .int p1), (2, .int p2)] := hl
  have hF : CallFix p m c cX11_in 3 s args wsX11_in RX11 := ⟨hx, hb, hml, hown, hts⟩
  unfold P_X11_in at h
  refine lv_iload_n hx hb dX11_in_0 rfl (lv_at hl 0 rfl) ?_
  refine lv_iload_n hx hb dX11_in_1 rfl (lv_at hl 1 rfl) ?_
  refine lv_icmp_lt (tgt := 14) hx hb dX11_in_2 (by decide) (fun c_2 => ?_) (fun c_2 => ?_)
  · replace h := it_e c_2 h
    refine lv_iconst (v := 0) hx hb dX11_in_14 ic_0 ?_
    have hz := Option.some.inj h
    subst hz
    exact hret H locs 15 ls (fun ty h => by cases h; exact nar_0) hP hD hS dX11_in_15
  · replace h := if_e c_2 h
    refine lv_iload_n hx hb dX11_in_5 rfl (lv_at hl 0 rfl) ?_
    refine lv_iload_n hx hb dX11_in_6 rfl (lv_at hl 2 rfl) ?_
    refine lv_icmp_gt (tgt := 14) hx hb dX11_in_7 (by decide) (fun c_7 => ?_) (fun c_7 => ?_)
    · replace h := it_e c_7 h
      refine lv_iconst (v := 0) hx hb dX11_in_14 ic_0 ?_
      have hz := Option.some.inj h
      subst hz
      exact hret H locs 15 ls (fun ty h => by cases h; exact nar_0) hP hD hS dX11_in_15
    · replace h := if_e c_7 h
      refine lv_iconst (v := 1) hx hb dX11_in_10 ic_1 ?_
      refine lv_goto (tgt := 15) hx hb dX11_in_11 (by decide) ?_
      have hz := Option.some.inj h
      subst hz
      exact hret H locs 15 ls (fun ty h => by cases h; exact nar_1) hP hD hS dX11_in_15
abbrev rmX11_type : Room := { frames := 1, cells := 0, slots := 0, locals := 22 }
theorem hdX11_type : yX11_type.cls = RX11 ∧ yX11_type.cls ≠ "java/lang/invoke/MethodHandle" ∧ yX11_type.cls ≠ "java/lang/invoke/VarHandle" ∧ (parseMethodDescriptor yX11_type.desc).map (fun d => d.parameters.length) = some 2 := by decide +kernel
set_option maxRecDepth 100000 in
set_option maxHeartbeats 4000000 in
theorem c_X11_type (l : Launch) (D : va_G) (cI cB cZ : ClassId) (a_o : Nat) (o_trace : Int64) (o_typed : Int32) (o_choices : Int32) (o_worlds : Int32) (w_o_values : Value) (o_at : Int32) (o_start : Int32) (o_sort : Int32) (o_value : Int32) (o_fault : Int32) (w_o_draft : Value) (w_o_sayings : Value) (w_o_leaves : Value) (w_o_signs : Value) (w_o_words : Value) (w_o_word : Value) (w_o_isKept : Value) (w_o_some : Value) (w_o_every : Value) (o_deep : Int32) (o_many : Int32) (w_o_length : Value) (w_o_found : Value) (o_foundMany : Int32) (a_text : Nat) (f_text : Nat → Int32) (p1 : Int64) (p3 : Int32) (z : Int32 × Int32 × (Nat → Int32)) (h : P_X11_type p1 p3 o_typed f_text = some z) : KI l yX11_type wsX11_type rmX11_type D [(cI, .int), (cB, .byte), (cZ, .boolean)] [.ref a_o, .long p1, .int p3] [(a_o, .inr (10, [.long o_trace, .ref a_text, .int o_typed, .int o_choices, .int o_worlds, w_o_values, .int o_at, .int o_start, .int o_sort, .int o_value, .int o_fault, w_o_draft, w_o_sayings, w_o_leaves, w_o_signs, w_o_words, w_o_word, w_o_isKept, w_o_some, w_o_every, .int o_deep, .int o_many, w_o_length, w_o_found, .int o_foundMany])), (a_text, .inl (cB, 200, .inl f_text))] [(a_o, .inr (10, [.long o_trace, .ref a_text, .int z.2.1, .int o_choices, .int o_worlds, w_o_values, .int o_at, .int o_start, .int o_sort, .int o_value, .int o_fault, w_o_draft, w_o_sayings, w_o_leaves, w_o_signs, w_o_words, w_o_word, w_o_isKept, w_o_some, w_o_every, .int o_deep, .int o_many, w_o_length, w_o_found, .int o_foundMany])), (a_text, .inl (cB, 200, .inl z.2.2))] z.1 := by
  refine KI_of (own := RX11) (cc := cX11_type) (maxL := 5) (ret := some .int) (by decide) rfl rfl (Nat.le_of_ble_eq_true rfl) (Or.inl rfl) ?_
  intro p e s m args below meth c A Q hx hb hml hown hts hA hZ hK hret H locs ls hP hD hS hl
  have hl : lv_has ls 5 [(0, .ref a_o), (1, .long p1), (3, .int p3)] := hl
  have hF : CallFix p m c cX11_type 5 s args wsX11_type RX11 := ⟨hx, hb, hml, hown, hts⟩
  have u_X11 : ∀ w ∈ u_ws RX11 TX11 25, w ∈ wsX11_type := by decide +kernel
  have k_f0 := hts (.fieldLink RX11 59 "NoWordNoModel" "typed" "I") (by decide +kernel)
  have k_f1 := hts (.fieldLink RX11 7 "NoWordNoModel" "text" "[B") (by decide +kernel)
  have k_L2 := hts (.constantLong RX11 62 (255)) (by decide +kernel)
  unfold P_X11_type at h
  refine lv_iload_n hx hb dX11_type_0 rfl (lv_at hl 2 rfl) ?_
  refine lv_iconst (v := 1) hx hb dX11_type_1 ic_1 ?_
  refine lv_bipush (v := 8) hx hb dX11_type_2 bc_8 ?_
  obtain ⟨z_4, hc_4, h⟩ := bd_e h
  refine q_iS (As := [.int p3, .int 1, .int 8]) (rest := []) (wF := [(a_o, .inr (10, [.long o_trace, .ref a_text, .int o_typed, .int o_choices, .int o_worlds, w_o_values, .int o_at, .int o_start, .int o_sort, .int o_value, .int o_fault, w_o_draft, w_o_sayings, w_o_leaves, w_o_signs, w_o_words, w_o_word, w_o_isKept, w_o_some, w_o_every, .int o_deep, .int o_many, w_o_length, w_o_found, .int o_foundMany])), (a_text, .inl (cB, 200, .inl f_text))]) hF hA hZ hK hP hD hS (c_X11_in l D cI cB cZ p3 1 8 z_4 hc_4) rfl gX11_type_X11_in hdX11_in ⟨rfl, rfl⟩ (Nat.le_of_ble_eq_true rfl) (Nat.le_of_ble_eq_true rfl) [] [0, 1] rfl rfl rfl rfl (by decide) rfl hl.1 rfl (Nat.le_of_ble_eq_true rfl) (Nat.zero_le _) (Nat.zero_le _) dX11_type_4 (fun H locs hP hD hS => ?_)
  refine lv_if_ne (tgt := 12) hx hb dX11_type_7 (by decide) (fun c_7 => ?_) (fun c_7 => ?_)
  · replace h := if_e c_7 h
    refine lv_aload_n hx hb dX11_type_12 rfl (lv_at hl 0 rfl) ?_
    refine va_get (D := D) (ci := 10) (v := .int o_typed) (C := RX11) (T := TX11) (N := 25) hx hb hts u_X11 hown hK hP 0 rfl rfl 2 (by decide) k_f0 (fun _ h9 => h9) rfl dX11_type_13 ?_
    refine lv_iload_n hx hb dX11_type_16 rfl (lv_at hl 2 rfl) ?_
    refine lv_iadd hx hb dX11_type_17 ?_
    refine lv_sipush (v := 200) hx hb dX11_type_18 sc_200 ?_
    refine lv_icmp_le (tgt := 27) hx hb dX11_type_21 (by decide) (fun c_21 => ?_) (fun c_21 => ?_)
    · replace h := it_e c_21 h
      refine lv_iload_n hx hb dX11_type_27 rfl (lv_at hl 2 rfl) ?_
      refine lv_iconst (v := 1) hx hb dX11_type_28 ic_1 ?_
      refine lv_isub hx hb dX11_type_29 ?_
      refine lv_istore (lv' := [(4, .int (p3 - 1)), (0, .ref a_o), (1, .long p1), (3, .int p3)]) hx hb dX11_type_30 hl (by decide) rfl (fun ls hl => ?_)
      obtain ⟨k75, hk75, h⟩ := jn_e h
      have Jk75 : ∀ (x75_o_typed : Int32) (x75_f_text : (Nat → Int32)) (H : Heap) (locs : List Loc) (ls : Array Slot), k75 x75_o_typed x75_f_text = some z → va_P D vwCl [(a_o, .inr (10, [.long o_trace, .ref a_text, .int x75_o_typed, .int o_choices, .int o_worlds, w_o_values, .int o_at, .int o_start, .int o_sort, .int o_value, .int o_fault, w_o_draft, w_o_sayings, w_o_leaves, w_o_signs, w_o_words, w_o_word, w_o_isKept, w_o_some, w_o_every, .int o_deep, .int o_many, w_o_length, w_o_found, .int o_foundMany])), (a_text, .inl (cB, 200, .inl x75_f_text))] H → va_D A [(a_o, .inr (10, [.long o_trace, .ref a_text, .int x75_o_typed, .int o_choices, .int o_worlds, w_o_values, .int o_at, .int o_start, .int o_sort, .int o_value, .int o_fault, w_o_draft, w_o_sayings, w_o_leaves, w_o_signs, w_o_words, w_o_word, w_o_isKept, w_o_some, w_o_every, .int o_deep, .int o_many, w_o_length, w_o_found, .int o_foundMany])), (a_text, .inl (cB, 200, .inl x75_f_text))] → va_S A s.heap H locs → lv_has ls 5 [(0, .ref a_o)] → W p l e rmX11_type s m args below meth c H locs 0 0 Q (F0 m 75 ls []) := by
        intro x75_o_typed x75_f_text H locs ls h hP hD hS hl
        rw [hk75] at h
        refine lv_aload_n hx hb dX11_type_75 rfl (lv_at hl 0 rfl) ?_
        refine va_get (D := D) (ci := 10) (v := .int x75_o_typed) (C := RX11) (T := TX11) (N := 25) hx hb hts u_X11 hown hK hP 0 rfl rfl 2 (by decide) k_f0 (fun _ h9 => h9) rfl dX11_type_76 ?_
        have hz := Option.some.inj h
        subst hz
        exact hret H locs 79 ls (fun ty h => by cases h; rfl) hP hD hS dX11_type_79
      have L32 : ∀ (n : Nat), ∀ (x32_l4 : Int32) (x32_o_typed : Int32) (x32_f_text : (Nat → Int32)) (H : Heap) (locs : List Loc) (ls : Array Slot), P_X11_type_32 p1 k75 n x32_l4 x32_o_typed x32_f_text = some z → va_P D vwCl [(a_o, .inr (10, [.long o_trace, .ref a_text, .int x32_o_typed, .int o_choices, .int o_worlds, w_o_values, .int o_at, .int o_start, .int o_sort, .int o_value, .int o_fault, w_o_draft, w_o_sayings, w_o_leaves, w_o_signs, w_o_words, w_o_word, w_o_isKept, w_o_some, w_o_every, .int o_deep, .int o_many, w_o_length, w_o_found, .int o_foundMany])), (a_text, .inl (cB, 200, .inl x32_f_text))] H → va_D A [(a_o, .inr (10, [.long o_trace, .ref a_text, .int x32_o_typed, .int o_choices, .int o_worlds, w_o_values, .int o_at, .int o_start, .int o_sort, .int o_value, .int o_fault, w_o_draft, w_o_sayings, w_o_leaves, w_o_signs, w_o_words, w_o_word, w_o_isKept, w_o_some, w_o_every, .int o_deep, .int o_many, w_o_length, w_o_found, .int o_foundMany])), (a_text, .inl (cB, 200, .inl x32_f_text))] → va_S A s.heap H locs → lv_has ls 5 [(0, .ref a_o), (1, .long p1), (4, .int x32_l4)] → W p l e rmX11_type s m args below meth c H locs 0 0 Q (F0 m 32 ls []) := by
        intro n
        induction n with
        | zero =>
          intro x32_l4 x32_o_typed x32_f_text H locs ls h
          exact no_e h
        | succ n ih32 =>
          intro x32_l4 x32_o_typed x32_f_text H locs ls h hP hD hS hl
          rw [P_X11_type_32] at h
          refine lv_iload hx hb dX11_type_32 (lv_at hl 2 rfl) ?_
          refine lv_if_lt (tgt := 75) hx hb dX11_type_34 (by decide) (fun c_34 => ?_) (fun c_34 => ?_)
          · replace h := it_e c_34 h
            exact Jk75 x32_o_typed x32_f_text H locs ls h hP hD hS (lv_sub hl [0] rfl)
          · replace h := if_e c_34 h
            refine lv_aload_n hx hb dX11_type_37 rfl (lv_at hl 0 rfl) ?_
            refine va_get (D := D) (ci := 10) (v := .ref a_text) (C := RX11) (T := TX11) (N := 25) hx hb hts u_X11 hown hK hP 0 rfl rfl 1 (by decide) k_f1 (fun _ h9 => h9) rfl dX11_type_38 ?_
            refine lv_aload_n hx hb dX11_type_41 rfl (lv_at hl 0 rfl) ?_
            refine va_get (D := D) (ci := 10) (v := .int x32_o_typed) (C := RX11) (T := TX11) (N := 25) hx hb hts u_X11 hown hK hP 0 rfl rfl 2 (by decide) k_f0 (fun _ h9 => h9) rfl dX11_type_42 ?_
            refine lv_lload_n hx hb dX11_type_45 rfl (lv_at hl 1 rfl) ?_
            refine lv_bipush (v := 8) hx hb dX11_type_46 bc_8 ?_
            refine lv_iload hx hb dX11_type_48 (lv_at hl 2 rfl) ?_
            refine lv_imul hx hb dX11_type_50 ?_
            refine lv_lshr hx hb dX11_type_51 rfl ?_
            refine lv_ldc2 (v := 255) hx hb hown k_L2 dX11_type_52 ?_
            refine lv_land hx hb dX11_type_55 ?_
            refine lv_l2i hx hb dX11_type_56 rfl ?_
            refine lv_i2b hx hb dX11_type_57 rfl ?_
            obtain ⟨hi_58, h⟩ := ck_e h
            refine va_bast hx hb hK hP hD hS 1 1 rfl rfl hi_58 dX11_type_58 (fun H locs hP hD hS => ?_)
            have hP : va_P D vwCl [(a_o, .inr (10, [.long o_trace, .ref a_text, .int x32_o_typed, .int o_choices, .int o_worlds, w_o_values, .int o_at, .int o_start, .int o_sort, .int o_value, .int o_fault, w_o_draft, w_o_sayings, w_o_leaves, w_o_signs, w_o_words, w_o_word, w_o_isKept, w_o_some, w_o_every, .int o_deep, .int o_many, w_o_length, w_o_found, .int o_foundMany])), (a_text, .inl (cB, 200, .inl (upd x32_f_text x32_o_typed.toNatClampNeg (vp_nar .byte ((((p1 >>> ((8 * x32_l4).toInt64 &&& 63)) &&& 255).toInt32).toInt8.toInt32)))))] H := hP
            have hD : va_D A [(a_o, .inr (10, [.long o_trace, .ref a_text, .int x32_o_typed, .int o_choices, .int o_worlds, w_o_values, .int o_at, .int o_start, .int o_sort, .int o_value, .int o_fault, w_o_draft, w_o_sayings, w_o_leaves, w_o_signs, w_o_words, w_o_word, w_o_isKept, w_o_some, w_o_every, .int o_deep, .int o_many, w_o_length, w_o_found, .int o_foundMany])), (a_text, .inl (cB, 200, .inl (upd x32_f_text x32_o_typed.toNatClampNeg (vp_nar .byte ((((p1 >>> ((8 * x32_l4).toInt64 &&& 63)) &&& 255).toInt32).toInt8.toInt32)))))] := hD
            refine lv_aload_n hx hb dX11_type_59 rfl (lv_at hl 0 rfl) ?_
            refine lv_dup hx hb dX11_type_60 rfl ?_
            refine va_get (D := D) (ci := 10) (v := .int x32_o_typed) (C := RX11) (T := TX11) (N := 25) hx hb hts u_X11 hown hK hP 0 rfl rfl 2 (by decide) k_f0 (fun _ h9 => h9) rfl dX11_type_61 ?_
            refine lv_iconst (v := 1) hx hb dX11_type_64 ic_1 ?_
            refine lv_iadd hx hb dX11_type_65 ?_
            refine va_put (D := D) (ci := 10) (v := .int (x32_o_typed + 1)) (ty := .int) (C := RX11) (T := TX11) (N := 25) hx hb hts u_X11 tyX11 tyX11_ok nmX11 hown hK hP hD hS 0 rfl rfl 2 (by decide) k_f0 (fun _ h9 => h9) rfl (tyX11_ok 2 (by decide)) rfl rfl (Nat.le_of_ble_eq_true rfl) dX11_type_66 (fun H locs hP hD hS => ?_)
            have hP : va_P D vwCl [(a_o, .inr (10, [.long o_trace, .ref a_text, .int (x32_o_typed + 1), .int o_choices, .int o_worlds, w_o_values, .int o_at, .int o_start, .int o_sort, .int o_value, .int o_fault, w_o_draft, w_o_sayings, w_o_leaves, w_o_signs, w_o_words, w_o_word, w_o_isKept, w_o_some, w_o_every, .int o_deep, .int o_many, w_o_length, w_o_found, .int o_foundMany])), (a_text, .inl (cB, 200, .inl (upd x32_f_text x32_o_typed.toNatClampNeg (vp_nar .byte ((((p1 >>> ((8 * x32_l4).toInt64 &&& 63)) &&& 255).toInt32).toInt8.toInt32)))))] H := hP
            have hD : va_D A [(a_o, .inr (10, [.long o_trace, .ref a_text, .int (x32_o_typed + 1), .int o_choices, .int o_worlds, w_o_values, .int o_at, .int o_start, .int o_sort, .int o_value, .int o_fault, w_o_draft, w_o_sayings, w_o_leaves, w_o_signs, w_o_words, w_o_word, w_o_isKept, w_o_some, w_o_every, .int o_deep, .int o_many, w_o_length, w_o_found, .int o_foundMany])), (a_text, .inl (cB, 200, .inl (upd x32_f_text x32_o_typed.toNatClampNeg (vp_nar .byte ((((p1 >>> ((8 * x32_l4).toInt64 &&& 63)) &&& 255).toInt32).toInt8.toInt32)))))] := hD
            refine lv_iinc (v := x32_l4 + (-1)) (lv' := [(4, .int (x32_l4 + (-1))), (0, .ref a_o), (1, .long p1)]) hx hb dX11_type_69 hl (k := 2) rfl (congrArg (x32_l4 + ·) ic_m1) (by decide) rfl (fun ls hl => ?_)
            refine lv_goto (tgt := 32) hx hb dX11_type_72 (by decide) ?_
            exact ih32 (x32_l4 + (-1)) (x32_o_typed + 1) (upd x32_f_text x32_o_typed.toNatClampNeg (vp_nar .byte ((((p1 >>> ((8 * x32_l4).toInt64 &&& 63)) &&& 255).toInt32).toInt8.toInt32))) H locs ls h hP hD hS (lv_sub hl [1, 2, 0] rfl)
      exact L32 QF (p3 - 1) o_typed f_text H locs ls h hP hD hS (lv_sub hl [1, 2, 0] rfl)
    · replace h := if_e c_21 h
      refine lv_bipush (v := (-3)) hx hb dX11_type_24 bc_m3 ?_
      have hz := Option.some.inj h
      subst hz
      exact hret H locs 26 ls (fun ty h => by cases h; rfl) hP hD hS dX11_type_26
  · replace h := it_e c_7 h
    refine lv_iconst (v := (-1)) hx hb dX11_type_10 ic_m1 ?_
    have hz := Option.some.inj h
    subst hz
    exact hret H locs 11 ls (fun ty h => by cases h; rfl) hP hD hS dX11_type_11
abbrev rmX11_clear : Room := { frames := 0, cells := 0, slots := 0, locals := 0 }
theorem hdX11_clear : yX11_clear.cls = RX11 ∧ yX11_clear.cls ≠ "java/lang/invoke/MethodHandle" ∧ yX11_clear.cls ≠ "java/lang/invoke/VarHandle" ∧ (parseMethodDescriptor yX11_clear.desc).map (fun d => d.parameters.length) = some 0 := by decide +kernel
set_option maxRecDepth 100000 in
set_option maxHeartbeats 4000000 in
theorem c_X11_clear (l : Launch) (D : va_G) (cI cB cZ : ClassId) (a_o : Nat) (o_trace : Int64) (w_o_text : Value) (o_typed : Int32) (o_choices : Int32) (o_worlds : Int32) (w_o_values : Value) (o_at : Int32) (o_start : Int32) (o_sort : Int32) (o_value : Int32) (o_fault : Int32) (w_o_draft : Value) (w_o_sayings : Value) (w_o_leaves : Value) (w_o_signs : Value) (w_o_words : Value) (w_o_word : Value) (w_o_isKept : Value) (w_o_some : Value) (w_o_every : Value) (o_deep : Int32) (o_many : Int32) (w_o_length : Value) (w_o_found : Value) (o_foundMany : Int32) (z : Int32 × Int32) (h : P_X11_clear o_typed = some z) : KI l yX11_clear wsX11_clear rmX11_clear D [(cI, .int), (cB, .byte), (cZ, .boolean)] [.ref a_o] [(a_o, .inr (10, [.long o_trace, w_o_text, .int o_typed, .int o_choices, .int o_worlds, w_o_values, .int o_at, .int o_start, .int o_sort, .int o_value, .int o_fault, w_o_draft, w_o_sayings, w_o_leaves, w_o_signs, w_o_words, w_o_word, w_o_isKept, w_o_some, w_o_every, .int o_deep, .int o_many, w_o_length, w_o_found, .int o_foundMany]))] [(a_o, .inr (10, [.long o_trace, w_o_text, .int z.2, .int o_choices, .int o_worlds, w_o_values, .int o_at, .int o_start, .int o_sort, .int o_value, .int o_fault, w_o_draft, w_o_sayings, w_o_leaves, w_o_signs, w_o_words, w_o_word, w_o_isKept, w_o_some, w_o_every, .int o_deep, .int o_many, w_o_length, w_o_found, .int o_foundMany]))] z.1 := by
  refine KI_of (own := RX11) (cc := cX11_clear) (maxL := 2) (ret := some .int) (by decide) rfl rfl (Nat.le_of_ble_eq_true rfl) (Or.inl rfl) ?_
  intro p e s m args below meth c A Q hx hb hml hown hts hA hZ hK hret H locs ls hP hD hS hl
  have hl : lv_has ls 2 [(0, .ref a_o)] := hl
  have hF : CallFix p m c cX11_clear 2 s args wsX11_clear RX11 := ⟨hx, hb, hml, hown, hts⟩
  have u_X11 : ∀ w ∈ u_ws RX11 TX11 25, w ∈ wsX11_clear := by decide +kernel
  have k_f0 := hts (.fieldLink RX11 59 "NoWordNoModel" "typed" "I") (by decide +kernel)
  unfold P_X11_clear at h
  refine lv_aload_n hx hb dX11_clear_0 rfl (lv_at hl 0 rfl) ?_
  refine va_get (D := D) (ci := 10) (v := .int o_typed) (C := RX11) (T := TX11) (N := 25) hx hb hts u_X11 hown hK hP 0 rfl rfl 2 (by decide) k_f0 (fun _ h9 => h9) rfl dX11_clear_1 ?_
  refine lv_istore_n (lv' := [(1, .int o_typed), (0, .ref a_o)]) hx hb dX11_clear_4 rfl hl (by decide) rfl (fun ls hl => ?_)
  refine lv_aload_n hx hb dX11_clear_5 rfl (lv_at hl 1 rfl) ?_
  refine lv_iconst (v := 0) hx hb dX11_clear_6 ic_0 ?_
  refine va_put (D := D) (ci := 10) (v := .int 0) (ty := .int) (C := RX11) (T := TX11) (N := 25) hx hb hts u_X11 tyX11 tyX11_ok nmX11 hown hK hP hD hS 0 rfl rfl 2 (by decide) k_f0 (fun _ h9 => h9) rfl (tyX11_ok 2 (by decide)) rfl rfl (Nat.le_of_ble_eq_true rfl) dX11_clear_7 (fun H locs hP hD hS => ?_)
  have hP : va_P D vwCl [(a_o, .inr (10, [.long o_trace, w_o_text, .int 0, .int o_choices, .int o_worlds, w_o_values, .int o_at, .int o_start, .int o_sort, .int o_value, .int o_fault, w_o_draft, w_o_sayings, w_o_leaves, w_o_signs, w_o_words, w_o_word, w_o_isKept, w_o_some, w_o_every, .int o_deep, .int o_many, w_o_length, w_o_found, .int o_foundMany]))] H := hP
  have hD : va_D A [(a_o, .inr (10, [.long o_trace, w_o_text, .int 0, .int o_choices, .int o_worlds, w_o_values, .int o_at, .int o_start, .int o_sort, .int o_value, .int o_fault, w_o_draft, w_o_sayings, w_o_leaves, w_o_signs, w_o_words, w_o_word, w_o_isKept, w_o_some, w_o_every, .int o_deep, .int o_many, w_o_length, w_o_found, .int o_foundMany]))] := hD
  refine lv_iload_n hx hb dX11_clear_10 rfl (lv_at hl 0 rfl) ?_
  have hz := Option.some.inj h
  subst hz
  exact hret H locs 11 ls (fun ty h => by cases h; rfl) hP hD hS dX11_clear_11
abbrev rmX11_here : Room := { frames := 0, cells := 0, slots := 0, locals := 0 }
theorem hdX11_here : yX11_here.cls = RX11 ∧ yX11_here.cls ≠ "java/lang/invoke/MethodHandle" ∧ yX11_here.cls ≠ "java/lang/invoke/VarHandle" ∧ (parseMethodDescriptor yX11_here.desc).map (fun d => d.parameters.length) = some 0 := by decide +kernel
set_option maxRecDepth 100000 in
set_option maxHeartbeats 4000000 in
theorem c_X11_here (l : Launch) (D : va_G) (cI cB cZ : ClassId) (a_o : Nat) (o_trace : Int64) (o_typed : Int32) (o_choices : Int32) (o_worlds : Int32) (w_o_values : Value) (o_at : Int32) (o_start : Int32) (o_sort : Int32) (o_value : Int32) (o_fault : Int32) (w_o_draft : Value) (w_o_sayings : Value) (w_o_leaves : Value) (w_o_signs : Value) (w_o_words : Value) (w_o_word : Value) (w_o_isKept : Value) (w_o_some : Value) (w_o_every : Value) (o_deep : Int32) (o_many : Int32) (w_o_length : Value) (w_o_found : Value) (o_foundMany : Int32) (a_text : Nat) (f_text : Nat → Int32) (z : Int32) (h : P_X11_here o_typed o_at f_text = some z) : KI l yX11_here wsX11_here rmX11_here D [(cI, .int), (cB, .byte), (cZ, .boolean)] [.ref a_o] [(a_o, .inr (10, [.long o_trace, .ref a_text, .int o_typed, .int o_choices, .int o_worlds, w_o_values, .int o_at, .int o_start, .int o_sort, .int o_value, .int o_fault, w_o_draft, w_o_sayings, w_o_leaves, w_o_signs, w_o_words, w_o_word, w_o_isKept, w_o_some, w_o_every, .int o_deep, .int o_many, w_o_length, w_o_found, .int o_foundMany])), (a_text, .inl (cB, 200, .inl f_text))] [(a_o, .inr (10, [.long o_trace, .ref a_text, .int o_typed, .int o_choices, .int o_worlds, w_o_values, .int o_at, .int o_start, .int o_sort, .int o_value, .int o_fault, w_o_draft, w_o_sayings, w_o_leaves, w_o_signs, w_o_words, w_o_word, w_o_isKept, w_o_some, w_o_every, .int o_deep, .int o_many, w_o_length, w_o_found, .int o_foundMany])), (a_text, .inl (cB, 200, .inl f_text))] z := by
  refine KI_of (own := RX11) (cc := cX11_here) (maxL := 1) (ret := some .int) (by decide) rfl rfl (Nat.le_of_ble_eq_true rfl) (Or.inl rfl) ?_
  intro p e s m args below meth c A Q hx hb hml hown hts hA hZ hK hret H locs ls hP hD hS hl
  have hl : lv_has ls 1 [(0, .ref a_o)] := hl
  have hF : CallFix p m c cX11_here 1 s args wsX11_here RX11 := ⟨hx, hb, hml, hown, hts⟩
  have u_X11 : ∀ w ∈ u_ws RX11 TX11 25, w ∈ wsX11_here := by decide +kernel
  have k_f0 := hts (.fieldLink RX11 64 "NoWordNoModel" "at" "I") (by decide +kernel)
  have k_f1 := hts (.fieldLink RX11 59 "NoWordNoModel" "typed" "I") (by decide +kernel)
  have k_f2 := hts (.fieldLink RX11 7 "NoWordNoModel" "text" "[B") (by decide +kernel)
  unfold P_X11_here at h
  refine lv_aload_n hx hb dX11_here_0 rfl (lv_at hl 0 rfl) ?_
  refine va_get (D := D) (ci := 10) (v := .int o_at) (C := RX11) (T := TX11) (N := 25) hx hb hts u_X11 hown hK hP 0 rfl rfl 6 (by decide) k_f0 (fun _ h9 => h9) rfl dX11_here_1 ?_
  refine lv_aload_n hx hb dX11_here_4 rfl (lv_at hl 0 rfl) ?_
  refine va_get (D := D) (ci := 10) (v := .int o_typed) (C := RX11) (T := TX11) (N := 25) hx hb hts u_X11 hown hK hP 0 rfl rfl 2 (by decide) k_f1 (fun _ h9 => h9) rfl dX11_here_5 ?_
  refine lv_icmp_ge (tgt := 27) hx hb dX11_here_8 (by decide) (fun c_8 => ?_) (fun c_8 => ?_)
  · replace h := it_e c_8 h
    refine lv_iconst (v := (-1)) hx hb dX11_here_27 ic_m1 ?_
    have hz := Option.some.inj h
    subst hz
    exact hret H locs 28 ls (fun ty h => by cases h; rfl) hP hD hS dX11_here_28
  · replace h := if_e c_8 h
    refine lv_aload_n hx hb dX11_here_11 rfl (lv_at hl 0 rfl) ?_
    refine va_get (D := D) (ci := 10) (v := .ref a_text) (C := RX11) (T := TX11) (N := 25) hx hb hts u_X11 hown hK hP 0 rfl rfl 1 (by decide) k_f2 (fun _ h9 => h9) rfl dX11_here_12 ?_
    refine lv_aload_n hx hb dX11_here_15 rfl (lv_at hl 0 rfl) ?_
    refine va_get (D := D) (ci := 10) (v := .int o_at) (C := RX11) (T := TX11) (N := 25) hx hb hts u_X11 hown hK hP 0 rfl rfl 6 (by decide) k_f0 (fun _ h9 => h9) rfl dX11_here_16 ?_
    obtain ⟨hi_19, h⟩ := ck_e h
    refine va_bald hx hb hK hP 1 1 rfl rfl hi_19 dX11_here_19 ?_
    refine lv_sipush (v := 255) hx hb dX11_here_20 sc_255 ?_
    refine lv_iand hx hb dX11_here_23 ?_
    refine lv_goto (tgt := 28) hx hb dX11_here_24 (by decide) ?_
    have hz := Option.some.inj h
    subst hz
    exact hret H locs 28 ls (fun ty h => by cases h; rfl) hP hD hS dX11_here_28
abbrev rmX11_signOf : Room := { frames := 0, cells := 0, slots := 0, locals := 0 }
theorem hdX11_signOf : yX11_signOf.cls ≠ "java/lang/invoke/MethodHandle" ∧ yX11_signOf.cls ≠ "java/lang/invoke/VarHandle" ∧ (parseMethodDescriptor yX11_signOf.desc).map (fun d => d.parameters.length) = some 1 := by decide +kernel
set_option maxRecDepth 100000 in
set_option maxHeartbeats 4000000 in
theorem c_X11_signOf (l : Launch) (D : va_G) (cI cB cZ : ClassId) (p0 : Int32) (z : Int32) (h : P_X11_signOf p0 = some z) : KI l yX11_signOf wsX11_signOf rmX11_signOf D [(cI, .int), (cB, .byte), (cZ, .boolean)] [.int p0] [] [] z := by
  refine KI_of (own := RX11) (cc := cX11_signOf) (maxL := 1) (ret := some .int) (by decide) rfl rfl (Nat.le_of_ble_eq_true rfl) (Or.inl rfl) ?_
  intro p e s m args below meth c A Q hx hb hml hown hts hA hZ hK hret H locs ls hP hD hS hl
  have hl : lv_has ls 1 [(0, .int p0)] := hl
  have hF : CallFix p m c cX11_signOf 1 s args wsX11_signOf RX11 := ⟨hx, hb, hml, hown, hts⟩
  unfold P_X11_signOf at h
  refine lv_iload_n hx hb dX11_signOf_0 rfl (lv_at hl 0 rfl) ?_
  refine lv_bipush (v := 59) hx hb dX11_signOf_1 bc_59 ?_
  refine lv_icmp_ne (tgt := 10) hx hb dX11_signOf_3 (by decide) (fun c_3 => ?_) (fun c_3 => ?_)
  · replace h := if_e c_3 h
    refine lv_iload_n hx hb dX11_signOf_10 rfl (lv_at hl 0 rfl) ?_
    refine lv_bipush (v := 124) hx hb dX11_signOf_11 bc_124 ?_
    refine lv_icmp_ne (tgt := 20) hx hb dX11_signOf_13 (by decide) (fun c_13 => ?_) (fun c_13 => ?_)
    · replace h := if_e c_13 h
      refine lv_iload_n hx hb dX11_signOf_20 rfl (lv_at hl 0 rfl) ?_
      refine lv_bipush (v := 38) hx hb dX11_signOf_21 bc_38 ?_
      refine lv_icmp_ne (tgt := 31) hx hb dX11_signOf_23 (by decide) (fun c_23 => ?_) (fun c_23 => ?_)
      · replace h := if_e c_23 h
        refine lv_iload_n hx hb dX11_signOf_31 rfl (lv_at hl 0 rfl) ?_
        refine lv_bipush (v := 40) hx hb dX11_signOf_32 bc_40 ?_
        refine lv_icmp_ne (tgt := 42) hx hb dX11_signOf_34 (by decide) (fun c_34 => ?_) (fun c_34 => ?_)
        · replace h := if_e c_34 h
          refine lv_iload_n hx hb dX11_signOf_42 rfl (lv_at hl 0 rfl) ?_
          refine lv_bipush (v := 41) hx hb dX11_signOf_43 bc_41 ?_
          refine lv_icmp_ne (tgt := 53) hx hb dX11_signOf_45 (by decide) (fun c_45 => ?_) (fun c_45 => ?_)
          · replace h := if_e c_45 h
            refine lv_bipush (v := 10) hx hb dX11_signOf_53 bc_10 ?_
            have hz := Option.some.inj h
            subst hz
            exact hret H locs 55 ls (fun ty h => by cases h; rfl) hP hD hS dX11_signOf_55
          · replace h := it_e c_45 h
            refine lv_bipush (v := 8) hx hb dX11_signOf_48 bc_8 ?_
            refine lv_goto (tgt := 55) hx hb dX11_signOf_50 (by decide) ?_
            have hz := Option.some.inj h
            subst hz
            exact hret H locs 55 ls (fun ty h => by cases h; rfl) hP hD hS dX11_signOf_55
        · replace h := it_e c_34 h
          refine lv_bipush (v := 7) hx hb dX11_signOf_37 bc_7 ?_
          refine lv_goto (tgt := 55) hx hb dX11_signOf_39 (by decide) ?_
          have hz := Option.some.inj h
          subst hz
          exact hret H locs 55 ls (fun ty h => by cases h; rfl) hP hD hS dX11_signOf_55
      · replace h := it_e c_23 h
        refine lv_bipush (v := 6) hx hb dX11_signOf_26 bc_6 ?_
        refine lv_goto (tgt := 55) hx hb dX11_signOf_28 (by decide) ?_
        have hz := Option.some.inj h
        subst hz
        exact hret H locs 55 ls (fun ty h => by cases h; rfl) hP hD hS dX11_signOf_55
    · replace h := it_e c_13 h
      refine lv_iconst (v := 5) hx hb dX11_signOf_16 ic_5 ?_
      refine lv_goto (tgt := 55) hx hb dX11_signOf_17 (by decide) ?_
      have hz := Option.some.inj h
      subst hz
      exact hret H locs 55 ls (fun ty h => by cases h; rfl) hP hD hS dX11_signOf_55
  · replace h := it_e c_3 h
    refine lv_iconst (v := 4) hx hb dX11_signOf_6 ic_4 ?_
    refine lv_goto (tgt := 55) hx hb dX11_signOf_7 (by decide) ?_
    have hz := Option.some.inj h
    subst hz
    exact hret H locs 55 ls (fun ty h => by cases h; rfl) hP hD hS dX11_signOf_55
abbrev rmX11_next : Room := { frames := 1, cells := 0, slots := 0, locals := 22 }
theorem hdX11_next : yX11_next.cls = RX11 ∧ yX11_next.cls ≠ "java/lang/invoke/MethodHandle" ∧ yX11_next.cls ≠ "java/lang/invoke/VarHandle" ∧ (parseMethodDescriptor yX11_next.desc).map (fun d => d.parameters.length) = some 0 := by decide +kernel
set_option maxRecDepth 100000 in
set_option maxHeartbeats 4000000 in
theorem c_X11_next (l : Launch) (D : va_G) (cI cB cZ : ClassId) (a_o : Nat) (o_trace : Int64) (o_typed : Int32) (o_choices : Int32) (o_worlds : Int32) (w_o_values : Value) (o_at : Int32) (o_start : Int32) (o_sort : Int32) (o_value : Int32) (o_fault : Int32) (w_o_draft : Value) (w_o_sayings : Value) (w_o_leaves : Value) (w_o_signs : Value) (w_o_words : Value) (w_o_word : Value) (w_o_isKept : Value) (w_o_some : Value) (w_o_every : Value) (o_deep : Int32) (o_many : Int32) (w_o_length : Value) (w_o_found : Value) (o_foundMany : Int32) (a_text : Nat) (f_text : Nat → Int32) (z : Int32 × Int32 × Int32 × Int32) (h : P_X11_next o_typed o_at o_start o_sort o_value f_text = some z) : KV l yX11_next wsX11_next rmX11_next D [(cI, .int), (cB, .byte), (cZ, .boolean)] [.ref a_o] [(a_o, .inr (10, [.long o_trace, .ref a_text, .int o_typed, .int o_choices, .int o_worlds, w_o_values, .int o_at, .int o_start, .int o_sort, .int o_value, .int o_fault, w_o_draft, w_o_sayings, w_o_leaves, w_o_signs, w_o_words, w_o_word, w_o_isKept, w_o_some, w_o_every, .int o_deep, .int o_many, w_o_length, w_o_found, .int o_foundMany])), (a_text, .inl (cB, 200, .inl f_text))] [(a_o, .inr (10, [.long o_trace, .ref a_text, .int o_typed, .int o_choices, .int o_worlds, w_o_values, .int z.1, .int z.2.1, .int z.2.2.1, .int z.2.2.2, .int o_fault, w_o_draft, w_o_sayings, w_o_leaves, w_o_signs, w_o_words, w_o_word, w_o_isKept, w_o_some, w_o_every, .int o_deep, .int o_many, w_o_length, w_o_found, .int o_foundMany])), (a_text, .inl (cB, 200, .inl f_text))] := by
  refine KV_of (own := RX11) (cc := cX11_next) (maxL := 3) (by decide) rfl rfl (Nat.le_of_ble_eq_true rfl) ?_
  intro p e s m args below meth c A Q hx hb hml hown hts hA hZ hK hret H locs ls hP hD hS hl
  have hl : lv_has ls 3 [(0, .ref a_o)] := hl
  have hF : CallFix p m c cX11_next 3 s args wsX11_next RX11 := ⟨hx, hb, hml, hown, hts⟩
  have u_X11 : ∀ w ∈ u_ws RX11 TX11 25, w ∈ wsX11_next := by decide +kernel
  have k_f0 := hts (.fieldLink RX11 64 "NoWordNoModel" "at" "I") (by decide +kernel)
  have k_f1 := hts (.fieldLink RX11 71 "NoWordNoModel" "start" "I") (by decide +kernel)
  have k_f2 := hts (.fieldLink RX11 74 "NoWordNoModel" "value" "I") (by decide +kernel)
  have k_f3 := hts (.fieldLink RX11 77 "NoWordNoModel" "sort" "I") (by decide +kernel)
  have k_c4 := hts (.constant RX11 80 (47600141)) (by decide +kernel)
  unfold P_X11_next at h
  obtain ⟨k22, hk22, h⟩ := jn_e h
  have Jk22 : ∀ (x22_o_at : Int32) (H : Heap) (locs : List Loc) (ls : Array Slot), k22 x22_o_at = some z → va_P D vwCl [(a_o, .inr (10, [.long o_trace, .ref a_text, .int o_typed, .int o_choices, .int o_worlds, w_o_values, .int x22_o_at, .int o_start, .int o_sort, .int o_value, .int o_fault, w_o_draft, w_o_sayings, w_o_leaves, w_o_signs, w_o_words, w_o_word, w_o_isKept, w_o_some, w_o_every, .int o_deep, .int o_many, w_o_length, w_o_found, .int o_foundMany])), (a_text, .inl (cB, 200, .inl f_text))] H → va_D A [(a_o, .inr (10, [.long o_trace, .ref a_text, .int o_typed, .int o_choices, .int o_worlds, w_o_values, .int x22_o_at, .int o_start, .int o_sort, .int o_value, .int o_fault, w_o_draft, w_o_sayings, w_o_leaves, w_o_signs, w_o_words, w_o_word, w_o_isKept, w_o_some, w_o_every, .int o_deep, .int o_many, w_o_length, w_o_found, .int o_foundMany])), (a_text, .inl (cB, 200, .inl f_text))] → va_S A s.heap H locs → lv_has ls 3 [(0, .ref a_o)] → W p l e rmX11_next s m args below meth c H locs 0 0 Q (F0 m 22 ls []) := by
    intro x22_o_at H locs ls h hP hD hS hl
    rw [hk22] at h
    refine lv_aload_n hx hb dX11_next_22 rfl (lv_at hl 0 rfl) ?_
    refine lv_aload_n hx hb dX11_next_23 rfl (lv_at hl 0 rfl) ?_
    refine va_get (D := D) (ci := 10) (v := .int x22_o_at) (C := RX11) (T := TX11) (N := 25) hx hb hts u_X11 hown hK hP 0 rfl rfl 6 (by decide) k_f0 (fun _ h9 => h9) rfl dX11_next_24 ?_
    refine va_put (D := D) (ci := 10) (v := .int x22_o_at) (ty := .int) (C := RX11) (T := TX11) (N := 25) hx hb hts u_X11 tyX11 tyX11_ok nmX11 hown hK hP hD hS 0 rfl rfl 7 (by decide) k_f1 (fun _ h9 => h9) rfl (tyX11_ok 7 (by decide)) rfl rfl (Nat.le_of_ble_eq_true rfl) dX11_next_27 (fun H locs hP hD hS => ?_)
    have hP : va_P D vwCl [(a_o, .inr (10, [.long o_trace, .ref a_text, .int o_typed, .int o_choices, .int o_worlds, w_o_values, .int x22_o_at, .int x22_o_at, .int o_sort, .int o_value, .int o_fault, w_o_draft, w_o_sayings, w_o_leaves, w_o_signs, w_o_words, w_o_word, w_o_isKept, w_o_some, w_o_every, .int o_deep, .int o_many, w_o_length, w_o_found, .int o_foundMany])), (a_text, .inl (cB, 200, .inl f_text))] H := hP
    have hD : va_D A [(a_o, .inr (10, [.long o_trace, .ref a_text, .int o_typed, .int o_choices, .int o_worlds, w_o_values, .int x22_o_at, .int x22_o_at, .int o_sort, .int o_value, .int o_fault, w_o_draft, w_o_sayings, w_o_leaves, w_o_signs, w_o_words, w_o_word, w_o_isKept, w_o_some, w_o_every, .int o_deep, .int o_many, w_o_length, w_o_found, .int o_foundMany])), (a_text, .inl (cB, 200, .inl f_text))] := hD
    refine lv_aload_n hx hb dX11_next_30 rfl (lv_at hl 0 rfl) ?_
    refine lv_iconst (v := 0) hx hb dX11_next_31 ic_0 ?_
    refine va_put (D := D) (ci := 10) (v := .int 0) (ty := .int) (C := RX11) (T := TX11) (N := 25) hx hb hts u_X11 tyX11 tyX11_ok nmX11 hown hK hP hD hS 0 rfl rfl 9 (by decide) k_f2 (fun _ h9 => h9) rfl (tyX11_ok 9 (by decide)) rfl rfl (Nat.le_of_ble_eq_true rfl) dX11_next_32 (fun H locs hP hD hS => ?_)
    have hP : va_P D vwCl [(a_o, .inr (10, [.long o_trace, .ref a_text, .int o_typed, .int o_choices, .int o_worlds, w_o_values, .int x22_o_at, .int x22_o_at, .int o_sort, .int 0, .int o_fault, w_o_draft, w_o_sayings, w_o_leaves, w_o_signs, w_o_words, w_o_word, w_o_isKept, w_o_some, w_o_every, .int o_deep, .int o_many, w_o_length, w_o_found, .int o_foundMany])), (a_text, .inl (cB, 200, .inl f_text))] H := hP
    have hD : va_D A [(a_o, .inr (10, [.long o_trace, .ref a_text, .int o_typed, .int o_choices, .int o_worlds, w_o_values, .int x22_o_at, .int x22_o_at, .int o_sort, .int 0, .int o_fault, w_o_draft, w_o_sayings, w_o_leaves, w_o_signs, w_o_words, w_o_word, w_o_isKept, w_o_some, w_o_every, .int o_deep, .int o_many, w_o_length, w_o_found, .int o_foundMany])), (a_text, .inl (cB, 200, .inl f_text))] := hD
    refine lv_aload_n hx hb dX11_next_35 rfl (lv_at hl 0 rfl) ?_
    obtain ⟨z_36, hc_36, h⟩ := bd_e h
    refine q_iV (As := []) (rest := []) (wF := [(a_o, .inr (10, [.long o_trace, .ref a_text, .int o_typed, .int o_choices, .int o_worlds, w_o_values, .int x22_o_at, .int x22_o_at, .int o_sort, .int 0, .int o_fault, w_o_draft, w_o_sayings, w_o_leaves, w_o_signs, w_o_words, w_o_word, w_o_isKept, w_o_some, w_o_every, .int o_deep, .int o_many, w_o_length, w_o_found, .int o_foundMany])), (a_text, .inl (cB, 200, .inl f_text))]) hF hA hZ hK hP hD hS (c_X11_here l D cI cB cZ a_o o_trace o_typed o_choices o_worlds w_o_values x22_o_at x22_o_at o_sort 0 o_fault w_o_draft w_o_sayings w_o_leaves w_o_signs w_o_words w_o_word w_o_isKept w_o_some w_o_every o_deep o_many w_o_length w_o_found o_foundMany a_text f_text z_36 hc_36) rfl gX11_next_X11_here hdX11_here ⟨rfl, rfl⟩ (Nat.le_of_ble_eq_true rfl) (Nat.le_of_ble_eq_true rfl) 10 0 rfl rfl [0, 1] [] rfl rfl rfl rfl (by decide) rfl hl.1 rfl (Nat.le_of_ble_eq_true rfl) (Nat.zero_le _) (Nat.zero_le _) dX11_next_36 (fun H locs hP hD hS => ?_)
    refine lv_istore_n (lv' := [(1, .int z_36), (0, .ref a_o)]) hx hb dX11_next_39 rfl hl (by decide) rfl (fun ls hl => ?_)
    refine lv_iload_n hx hb dX11_next_40 rfl (lv_at hl 0 rfl) ?_
    refine lv_if_ge (tgt := 53) hx hb dX11_next_41 (by decide) (fun c_41 => ?_) (fun c_41 => ?_)
    · replace h := it_e c_41 h
      refine lv_iload_n hx hb dX11_next_53 rfl (lv_at hl 0 rfl) ?_
      refine lv_bipush (v := 97) hx hb dX11_next_54 bc_97 ?_
      refine lv_bipush (v := 122) hx hb dX11_next_56 bc_122 ?_
      obtain ⟨z_58, hc_58, h⟩ := bd_e h
      refine q_iS (As := [.int z_36, .int 97, .int 122]) (rest := []) (wF := [(a_o, .inr (10, [.long o_trace, .ref a_text, .int o_typed, .int o_choices, .int o_worlds, w_o_values, .int x22_o_at, .int x22_o_at, .int o_sort, .int 0, .int o_fault, w_o_draft, w_o_sayings, w_o_leaves, w_o_signs, w_o_words, w_o_word, w_o_isKept, w_o_some, w_o_every, .int o_deep, .int o_many, w_o_length, w_o_found, .int o_foundMany])), (a_text, .inl (cB, 200, .inl f_text))]) hF hA hZ hK hP hD hS (c_X11_in l D cI cB cZ z_36 97 122 z_58 hc_58) rfl gX11_next_X11_in hdX11_in ⟨rfl, rfl⟩ (Nat.le_of_ble_eq_true rfl) (Nat.le_of_ble_eq_true rfl) [] [0, 1] rfl rfl rfl rfl (by decide) rfl hl.1 rfl (Nat.le_of_ble_eq_true rfl) (Nat.zero_le _) (Nat.zero_le _) dX11_next_58 (fun H locs hP hD hS => ?_)
      refine lv_if_eq (tgt := 193) hx hb dX11_next_61 (by decide) (fun c_61 => ?_) (fun c_61 => ?_)
      · replace h := it_e c_61 h
        refine lv_iload_n hx hb dX11_next_193 rfl (lv_at hl 0 rfl) ?_
        refine lv_bipush (v := 48) hx hb dX11_next_194 bc_48 ?_
        refine lv_bipush (v := 57) hx hb dX11_next_196 bc_57 ?_
        obtain ⟨z_198, hc_198, h⟩ := bd_e h
        refine q_iS (As := [.int z_36, .int 48, .int 57]) (rest := []) (wF := [(a_o, .inr (10, [.long o_trace, .ref a_text, .int o_typed, .int o_choices, .int o_worlds, w_o_values, .int x22_o_at, .int x22_o_at, .int o_sort, .int 0, .int o_fault, w_o_draft, w_o_sayings, w_o_leaves, w_o_signs, w_o_words, w_o_word, w_o_isKept, w_o_some, w_o_every, .int o_deep, .int o_many, w_o_length, w_o_found, .int o_foundMany])), (a_text, .inl (cB, 200, .inl f_text))]) hF hA hZ hK hP hD hS (c_X11_in l D cI cB cZ z_36 48 57 z_198 hc_198) rfl gX11_next_X11_in hdX11_in ⟨rfl, rfl⟩ (Nat.le_of_ble_eq_true rfl) (Nat.le_of_ble_eq_true rfl) [] [0, 1] rfl rfl rfl rfl (by decide) rfl hl.1 rfl (Nat.le_of_ble_eq_true rfl) (Nat.zero_le _) (Nat.zero_le _) dX11_next_198 (fun H locs hP hD hS => ?_)
        refine lv_if_eq (tgt := 307) hx hb dX11_next_201 (by decide) (fun c_201 => ?_) (fun c_201 => ?_)
        · replace h := it_e c_201 h
          refine lv_aload_n hx hb dX11_next_307 rfl (lv_at hl 1 rfl) ?_
          refine lv_dup hx hb dX11_next_308 rfl ?_
          refine va_get (D := D) (ci := 10) (v := .int x22_o_at) (C := RX11) (T := TX11) (N := 25) hx hb hts u_X11 hown hK hP 0 rfl rfl 6 (by decide) k_f0 (fun _ h9 => h9) rfl dX11_next_309 ?_
          refine lv_iconst (v := 1) hx hb dX11_next_312 ic_1 ?_
          refine lv_iadd hx hb dX11_next_313 ?_
          refine va_put (D := D) (ci := 10) (v := .int (x22_o_at + 1)) (ty := .int) (C := RX11) (T := TX11) (N := 25) hx hb hts u_X11 tyX11 tyX11_ok nmX11 hown hK hP hD hS 0 rfl rfl 6 (by decide) k_f0 (fun _ h9 => h9) rfl (tyX11_ok 6 (by decide)) rfl rfl (Nat.le_of_ble_eq_true rfl) dX11_next_314 (fun H locs hP hD hS => ?_)
          have hP : va_P D vwCl [(a_o, .inr (10, [.long o_trace, .ref a_text, .int o_typed, .int o_choices, .int o_worlds, w_o_values, .int (x22_o_at + 1), .int x22_o_at, .int o_sort, .int 0, .int o_fault, w_o_draft, w_o_sayings, w_o_leaves, w_o_signs, w_o_words, w_o_word, w_o_isKept, w_o_some, w_o_every, .int o_deep, .int o_many, w_o_length, w_o_found, .int o_foundMany])), (a_text, .inl (cB, 200, .inl f_text))] H := hP
          have hD : va_D A [(a_o, .inr (10, [.long o_trace, .ref a_text, .int o_typed, .int o_choices, .int o_worlds, w_o_values, .int (x22_o_at + 1), .int x22_o_at, .int o_sort, .int 0, .int o_fault, w_o_draft, w_o_sayings, w_o_leaves, w_o_signs, w_o_words, w_o_word, w_o_isKept, w_o_some, w_o_every, .int o_deep, .int o_many, w_o_length, w_o_found, .int o_foundMany])), (a_text, .inl (cB, 200, .inl f_text))] := hD
          refine lv_aload_n hx hb dX11_next_317 rfl (lv_at hl 1 rfl) ?_
          refine lv_iload_n hx hb dX11_next_318 rfl (lv_at hl 0 rfl) ?_
          obtain ⟨z_319, hc_319, h⟩ := bd_e h
          refine q_iS (As := [.int z_36]) (rest := [.ref a_o]) (wF := [(a_o, .inr (10, [.long o_trace, .ref a_text, .int o_typed, .int o_choices, .int o_worlds, w_o_values, .int (x22_o_at + 1), .int x22_o_at, .int o_sort, .int 0, .int o_fault, w_o_draft, w_o_sayings, w_o_leaves, w_o_signs, w_o_words, w_o_word, w_o_isKept, w_o_some, w_o_every, .int o_deep, .int o_many, w_o_length, w_o_found, .int o_foundMany])), (a_text, .inl (cB, 200, .inl f_text))]) hF hA hZ hK hP hD hS (c_X11_signOf l D cI cB cZ z_36 z_319 hc_319) rfl gX11_next_X11_signOf hdX11_signOf ⟨rfl, rfl⟩ (Nat.le_of_ble_eq_true rfl) (Nat.le_of_ble_eq_true rfl) [] [0, 1] rfl rfl rfl rfl (by decide) rfl hl.1 rfl (Nat.le_of_ble_eq_true rfl) (Nat.zero_le _) (Nat.zero_le _) dX11_next_319 (fun H locs hP hD hS => ?_)
          refine va_put (D := D) (ci := 10) (v := .int z_319) (ty := .int) (C := RX11) (T := TX11) (N := 25) hx hb hts u_X11 tyX11 tyX11_ok nmX11 hown hK hP hD hS 0 rfl rfl 8 (by decide) k_f3 (fun _ h9 => h9) rfl (tyX11_ok 8 (by decide)) rfl rfl (Nat.le_of_ble_eq_true rfl) dX11_next_322 (fun H locs hP hD hS => ?_)
          have hP : va_P D vwCl [(a_o, .inr (10, [.long o_trace, .ref a_text, .int o_typed, .int o_choices, .int o_worlds, w_o_values, .int (x22_o_at + 1), .int x22_o_at, .int z_319, .int 0, .int o_fault, w_o_draft, w_o_sayings, w_o_leaves, w_o_signs, w_o_words, w_o_word, w_o_isKept, w_o_some, w_o_every, .int o_deep, .int o_many, w_o_length, w_o_found, .int o_foundMany])), (a_text, .inl (cB, 200, .inl f_text))] H := hP
          have hD : va_D A [(a_o, .inr (10, [.long o_trace, .ref a_text, .int o_typed, .int o_choices, .int o_worlds, w_o_values, .int (x22_o_at + 1), .int x22_o_at, .int z_319, .int 0, .int o_fault, w_o_draft, w_o_sayings, w_o_leaves, w_o_signs, w_o_words, w_o_word, w_o_isKept, w_o_some, w_o_every, .int o_deep, .int o_many, w_o_length, w_o_found, .int o_foundMany])), (a_text, .inl (cB, 200, .inl f_text))] := hD
          have hz := Option.some.inj h
          subst hz
          exact hret H locs 325 ls hP hD hS dX11_next_325
        · replace h := if_e c_201 h
          obtain ⟨k266, hk266, h⟩ := jn_e h
          have Jk266 : ∀ (x266_o_at : Int32) (x266_o_value : Int32) (H : Heap) (locs : List Loc) (ls : Array Slot), k266 x266_o_at x266_o_value = some z → va_P D vwCl [(a_o, .inr (10, [.long o_trace, .ref a_text, .int o_typed, .int o_choices, .int o_worlds, w_o_values, .int x266_o_at, .int x22_o_at, .int o_sort, .int x266_o_value, .int o_fault, w_o_draft, w_o_sayings, w_o_leaves, w_o_signs, w_o_words, w_o_word, w_o_isKept, w_o_some, w_o_every, .int o_deep, .int o_many, w_o_length, w_o_found, .int o_foundMany])), (a_text, .inl (cB, 200, .inl f_text))] H → va_D A [(a_o, .inr (10, [.long o_trace, .ref a_text, .int o_typed, .int o_choices, .int o_worlds, w_o_values, .int x266_o_at, .int x22_o_at, .int o_sort, .int x266_o_value, .int o_fault, w_o_draft, w_o_sayings, w_o_leaves, w_o_signs, w_o_words, w_o_word, w_o_isKept, w_o_some, w_o_every, .int o_deep, .int o_many, w_o_length, w_o_found, .int o_foundMany])), (a_text, .inl (cB, 200, .inl f_text))] → va_S A s.heap H locs → lv_has ls 3 [(0, .ref a_o), (1, .int z_36)] → W p l e rmX11_next s m args below meth c H locs 0 0 Q (F0 m 266 ls []) := by
            intro x266_o_at x266_o_value H locs ls h hP hD hS hl
            rw [hk266] at h
            refine lv_aload_n hx hb dX11_next_266 rfl (lv_at hl 0 rfl) ?_
            refine lv_aload_n hx hb dX11_next_267 rfl (lv_at hl 0 rfl) ?_
            refine va_get (D := D) (ci := 10) (v := .int x266_o_value) (C := RX11) (T := TX11) (N := 25) hx hb hts u_X11 hown hK hP 0 rfl rfl 9 (by decide) k_f2 (fun _ h9 => h9) rfl dX11_next_268 ?_
            refine lv_bipush (v := 99) hx hb dX11_next_271 bc_99 ?_
            obtain ⟨j295, hj295, h⟩ := jn_e h
            have Jj295 : ∀ (H : Heap) (locs : List Loc) (ls : Array Slot), j295 () = some z → va_P D vwCl [(a_o, .inr (10, [.long o_trace, .ref a_text, .int o_typed, .int o_choices, .int o_worlds, w_o_values, .int x266_o_at, .int x22_o_at, .int o_sort, .int x266_o_value, .int o_fault, w_o_draft, w_o_sayings, w_o_leaves, w_o_signs, w_o_words, w_o_word, w_o_isKept, w_o_some, w_o_every, .int o_deep, .int o_many, w_o_length, w_o_found, .int o_foundMany])), (a_text, .inl (cB, 200, .inl f_text))] H → va_D A [(a_o, .inr (10, [.long o_trace, .ref a_text, .int o_typed, .int o_choices, .int o_worlds, w_o_values, .int x266_o_at, .int x22_o_at, .int o_sort, .int x266_o_value, .int o_fault, w_o_draft, w_o_sayings, w_o_leaves, w_o_signs, w_o_words, w_o_word, w_o_isKept, w_o_some, w_o_every, .int o_deep, .int o_many, w_o_length, w_o_found, .int o_foundMany])), (a_text, .inl (cB, 200, .inl f_text))] → va_S A s.heap H locs → lv_has ls 3 [] → W p l e rmX11_next s m args below meth c H locs 0 0 Q (F0 m 295 ls [.ref a_o]) := by
              intro H locs ls h hP hD hS hl
              rw [hj295] at h
              refine lv_bipush (v := 10) hx hb dX11_next_295 bc_10 ?_
              refine lv_goto (tgt := 301) hx hb dX11_next_297 (by decide) ?_
              refine va_put (D := D) (ci := 10) (v := .int 10) (ty := .int) (C := RX11) (T := TX11) (N := 25) hx hb hts u_X11 tyX11 tyX11_ok nmX11 hown hK hP hD hS 0 rfl rfl 8 (by decide) k_f3 (fun _ h9 => h9) rfl (tyX11_ok 8 (by decide)) rfl rfl (Nat.le_of_ble_eq_true rfl) dX11_next_301 (fun H locs hP hD hS => ?_)
              have hP : va_P D vwCl [(a_o, .inr (10, [.long o_trace, .ref a_text, .int o_typed, .int o_choices, .int o_worlds, w_o_values, .int x266_o_at, .int x22_o_at, .int 10, .int x266_o_value, .int o_fault, w_o_draft, w_o_sayings, w_o_leaves, w_o_signs, w_o_words, w_o_word, w_o_isKept, w_o_some, w_o_every, .int o_deep, .int o_many, w_o_length, w_o_found, .int o_foundMany])), (a_text, .inl (cB, 200, .inl f_text))] H := hP
              have hD : va_D A [(a_o, .inr (10, [.long o_trace, .ref a_text, .int o_typed, .int o_choices, .int o_worlds, w_o_values, .int x266_o_at, .int x22_o_at, .int 10, .int x266_o_value, .int o_fault, w_o_draft, w_o_sayings, w_o_leaves, w_o_signs, w_o_words, w_o_word, w_o_isKept, w_o_some, w_o_every, .int o_deep, .int o_many, w_o_length, w_o_found, .int o_foundMany])), (a_text, .inl (cB, 200, .inl f_text))] := hD
              refine lv_goto (tgt := 325) hx hb dX11_next_304 (by decide) ?_
              have hz := Option.some.inj h
              subst hz
              exact hret H locs 325 ls hP hD hS dX11_next_325
            obtain ⟨j301, hj301, h⟩ := jn_e h
            have Jj301 : ∀ (x301_s1 : Int32) (H : Heap) (locs : List Loc) (ls : Array Slot), j301 x301_s1 = some z → va_P D vwCl [(a_o, .inr (10, [.long o_trace, .ref a_text, .int o_typed, .int o_choices, .int o_worlds, w_o_values, .int x266_o_at, .int x22_o_at, .int o_sort, .int x266_o_value, .int o_fault, w_o_draft, w_o_sayings, w_o_leaves, w_o_signs, w_o_words, w_o_word, w_o_isKept, w_o_some, w_o_every, .int o_deep, .int o_many, w_o_length, w_o_found, .int o_foundMany])), (a_text, .inl (cB, 200, .inl f_text))] H → va_D A [(a_o, .inr (10, [.long o_trace, .ref a_text, .int o_typed, .int o_choices, .int o_worlds, w_o_values, .int x266_o_at, .int x22_o_at, .int o_sort, .int x266_o_value, .int o_fault, w_o_draft, w_o_sayings, w_o_leaves, w_o_signs, w_o_words, w_o_word, w_o_isKept, w_o_some, w_o_every, .int o_deep, .int o_many, w_o_length, w_o_found, .int o_foundMany])), (a_text, .inl (cB, 200, .inl f_text))] → va_S A s.heap H locs → lv_has ls 3 [] → W p l e rmX11_next s m args below meth c H locs 0 0 Q (F0 m 301 ls [.int x301_s1, .ref a_o]) := by
              intro x301_s1 H locs ls h hP hD hS hl
              rw [hj301] at h
              refine va_put (D := D) (ci := 10) (v := .int x301_s1) (ty := .int) (C := RX11) (T := TX11) (N := 25) hx hb hts u_X11 tyX11 tyX11_ok nmX11 hown hK hP hD hS 0 rfl rfl 8 (by decide) k_f3 (fun _ h9 => h9) rfl (tyX11_ok 8 (by decide)) rfl rfl (Nat.le_of_ble_eq_true rfl) dX11_next_301 (fun H locs hP hD hS => ?_)
              have hP : va_P D vwCl [(a_o, .inr (10, [.long o_trace, .ref a_text, .int o_typed, .int o_choices, .int o_worlds, w_o_values, .int x266_o_at, .int x22_o_at, .int x301_s1, .int x266_o_value, .int o_fault, w_o_draft, w_o_sayings, w_o_leaves, w_o_signs, w_o_words, w_o_word, w_o_isKept, w_o_some, w_o_every, .int o_deep, .int o_many, w_o_length, w_o_found, .int o_foundMany])), (a_text, .inl (cB, 200, .inl f_text))] H := hP
              have hD : va_D A [(a_o, .inr (10, [.long o_trace, .ref a_text, .int o_typed, .int o_choices, .int o_worlds, w_o_values, .int x266_o_at, .int x22_o_at, .int x301_s1, .int x266_o_value, .int o_fault, w_o_draft, w_o_sayings, w_o_leaves, w_o_signs, w_o_words, w_o_word, w_o_isKept, w_o_some, w_o_every, .int o_deep, .int o_many, w_o_length, w_o_found, .int o_foundMany])), (a_text, .inl (cB, 200, .inl f_text))] := hD
              refine lv_goto (tgt := 325) hx hb dX11_next_304 (by decide) ?_
              have hz := Option.some.inj h
              subst hz
              exact hret H locs 325 ls hP hD hS dX11_next_325
            refine lv_icmp_gt (tgt := 295) hx hb dX11_next_273 (by decide) (fun c_273 => ?_) (fun c_273 => ?_)
            · replace h := it_e c_273 h
              exact Jj295  H locs ls h hP hD hS (lv_sub hl [] rfl)
            · replace h := if_e c_273 h
              refine lv_iload_n hx hb dX11_next_276 rfl (lv_at hl 1 rfl) ?_
              refine lv_bipush (v := 48) hx hb dX11_next_277 bc_48 ?_
              obtain ⟨j300, hj300, h⟩ := jn_e h
              have Jj300 : ∀ (H : Heap) (locs : List Loc) (ls : Array Slot), j300 () = some z → va_P D vwCl [(a_o, .inr (10, [.long o_trace, .ref a_text, .int o_typed, .int o_choices, .int o_worlds, w_o_values, .int x266_o_at, .int x22_o_at, .int o_sort, .int x266_o_value, .int o_fault, w_o_draft, w_o_sayings, w_o_leaves, w_o_signs, w_o_words, w_o_word, w_o_isKept, w_o_some, w_o_every, .int o_deep, .int o_many, w_o_length, w_o_found, .int o_foundMany])), (a_text, .inl (cB, 200, .inl f_text))] H → va_D A [(a_o, .inr (10, [.long o_trace, .ref a_text, .int o_typed, .int o_choices, .int o_worlds, w_o_values, .int x266_o_at, .int x22_o_at, .int o_sort, .int x266_o_value, .int o_fault, w_o_draft, w_o_sayings, w_o_leaves, w_o_signs, w_o_words, w_o_word, w_o_isKept, w_o_some, w_o_every, .int o_deep, .int o_many, w_o_length, w_o_found, .int o_foundMany])), (a_text, .inl (cB, 200, .inl f_text))] → va_S A s.heap H locs → lv_has ls 3 [] → W p l e rmX11_next s m args below meth c H locs 0 0 Q (F0 m 300 ls [.ref a_o]) := by
                intro H locs ls h hP hD hS hl
                rw [hj300] at h
                refine lv_iconst (v := 3) hx hb dX11_next_300 ic_3 ?_
                exact Jj301 3 H locs ls h hP hD hS hl
              refine lv_icmp_ne (tgt := 300) hx hb dX11_next_279 (by decide) (fun c_279 => ?_) (fun c_279 => ?_)
              · replace h := if_e c_279 h
                exact Jj300  H locs ls h hP hD hS (lv_sub hl [] rfl)
              · replace h := it_e c_279 h
                refine lv_aload_n hx hb dX11_next_282 rfl (lv_at hl 0 rfl) ?_
                refine va_get (D := D) (ci := 10) (v := .int x266_o_at) (C := RX11) (T := TX11) (N := 25) hx hb hts u_X11 hown hK hP 0 rfl rfl 6 (by decide) k_f0 (fun _ h9 => h9) rfl dX11_next_283 ?_
                refine lv_aload_n hx hb dX11_next_286 rfl (lv_at hl 0 rfl) ?_
                refine va_get (D := D) (ci := 10) (v := .int x22_o_at) (C := RX11) (T := TX11) (N := 25) hx hb hts u_X11 hown hK hP 0 rfl rfl 7 (by decide) k_f1 (fun _ h9 => h9) rfl dX11_next_287 ?_
                refine lv_isub hx hb dX11_next_290 ?_
                refine lv_iconst (v := 1) hx hb dX11_next_291 ic_1 ?_
                refine lv_icmp_le (tgt := 300) hx hb dX11_next_292 (by decide) (fun c_292 => ?_) (fun c_292 => ?_)
                · replace h := it_e c_292 h
                  exact Jj300  H locs ls h hP hD hS (lv_sub hl [] rfl)
                · replace h := if_e c_292 h
                  exact Jj295  H locs ls h hP hD hS (lv_sub hl [] rfl)
          have L204 : ∀ (n : Nat), ∀ (x204_o_at : Int32) (x204_o_value : Int32) (H : Heap) (locs : List Loc) (ls : Array Slot), P_X11_next_204 o_typed f_text k266 n x204_o_at x204_o_value = some z → va_P D vwCl [(a_o, .inr (10, [.long o_trace, .ref a_text, .int o_typed, .int o_choices, .int o_worlds, w_o_values, .int x204_o_at, .int x22_o_at, .int o_sort, .int x204_o_value, .int o_fault, w_o_draft, w_o_sayings, w_o_leaves, w_o_signs, w_o_words, w_o_word, w_o_isKept, w_o_some, w_o_every, .int o_deep, .int o_many, w_o_length, w_o_found, .int o_foundMany])), (a_text, .inl (cB, 200, .inl f_text))] H → va_D A [(a_o, .inr (10, [.long o_trace, .ref a_text, .int o_typed, .int o_choices, .int o_worlds, w_o_values, .int x204_o_at, .int x22_o_at, .int o_sort, .int x204_o_value, .int o_fault, w_o_draft, w_o_sayings, w_o_leaves, w_o_signs, w_o_words, w_o_word, w_o_isKept, w_o_some, w_o_every, .int o_deep, .int o_many, w_o_length, w_o_found, .int o_foundMany])), (a_text, .inl (cB, 200, .inl f_text))] → va_S A s.heap H locs → lv_has ls 3 [(0, .ref a_o), (1, .int z_36)] → W p l e rmX11_next s m args below meth c H locs 0 0 Q (F0 m 204 ls []) := by
            intro n
            induction n with
            | zero =>
              intro x204_o_at x204_o_value H locs ls h
              exact no_e h
            | succ n ih204 =>
              intro x204_o_at x204_o_value H locs ls h hP hD hS hl
              rw [P_X11_next_204] at h
              refine lv_aload_n hx hb dX11_next_204 rfl (lv_at hl 0 rfl) ?_
              obtain ⟨z_205, hc_205, h⟩ := bd_e h
              refine q_iV (As := []) (rest := []) (wF := [(a_o, .inr (10, [.long o_trace, .ref a_text, .int o_typed, .int o_choices, .int o_worlds, w_o_values, .int x204_o_at, .int x22_o_at, .int o_sort, .int x204_o_value, .int o_fault, w_o_draft, w_o_sayings, w_o_leaves, w_o_signs, w_o_words, w_o_word, w_o_isKept, w_o_some, w_o_every, .int o_deep, .int o_many, w_o_length, w_o_found, .int o_foundMany])), (a_text, .inl (cB, 200, .inl f_text))]) hF hA hZ hK hP hD hS (c_X11_here l D cI cB cZ a_o o_trace o_typed o_choices o_worlds w_o_values x204_o_at x22_o_at o_sort x204_o_value o_fault w_o_draft w_o_sayings w_o_leaves w_o_signs w_o_words w_o_word w_o_isKept w_o_some w_o_every o_deep o_many w_o_length w_o_found o_foundMany a_text f_text z_205 hc_205) rfl gX11_next_X11_here hdX11_here ⟨rfl, rfl⟩ (Nat.le_of_ble_eq_true rfl) (Nat.le_of_ble_eq_true rfl) 10 0 rfl rfl [0, 1] [] rfl rfl rfl rfl (by decide) rfl hl.1 rfl (Nat.le_of_ble_eq_true rfl) (Nat.zero_le _) (Nat.zero_le _) dX11_next_205 (fun H locs hP hD hS => ?_)
              refine lv_bipush (v := 48) hx hb dX11_next_208 bc_48 ?_
              refine lv_bipush (v := 57) hx hb dX11_next_210 bc_57 ?_
              obtain ⟨z_212, hc_212, h⟩ := bd_e h
              refine q_iS (As := [.int z_205, .int 48, .int 57]) (rest := []) (wF := [(a_o, .inr (10, [.long o_trace, .ref a_text, .int o_typed, .int o_choices, .int o_worlds, w_o_values, .int x204_o_at, .int x22_o_at, .int o_sort, .int x204_o_value, .int o_fault, w_o_draft, w_o_sayings, w_o_leaves, w_o_signs, w_o_words, w_o_word, w_o_isKept, w_o_some, w_o_every, .int o_deep, .int o_many, w_o_length, w_o_found, .int o_foundMany])), (a_text, .inl (cB, 200, .inl f_text))]) hF hA hZ hK hP hD hS (c_X11_in l D cI cB cZ z_205 48 57 z_212 hc_212) rfl gX11_next_X11_in hdX11_in ⟨rfl, rfl⟩ (Nat.le_of_ble_eq_true rfl) (Nat.le_of_ble_eq_true rfl) [] [0, 1] rfl rfl rfl rfl (by decide) rfl hl.1 rfl (Nat.le_of_ble_eq_true rfl) (Nat.zero_le _) (Nat.zero_le _) dX11_next_212 (fun H locs hP hD hS => ?_)
              refine lv_if_eq (tgt := 266) hx hb dX11_next_215 (by decide) (fun c_215 => ?_) (fun c_215 => ?_)
              · replace h := it_e c_215 h
                exact Jk266 x204_o_at x204_o_value H locs ls h hP hD hS hl
              · replace h := if_e c_215 h
                refine lv_aload_n hx hb dX11_next_218 rfl (lv_at hl 0 rfl) ?_
                refine lv_aload_n hx hb dX11_next_219 rfl (lv_at hl 0 rfl) ?_
                refine va_get (D := D) (ci := 10) (v := .int x204_o_value) (C := RX11) (T := TX11) (N := 25) hx hb hts u_X11 hown hK hP 0 rfl rfl 9 (by decide) k_f2 (fun _ h9 => h9) rfl dX11_next_220 ?_
                refine lv_bipush (v := 99) hx hb dX11_next_223 bc_99 ?_
                obtain ⟨j250, hj250, h⟩ := jn_e h
                have Jj250 : ∀ (x250_s1 : Int32) (H : Heap) (locs : List Loc) (ls : Array Slot), j250 x250_s1 = some z → va_P D vwCl [(a_o, .inr (10, [.long o_trace, .ref a_text, .int o_typed, .int o_choices, .int o_worlds, w_o_values, .int x204_o_at, .int x22_o_at, .int o_sort, .int x204_o_value, .int o_fault, w_o_draft, w_o_sayings, w_o_leaves, w_o_signs, w_o_words, w_o_word, w_o_isKept, w_o_some, w_o_every, .int o_deep, .int o_many, w_o_length, w_o_found, .int o_foundMany])), (a_text, .inl (cB, 200, .inl f_text))] H → va_D A [(a_o, .inr (10, [.long o_trace, .ref a_text, .int o_typed, .int o_choices, .int o_worlds, w_o_values, .int x204_o_at, .int x22_o_at, .int o_sort, .int x204_o_value, .int o_fault, w_o_draft, w_o_sayings, w_o_leaves, w_o_signs, w_o_words, w_o_word, w_o_isKept, w_o_some, w_o_every, .int o_deep, .int o_many, w_o_length, w_o_found, .int o_foundMany])), (a_text, .inl (cB, 200, .inl f_text))] → va_S A s.heap H locs → lv_has ls 3 [(0, .ref a_o), (1, .int z_36)] → W p l e rmX11_next s m args below meth c H locs 0 0 Q (F0 m 250 ls [.int x250_s1, .ref a_o]) := by
                  intro x250_s1 H locs ls h hP hD hS hl
                  rw [hj250] at h
                  refine va_put (D := D) (ci := 10) (v := .int x250_s1) (ty := .int) (C := RX11) (T := TX11) (N := 25) hx hb hts u_X11 tyX11 tyX11_ok nmX11 hown hK hP hD hS 0 rfl rfl 9 (by decide) k_f2 (fun _ h9 => h9) rfl (tyX11_ok 9 (by decide)) rfl rfl (Nat.le_of_ble_eq_true rfl) dX11_next_250 (fun H locs hP hD hS => ?_)
                  have hP : va_P D vwCl [(a_o, .inr (10, [.long o_trace, .ref a_text, .int o_typed, .int o_choices, .int o_worlds, w_o_values, .int x204_o_at, .int x22_o_at, .int o_sort, .int x250_s1, .int o_fault, w_o_draft, w_o_sayings, w_o_leaves, w_o_signs, w_o_words, w_o_word, w_o_isKept, w_o_some, w_o_every, .int o_deep, .int o_many, w_o_length, w_o_found, .int o_foundMany])), (a_text, .inl (cB, 200, .inl f_text))] H := hP
                  have hD : va_D A [(a_o, .inr (10, [.long o_trace, .ref a_text, .int o_typed, .int o_choices, .int o_worlds, w_o_values, .int x204_o_at, .int x22_o_at, .int o_sort, .int x250_s1, .int o_fault, w_o_draft, w_o_sayings, w_o_leaves, w_o_signs, w_o_words, w_o_word, w_o_isKept, w_o_some, w_o_every, .int o_deep, .int o_many, w_o_length, w_o_found, .int o_foundMany])), (a_text, .inl (cB, 200, .inl f_text))] := hD
                  refine lv_aload_n hx hb dX11_next_253 rfl (lv_at hl 0 rfl) ?_
                  refine lv_dup hx hb dX11_next_254 rfl ?_
                  refine va_get (D := D) (ci := 10) (v := .int x204_o_at) (C := RX11) (T := TX11) (N := 25) hx hb hts u_X11 hown hK hP 0 rfl rfl 6 (by decide) k_f0 (fun _ h9 => h9) rfl dX11_next_255 ?_
                  refine lv_iconst (v := 1) hx hb dX11_next_258 ic_1 ?_
                  refine lv_iadd hx hb dX11_next_259 ?_
                  refine va_put (D := D) (ci := 10) (v := .int (x204_o_at + 1)) (ty := .int) (C := RX11) (T := TX11) (N := 25) hx hb hts u_X11 tyX11 tyX11_ok nmX11 hown hK hP hD hS 0 rfl rfl 6 (by decide) k_f0 (fun _ h9 => h9) rfl (tyX11_ok 6 (by decide)) rfl rfl (Nat.le_of_ble_eq_true rfl) dX11_next_260 (fun H locs hP hD hS => ?_)
                  have hP : va_P D vwCl [(a_o, .inr (10, [.long o_trace, .ref a_text, .int o_typed, .int o_choices, .int o_worlds, w_o_values, .int (x204_o_at + 1), .int x22_o_at, .int o_sort, .int x250_s1, .int o_fault, w_o_draft, w_o_sayings, w_o_leaves, w_o_signs, w_o_words, w_o_word, w_o_isKept, w_o_some, w_o_every, .int o_deep, .int o_many, w_o_length, w_o_found, .int o_foundMany])), (a_text, .inl (cB, 200, .inl f_text))] H := hP
                  have hD : va_D A [(a_o, .inr (10, [.long o_trace, .ref a_text, .int o_typed, .int o_choices, .int o_worlds, w_o_values, .int (x204_o_at + 1), .int x22_o_at, .int o_sort, .int x250_s1, .int o_fault, w_o_draft, w_o_sayings, w_o_leaves, w_o_signs, w_o_words, w_o_word, w_o_isKept, w_o_some, w_o_every, .int o_deep, .int o_many, w_o_length, w_o_found, .int o_foundMany])), (a_text, .inl (cB, 200, .inl f_text))] := hD
                  refine lv_goto (tgt := 204) hx hb dX11_next_263 (by decide) ?_
                  exact ih204 (x204_o_at + 1) x250_s1 H locs ls h hP hD hS hl
                refine lv_icmp_le (tgt := 235) hx hb dX11_next_225 (by decide) (fun c_225 => ?_) (fun c_225 => ?_)
                · replace h := it_e c_225 h
                  refine lv_bipush (v := 10) hx hb dX11_next_235 bc_10 ?_
                  refine lv_aload_n hx hb dX11_next_237 rfl (lv_at hl 0 rfl) ?_
                  refine va_get (D := D) (ci := 10) (v := .int x204_o_value) (C := RX11) (T := TX11) (N := 25) hx hb hts u_X11 hown hK hP 0 rfl rfl 9 (by decide) k_f2 (fun _ h9 => h9) rfl dX11_next_238 ?_
                  refine lv_imul hx hb dX11_next_241 ?_
                  refine lv_aload_n hx hb dX11_next_242 rfl (lv_at hl 0 rfl) ?_
                  obtain ⟨z_243, hc_243, h⟩ := bd_e h
                  refine q_iV (As := []) (rest := [.int (10 * x204_o_value), .ref a_o]) (wF := [(a_o, .inr (10, [.long o_trace, .ref a_text, .int o_typed, .int o_choices, .int o_worlds, w_o_values, .int x204_o_at, .int x22_o_at, .int o_sort, .int x204_o_value, .int o_fault, w_o_draft, w_o_sayings, w_o_leaves, w_o_signs, w_o_words, w_o_word, w_o_isKept, w_o_some, w_o_every, .int o_deep, .int o_many, w_o_length, w_o_found, .int o_foundMany])), (a_text, .inl (cB, 200, .inl f_text))]) hF hA hZ hK hP hD hS (c_X11_here l D cI cB cZ a_o o_trace o_typed o_choices o_worlds w_o_values x204_o_at x22_o_at o_sort x204_o_value o_fault w_o_draft w_o_sayings w_o_leaves w_o_signs w_o_words w_o_word w_o_isKept w_o_some w_o_every o_deep o_many w_o_length w_o_found o_foundMany a_text f_text z_243 hc_243) rfl gX11_next_X11_here hdX11_here ⟨rfl, rfl⟩ (Nat.le_of_ble_eq_true rfl) (Nat.le_of_ble_eq_true rfl) 10 0 rfl rfl [0, 1] [] rfl rfl rfl rfl (by decide) rfl hl.1 rfl (Nat.le_of_ble_eq_true rfl) (Nat.zero_le _) (Nat.zero_le _) dX11_next_243 (fun H locs hP hD hS => ?_)
                  refine lv_iadd hx hb dX11_next_246 ?_
                  refine lv_bipush (v := 48) hx hb dX11_next_247 bc_48 ?_
                  refine lv_isub hx hb dX11_next_249 ?_
                  exact Jj250 (((10 * x204_o_value) + z_243) - 48) H locs ls h hP hD hS hl
                · replace h := if_e c_225 h
                  refine lv_aload_n hx hb dX11_next_228 rfl (lv_at hl 0 rfl) ?_
                  refine va_get (D := D) (ci := 10) (v := .int x204_o_value) (C := RX11) (T := TX11) (N := 25) hx hb hts u_X11 hown hK hP 0 rfl rfl 9 (by decide) k_f2 (fun _ h9 => h9) rfl dX11_next_229 ?_
                  refine lv_goto (tgt := 250) hx hb dX11_next_232 (by decide) ?_
                  exact Jj250 x204_o_value H locs ls h hP hD hS hl
          exact L204 QF x22_o_at 0 H locs ls h hP hD hS (lv_sub hl [1, 0] rfl)
      · replace h := if_e c_61 h
        refine lv_iconst (v := 0) hx hb dX11_next_64 ic_0 ?_
        refine lv_istore_n (lv' := [(2, .int 0), (1, .int z_36), (0, .ref a_o)]) hx hb dX11_next_65 rfl hl (by decide) rfl (fun ls hl => ?_)
        obtain ⟨k124, hk124, h⟩ := jn_e h
        have Jk124 : ∀ (x124_l2 : Int32) (x124_o_at : Int32) (H : Heap) (locs : List Loc) (ls : Array Slot), k124 x124_l2 x124_o_at = some z → va_P D vwCl [(a_o, .inr (10, [.long o_trace, .ref a_text, .int o_typed, .int o_choices, .int o_worlds, w_o_values, .int x124_o_at, .int x22_o_at, .int o_sort, .int 0, .int o_fault, w_o_draft, w_o_sayings, w_o_leaves, w_o_signs, w_o_words, w_o_word, w_o_isKept, w_o_some, w_o_every, .int o_deep, .int o_many, w_o_length, w_o_found, .int o_foundMany])), (a_text, .inl (cB, 200, .inl f_text))] H → va_D A [(a_o, .inr (10, [.long o_trace, .ref a_text, .int o_typed, .int o_choices, .int o_worlds, w_o_values, .int x124_o_at, .int x22_o_at, .int o_sort, .int 0, .int o_fault, w_o_draft, w_o_sayings, w_o_leaves, w_o_signs, w_o_words, w_o_word, w_o_isKept, w_o_some, w_o_every, .int o_deep, .int o_many, w_o_length, w_o_found, .int o_foundMany])), (a_text, .inl (cB, 200, .inl f_text))] → va_S A s.heap H locs → lv_has ls 3 [(0, .ref a_o), (2, .int x124_l2)] → W p l e rmX11_next s m args below meth c H locs 0 0 Q (F0 m 124 ls []) := by
          intro x124_l2 x124_o_at H locs ls h hP hD hS hl
          rw [hk124] at h
          refine lv_aload_n hx hb dX11_next_124 rfl (lv_at hl 0 rfl) ?_
          refine va_get (D := D) (ci := 10) (v := .int x124_o_at) (C := RX11) (T := TX11) (N := 25) hx hb hts u_X11 hown hK hP 0 rfl rfl 6 (by decide) k_f0 (fun _ h9 => h9) rfl dX11_next_125 ?_
          refine lv_aload_n hx hb dX11_next_128 rfl (lv_at hl 0 rfl) ?_
          refine va_get (D := D) (ci := 10) (v := .int x22_o_at) (C := RX11) (T := TX11) (N := 25) hx hb hts u_X11 hown hK hP 0 rfl rfl 7 (by decide) k_f1 (fun _ h9 => h9) rfl dX11_next_129 ?_
          refine lv_isub hx hb dX11_next_132 ?_
          refine lv_bipush (v := 6) hx hb dX11_next_133 bc_6 ?_
          obtain ⟨j143, hj143, h⟩ := jn_e h
          have Jj143 : ∀ (x143_s0 : Int32) (H : Heap) (locs : List Loc) (ls : Array Slot), j143 x143_s0 = some z → va_P D vwCl [(a_o, .inr (10, [.long o_trace, .ref a_text, .int o_typed, .int o_choices, .int o_worlds, w_o_values, .int x124_o_at, .int x22_o_at, .int o_sort, .int 0, .int o_fault, w_o_draft, w_o_sayings, w_o_leaves, w_o_signs, w_o_words, w_o_word, w_o_isKept, w_o_some, w_o_every, .int o_deep, .int o_many, w_o_length, w_o_found, .int o_foundMany])), (a_text, .inl (cB, 200, .inl f_text))] H → va_D A [(a_o, .inr (10, [.long o_trace, .ref a_text, .int o_typed, .int o_choices, .int o_worlds, w_o_values, .int x124_o_at, .int x22_o_at, .int o_sort, .int 0, .int o_fault, w_o_draft, w_o_sayings, w_o_leaves, w_o_signs, w_o_words, w_o_word, w_o_isKept, w_o_some, w_o_every, .int o_deep, .int o_many, w_o_length, w_o_found, .int o_foundMany])), (a_text, .inl (cB, 200, .inl f_text))] → va_S A s.heap H locs → lv_has ls 3 [(0, .ref a_o)] → W p l e rmX11_next s m args below meth c H locs 0 0 Q (F0 m 143 ls [.int x143_s0]) := by
            intro x143_s0 H locs ls h hP hD hS hl
            rw [hj143] at h
            refine lv_istore_n (lv' := [(2, .int x143_s0), (0, .ref a_o)]) hx hb dX11_next_143 rfl hl (by decide) rfl (fun ls hl => ?_)
            refine lv_aload_n hx hb dX11_next_144 rfl (lv_at hl 1 rfl) ?_
            refine lv_iload_n hx hb dX11_next_145 rfl (lv_at hl 0 rfl) ?_
            refine lv_ldc (v := 47600141) hx hb hown k_c4 dX11_next_146 ?_
            obtain ⟨j180, hj180, h⟩ := jn_e h
            have Jj180 : ∀ (x180_s1 : Int32) (H : Heap) (locs : List Loc) (ls : Array Slot), j180 x180_s1 = some z → va_P D vwCl [(a_o, .inr (10, [.long o_trace, .ref a_text, .int o_typed, .int o_choices, .int o_worlds, w_o_values, .int x124_o_at, .int x22_o_at, .int o_sort, .int 0, .int o_fault, w_o_draft, w_o_sayings, w_o_leaves, w_o_signs, w_o_words, w_o_word, w_o_isKept, w_o_some, w_o_every, .int o_deep, .int o_many, w_o_length, w_o_found, .int o_foundMany])), (a_text, .inl (cB, 200, .inl f_text))] H → va_D A [(a_o, .inr (10, [.long o_trace, .ref a_text, .int o_typed, .int o_choices, .int o_worlds, w_o_values, .int x124_o_at, .int x22_o_at, .int o_sort, .int 0, .int o_fault, w_o_draft, w_o_sayings, w_o_leaves, w_o_signs, w_o_words, w_o_word, w_o_isKept, w_o_some, w_o_every, .int o_deep, .int o_many, w_o_length, w_o_found, .int o_foundMany])), (a_text, .inl (cB, 200, .inl f_text))] → va_S A s.heap H locs → lv_has ls 3 [(0, .ref a_o), (2, .int x143_s0)] → W p l e rmX11_next s m args below meth c H locs 0 0 Q (F0 m 180 ls [.int x180_s1, .ref a_o]) := by
              intro x180_s1 H locs ls h hP hD hS hl
              rw [hj180] at h
              refine va_put (D := D) (ci := 10) (v := .int x180_s1) (ty := .int) (C := RX11) (T := TX11) (N := 25) hx hb hts u_X11 tyX11 tyX11_ok nmX11 hown hK hP hD hS 0 rfl rfl 8 (by decide) k_f3 (fun _ h9 => h9) rfl (tyX11_ok 8 (by decide)) rfl rfl (Nat.le_of_ble_eq_true rfl) dX11_next_180 (fun H locs hP hD hS => ?_)
              have hP : va_P D vwCl [(a_o, .inr (10, [.long o_trace, .ref a_text, .int o_typed, .int o_choices, .int o_worlds, w_o_values, .int x124_o_at, .int x22_o_at, .int x180_s1, .int 0, .int o_fault, w_o_draft, w_o_sayings, w_o_leaves, w_o_signs, w_o_words, w_o_word, w_o_isKept, w_o_some, w_o_every, .int o_deep, .int o_many, w_o_length, w_o_found, .int o_foundMany])), (a_text, .inl (cB, 200, .inl f_text))] H := hP
              have hD : va_D A [(a_o, .inr (10, [.long o_trace, .ref a_text, .int o_typed, .int o_choices, .int o_worlds, w_o_values, .int x124_o_at, .int x22_o_at, .int x180_s1, .int 0, .int o_fault, w_o_draft, w_o_sayings, w_o_leaves, w_o_signs, w_o_words, w_o_word, w_o_isKept, w_o_some, w_o_every, .int o_deep, .int o_many, w_o_length, w_o_found, .int o_foundMany])), (a_text, .inl (cB, 200, .inl f_text))] := hD
              refine lv_aload_n hx hb dX11_next_183 rfl (lv_at hl 0 rfl) ?_
              refine lv_iload_n hx hb dX11_next_184 rfl (lv_at hl 1 rfl) ?_
              refine lv_iconst (v := 1) hx hb dX11_next_185 ic_1 ?_
              refine lv_isub hx hb dX11_next_186 ?_
              refine va_put (D := D) (ci := 10) (v := .int (x143_s0 - 1)) (ty := .int) (C := RX11) (T := TX11) (N := 25) hx hb hts u_X11 tyX11 tyX11_ok nmX11 hown hK hP hD hS 0 rfl rfl 9 (by decide) k_f2 (fun _ h9 => h9) rfl (tyX11_ok 9 (by decide)) rfl rfl (Nat.le_of_ble_eq_true rfl) dX11_next_187 (fun H locs hP hD hS => ?_)
              have hP : va_P D vwCl [(a_o, .inr (10, [.long o_trace, .ref a_text, .int o_typed, .int o_choices, .int o_worlds, w_o_values, .int x124_o_at, .int x22_o_at, .int x180_s1, .int (x143_s0 - 1), .int o_fault, w_o_draft, w_o_sayings, w_o_leaves, w_o_signs, w_o_words, w_o_word, w_o_isKept, w_o_some, w_o_every, .int o_deep, .int o_many, w_o_length, w_o_found, .int o_foundMany])), (a_text, .inl (cB, 200, .inl f_text))] H := hP
              have hD : va_D A [(a_o, .inr (10, [.long o_trace, .ref a_text, .int o_typed, .int o_choices, .int o_worlds, w_o_values, .int x124_o_at, .int x22_o_at, .int x180_s1, .int (x143_s0 - 1), .int o_fault, w_o_draft, w_o_sayings, w_o_leaves, w_o_signs, w_o_words, w_o_word, w_o_isKept, w_o_some, w_o_every, .int o_deep, .int o_many, w_o_length, w_o_found, .int o_foundMany])), (a_text, .inl (cB, 200, .inl f_text))] := hD
              refine lv_goto (tgt := 325) hx hb dX11_next_190 (by decide) ?_
              have hz := Option.some.inj h
              subst hz
              exact hret H locs 325 ls hP hD hS dX11_next_325
            refine lv_icmp_ne (tgt := 155) hx hb dX11_next_148 (by decide) (fun c_148 => ?_) (fun c_148 => ?_)
            · replace h := if_e c_148 h
              refine lv_iload_n hx hb dX11_next_155 rfl (lv_at hl 0 rfl) ?_
              refine lv_bipush (v := 23) hx hb dX11_next_156 bc_23 ?_
              refine lv_icmp_ne (tgt := 165) hx hb dX11_next_158 (by decide) (fun c_158 => ?_) (fun c_158 => ?_)
              · replace h := if_e c_158 h
                refine lv_iload_n hx hb dX11_next_165 rfl (lv_at hl 0 rfl) ?_
                refine lv_iconst (v := 1) hx hb dX11_next_166 ic_1 ?_
                refine lv_iconst (v := 3) hx hb dX11_next_167 ic_3 ?_
                obtain ⟨z_168, hc_168, h⟩ := bd_e h
                refine q_iS (As := [.int x143_s0, .int 1, .int 3]) (rest := [.ref a_o]) (wF := [(a_o, .inr (10, [.long o_trace, .ref a_text, .int o_typed, .int o_choices, .int o_worlds, w_o_values, .int x124_o_at, .int x22_o_at, .int o_sort, .int 0, .int o_fault, w_o_draft, w_o_sayings, w_o_leaves, w_o_signs, w_o_words, w_o_word, w_o_isKept, w_o_some, w_o_every, .int o_deep, .int o_many, w_o_length, w_o_found, .int o_foundMany])), (a_text, .inl (cB, 200, .inl f_text))]) hF hA hZ hK hP hD hS (c_X11_in l D cI cB cZ x143_s0 1 3 z_168 hc_168) rfl gX11_next_X11_in hdX11_in ⟨rfl, rfl⟩ (Nat.le_of_ble_eq_true rfl) (Nat.le_of_ble_eq_true rfl) [] [0, 1] rfl rfl rfl rfl (by decide) rfl hl.1 rfl (Nat.le_of_ble_eq_true rfl) (Nat.zero_le _) (Nat.zero_le _) dX11_next_168 (fun H locs hP hD hS => ?_)
                refine lv_if_eq (tgt := 178) hx hb dX11_next_171 (by decide) (fun c_171 => ?_) (fun c_171 => ?_)
                · replace h := it_e c_171 h
                  refine lv_bipush (v := 10) hx hb dX11_next_178 bc_10 ?_
                  exact Jj180 10 H locs ls h hP hD hS (lv_sub hl [1, 0] rfl)
                · replace h := if_e c_171 h
                  refine lv_iconst (v := 1) hx hb dX11_next_174 ic_1 ?_
                  refine lv_goto (tgt := 180) hx hb dX11_next_175 (by decide) ?_
                  exact Jj180 1 H locs ls h hP hD hS (lv_sub hl [1, 0] rfl)
              · replace h := it_e c_158 h
                refine lv_iconst (v := 2) hx hb dX11_next_161 ic_2 ?_
                refine lv_goto (tgt := 180) hx hb dX11_next_162 (by decide) ?_
                exact Jj180 2 H locs ls h hP hD hS (lv_sub hl [1, 0] rfl)
            · replace h := it_e c_148 h
              refine lv_iconst (v := 0) hx hb dX11_next_151 ic_0 ?_
              refine lv_goto (tgt := 180) hx hb dX11_next_152 (by decide) ?_
              exact Jj180 0 H locs ls h hP hD hS (lv_sub hl [1, 0] rfl)
          refine lv_icmp_le (tgt := 142) hx hb dX11_next_135 (by decide) (fun c_135 => ?_) (fun c_135 => ?_)
          · replace h := it_e c_135 h
            refine lv_iload_n hx hb dX11_next_142 rfl (lv_at hl 1 rfl) ?_
            exact Jj143 x124_l2 H locs ls h hP hD hS (lv_sub hl [0] rfl)
          · replace h := if_e c_135 h
            refine lv_iconst (v := 0) hx hb dX11_next_138 ic_0 ?_
            refine lv_goto (tgt := 143) hx hb dX11_next_139 (by decide) ?_
            exact Jj143 0 H locs ls h hP hD hS (lv_sub hl [0] rfl)
        have L66 : ∀ (n : Nat), ∀ (x66_l2 : Int32) (x66_o_at : Int32) (H : Heap) (locs : List Loc) (ls : Array Slot), P_X11_next_66 o_typed f_text x22_o_at k124 n x66_l2 x66_o_at = some z → va_P D vwCl [(a_o, .inr (10, [.long o_trace, .ref a_text, .int o_typed, .int o_choices, .int o_worlds, w_o_values, .int x66_o_at, .int x22_o_at, .int o_sort, .int 0, .int o_fault, w_o_draft, w_o_sayings, w_o_leaves, w_o_signs, w_o_words, w_o_word, w_o_isKept, w_o_some, w_o_every, .int o_deep, .int o_many, w_o_length, w_o_found, .int o_foundMany])), (a_text, .inl (cB, 200, .inl f_text))] H → va_D A [(a_o, .inr (10, [.long o_trace, .ref a_text, .int o_typed, .int o_choices, .int o_worlds, w_o_values, .int x66_o_at, .int x22_o_at, .int o_sort, .int 0, .int o_fault, w_o_draft, w_o_sayings, w_o_leaves, w_o_signs, w_o_words, w_o_word, w_o_isKept, w_o_some, w_o_every, .int o_deep, .int o_many, w_o_length, w_o_found, .int o_foundMany])), (a_text, .inl (cB, 200, .inl f_text))] → va_S A s.heap H locs → lv_has ls 3 [(0, .ref a_o), (2, .int x66_l2)] → W p l e rmX11_next s m args below meth c H locs 0 0 Q (F0 m 66 ls []) := by
          intro n
          induction n with
          | zero =>
            intro x66_l2 x66_o_at H locs ls h
            exact no_e h
          | succ n ih66 =>
            intro x66_l2 x66_o_at H locs ls h hP hD hS hl
            rw [P_X11_next_66] at h
            refine lv_aload_n hx hb dX11_next_66 rfl (lv_at hl 0 rfl) ?_
            obtain ⟨z_67, hc_67, h⟩ := bd_e h
            refine q_iV (As := []) (rest := []) (wF := [(a_o, .inr (10, [.long o_trace, .ref a_text, .int o_typed, .int o_choices, .int o_worlds, w_o_values, .int x66_o_at, .int x22_o_at, .int o_sort, .int 0, .int o_fault, w_o_draft, w_o_sayings, w_o_leaves, w_o_signs, w_o_words, w_o_word, w_o_isKept, w_o_some, w_o_every, .int o_deep, .int o_many, w_o_length, w_o_found, .int o_foundMany])), (a_text, .inl (cB, 200, .inl f_text))]) hF hA hZ hK hP hD hS (c_X11_here l D cI cB cZ a_o o_trace o_typed o_choices o_worlds w_o_values x66_o_at x22_o_at o_sort 0 o_fault w_o_draft w_o_sayings w_o_leaves w_o_signs w_o_words w_o_word w_o_isKept w_o_some w_o_every o_deep o_many w_o_length w_o_found o_foundMany a_text f_text z_67 hc_67) rfl gX11_next_X11_here hdX11_here ⟨rfl, rfl⟩ (Nat.le_of_ble_eq_true rfl) (Nat.le_of_ble_eq_true rfl) 10 0 rfl rfl [0, 1] [] rfl rfl rfl rfl (by decide) rfl hl.1 rfl (Nat.le_of_ble_eq_true rfl) (Nat.zero_le _) (Nat.zero_le _) dX11_next_67 (fun H locs hP hD hS => ?_)
            refine lv_bipush (v := 97) hx hb dX11_next_70 bc_97 ?_
            refine lv_bipush (v := 122) hx hb dX11_next_72 bc_122 ?_
            obtain ⟨z_74, hc_74, h⟩ := bd_e h
            refine q_iS (As := [.int z_67, .int 97, .int 122]) (rest := []) (wF := [(a_o, .inr (10, [.long o_trace, .ref a_text, .int o_typed, .int o_choices, .int o_worlds, w_o_values, .int x66_o_at, .int x22_o_at, .int o_sort, .int 0, .int o_fault, w_o_draft, w_o_sayings, w_o_leaves, w_o_signs, w_o_words, w_o_word, w_o_isKept, w_o_some, w_o_every, .int o_deep, .int o_many, w_o_length, w_o_found, .int o_foundMany])), (a_text, .inl (cB, 200, .inl f_text))]) hF hA hZ hK hP hD hS (c_X11_in l D cI cB cZ z_67 97 122 z_74 hc_74) rfl gX11_next_X11_in hdX11_in ⟨rfl, rfl⟩ (Nat.le_of_ble_eq_true rfl) (Nat.le_of_ble_eq_true rfl) [] [0, 1] rfl rfl rfl rfl (by decide) rfl hl.1 rfl (Nat.le_of_ble_eq_true rfl) (Nat.zero_le _) (Nat.zero_le _) dX11_next_74 (fun H locs hP hD hS => ?_)
            refine lv_if_eq (tgt := 124) hx hb dX11_next_77 (by decide) (fun c_77 => ?_) (fun c_77 => ?_)
            · replace h := it_e c_77 h
              exact Jk124 x66_l2 x66_o_at H locs ls h hP hD hS hl
            · replace h := if_e c_77 h
              refine lv_aload_n hx hb dX11_next_80 rfl (lv_at hl 0 rfl) ?_
              refine va_get (D := D) (ci := 10) (v := .int x66_o_at) (C := RX11) (T := TX11) (N := 25) hx hb hts u_X11 hown hK hP 0 rfl rfl 6 (by decide) k_f0 (fun _ h9 => h9) rfl dX11_next_81 ?_
              refine lv_aload_n hx hb dX11_next_84 rfl (lv_at hl 0 rfl) ?_
              refine va_get (D := D) (ci := 10) (v := .int x22_o_at) (C := RX11) (T := TX11) (N := 25) hx hb hts u_X11 hown hK hP 0 rfl rfl 7 (by decide) k_f1 (fun _ h9 => h9) rfl dX11_next_85 ?_
              refine lv_isub hx hb dX11_next_88 ?_
              refine lv_bipush (v := 6) hx hb dX11_next_89 bc_6 ?_
              obtain ⟨j110, hj110, h⟩ := jn_e h
              have Jj110 : ∀ (x110_s0 : Int32) (H : Heap) (locs : List Loc) (ls : Array Slot), j110 x110_s0 = some z → va_P D vwCl [(a_o, .inr (10, [.long o_trace, .ref a_text, .int o_typed, .int o_choices, .int o_worlds, w_o_values, .int x66_o_at, .int x22_o_at, .int o_sort, .int 0, .int o_fault, w_o_draft, w_o_sayings, w_o_leaves, w_o_signs, w_o_words, w_o_word, w_o_isKept, w_o_some, w_o_every, .int o_deep, .int o_many, w_o_length, w_o_found, .int o_foundMany])), (a_text, .inl (cB, 200, .inl f_text))] H → va_D A [(a_o, .inr (10, [.long o_trace, .ref a_text, .int o_typed, .int o_choices, .int o_worlds, w_o_values, .int x66_o_at, .int x22_o_at, .int o_sort, .int 0, .int o_fault, w_o_draft, w_o_sayings, w_o_leaves, w_o_signs, w_o_words, w_o_word, w_o_isKept, w_o_some, w_o_every, .int o_deep, .int o_many, w_o_length, w_o_found, .int o_foundMany])), (a_text, .inl (cB, 200, .inl f_text))] → va_S A s.heap H locs → lv_has ls 3 [(0, .ref a_o)] → W p l e rmX11_next s m args below meth c H locs 0 0 Q (F0 m 110 ls [.int x110_s0]) := by
                intro x110_s0 H locs ls h hP hD hS hl
                rw [hj110] at h
                refine lv_istore_n (lv' := [(2, .int x110_s0), (0, .ref a_o)]) hx hb dX11_next_110 rfl hl (by decide) rfl (fun ls hl => ?_)
                refine lv_aload_n hx hb dX11_next_111 rfl (lv_at hl 1 rfl) ?_
                refine lv_dup hx hb dX11_next_112 rfl ?_
                refine va_get (D := D) (ci := 10) (v := .int x66_o_at) (C := RX11) (T := TX11) (N := 25) hx hb hts u_X11 hown hK hP 0 rfl rfl 6 (by decide) k_f0 (fun _ h9 => h9) rfl dX11_next_113 ?_
                refine lv_iconst (v := 1) hx hb dX11_next_116 ic_1 ?_
                refine lv_iadd hx hb dX11_next_117 ?_
                refine va_put (D := D) (ci := 10) (v := .int (x66_o_at + 1)) (ty := .int) (C := RX11) (T := TX11) (N := 25) hx hb hts u_X11 tyX11 tyX11_ok nmX11 hown hK hP hD hS 0 rfl rfl 6 (by decide) k_f0 (fun _ h9 => h9) rfl (tyX11_ok 6 (by decide)) rfl rfl (Nat.le_of_ble_eq_true rfl) dX11_next_118 (fun H locs hP hD hS => ?_)
                have hP : va_P D vwCl [(a_o, .inr (10, [.long o_trace, .ref a_text, .int o_typed, .int o_choices, .int o_worlds, w_o_values, .int (x66_o_at + 1), .int x22_o_at, .int o_sort, .int 0, .int o_fault, w_o_draft, w_o_sayings, w_o_leaves, w_o_signs, w_o_words, w_o_word, w_o_isKept, w_o_some, w_o_every, .int o_deep, .int o_many, w_o_length, w_o_found, .int o_foundMany])), (a_text, .inl (cB, 200, .inl f_text))] H := hP
                have hD : va_D A [(a_o, .inr (10, [.long o_trace, .ref a_text, .int o_typed, .int o_choices, .int o_worlds, w_o_values, .int (x66_o_at + 1), .int x22_o_at, .int o_sort, .int 0, .int o_fault, w_o_draft, w_o_sayings, w_o_leaves, w_o_signs, w_o_words, w_o_word, w_o_isKept, w_o_some, w_o_every, .int o_deep, .int o_many, w_o_length, w_o_found, .int o_foundMany])), (a_text, .inl (cB, 200, .inl f_text))] := hD
                refine lv_goto (tgt := 66) hx hb dX11_next_121 (by decide) ?_
                exact ih66 x110_s0 (x66_o_at + 1) H locs ls h hP hD hS (lv_sub hl [1, 0] rfl)
              refine lv_icmp_ge (tgt := 109) hx hb dX11_next_91 (by decide) (fun c_91 => ?_) (fun c_91 => ?_)
              · replace h := it_e c_91 h
                refine lv_iconst (v := 0) hx hb dX11_next_109 ic_0 ?_
                exact Jj110 0 H locs ls h hP hD hS (lv_sub hl [0] rfl)
              · replace h := if_e c_91 h
                refine lv_bipush (v := 27) hx hb dX11_next_94 bc_27 ?_
                refine lv_iload_n hx hb dX11_next_96 rfl (lv_at hl 1 rfl) ?_
                refine lv_imul hx hb dX11_next_97 ?_
                refine lv_aload_n hx hb dX11_next_98 rfl (lv_at hl 0 rfl) ?_
                obtain ⟨z_99, hc_99, h⟩ := bd_e h
                refine q_iV (As := []) (rest := [.int (27 * x66_l2)]) (wF := [(a_o, .inr (10, [.long o_trace, .ref a_text, .int o_typed, .int o_choices, .int o_worlds, w_o_values, .int x66_o_at, .int x22_o_at, .int o_sort, .int 0, .int o_fault, w_o_draft, w_o_sayings, w_o_leaves, w_o_signs, w_o_words, w_o_word, w_o_isKept, w_o_some, w_o_every, .int o_deep, .int o_many, w_o_length, w_o_found, .int o_foundMany])), (a_text, .inl (cB, 200, .inl f_text))]) hF hA hZ hK hP hD hS (c_X11_here l D cI cB cZ a_o o_trace o_typed o_choices o_worlds w_o_values x66_o_at x22_o_at o_sort 0 o_fault w_o_draft w_o_sayings w_o_leaves w_o_signs w_o_words w_o_word w_o_isKept w_o_some w_o_every o_deep o_many w_o_length w_o_found o_foundMany a_text f_text z_99 hc_99) rfl gX11_next_X11_here hdX11_here ⟨rfl, rfl⟩ (Nat.le_of_ble_eq_true rfl) (Nat.le_of_ble_eq_true rfl) 10 0 rfl rfl [0, 1] [] rfl rfl rfl rfl (by decide) rfl hl.1 rfl (Nat.le_of_ble_eq_true rfl) (Nat.zero_le _) (Nat.zero_le _) dX11_next_99 (fun H locs hP hD hS => ?_)
                refine lv_iadd hx hb dX11_next_102 ?_
                refine lv_bipush (v := 96) hx hb dX11_next_103 bc_96 ?_
                refine lv_isub hx hb dX11_next_105 ?_
                refine lv_goto (tgt := 110) hx hb dX11_next_106 (by decide) ?_
                exact Jj110 (((27 * x66_l2) + z_99) - 96) H locs ls h hP hD hS (lv_sub hl [0] rfl)
        exact L66 QF 0 x22_o_at H locs ls h hP hD hS (lv_sub hl [2, 0] rfl)
    · replace h := if_e c_41 h
      refine lv_aload_n hx hb dX11_next_44 rfl (lv_at hl 1 rfl) ?_
      refine lv_bipush (v := 9) hx hb dX11_next_45 bc_9 ?_
      refine va_put (D := D) (ci := 10) (v := .int 9) (ty := .int) (C := RX11) (T := TX11) (N := 25) hx hb hts u_X11 tyX11 tyX11_ok nmX11 hown hK hP hD hS 0 rfl rfl 8 (by decide) k_f3 (fun _ h9 => h9) rfl (tyX11_ok 8 (by decide)) rfl rfl (Nat.le_of_ble_eq_true rfl) dX11_next_47 (fun H locs hP hD hS => ?_)
      have hP : va_P D vwCl [(a_o, .inr (10, [.long o_trace, .ref a_text, .int o_typed, .int o_choices, .int o_worlds, w_o_values, .int x22_o_at, .int x22_o_at, .int 9, .int 0, .int o_fault, w_o_draft, w_o_sayings, w_o_leaves, w_o_signs, w_o_words, w_o_word, w_o_isKept, w_o_some, w_o_every, .int o_deep, .int o_many, w_o_length, w_o_found, .int o_foundMany])), (a_text, .inl (cB, 200, .inl f_text))] H := hP
      have hD : va_D A [(a_o, .inr (10, [.long o_trace, .ref a_text, .int o_typed, .int o_choices, .int o_worlds, w_o_values, .int x22_o_at, .int x22_o_at, .int 9, .int 0, .int o_fault, w_o_draft, w_o_sayings, w_o_leaves, w_o_signs, w_o_words, w_o_word, w_o_isKept, w_o_some, w_o_every, .int o_deep, .int o_many, w_o_length, w_o_found, .int o_foundMany])), (a_text, .inl (cB, 200, .inl f_text))] := hD
      refine lv_goto (tgt := 325) hx hb dX11_next_50 (by decide) ?_
      have hz := Option.some.inj h
      subst hz
      exact hret H locs 325 ls hP hD hS dX11_next_325
  have L0 : ∀ (n : Nat), ∀ (x0_o_at : Int32) (H : Heap) (locs : List Loc) (ls : Array Slot), P_X11_next_0 o_typed f_text k22 n x0_o_at = some z → va_P D vwCl [(a_o, .inr (10, [.long o_trace, .ref a_text, .int o_typed, .int o_choices, .int o_worlds, w_o_values, .int x0_o_at, .int o_start, .int o_sort, .int o_value, .int o_fault, w_o_draft, w_o_sayings, w_o_leaves, w_o_signs, w_o_words, w_o_word, w_o_isKept, w_o_some, w_o_every, .int o_deep, .int o_many, w_o_length, w_o_found, .int o_foundMany])), (a_text, .inl (cB, 200, .inl f_text))] H → va_D A [(a_o, .inr (10, [.long o_trace, .ref a_text, .int o_typed, .int o_choices, .int o_worlds, w_o_values, .int x0_o_at, .int o_start, .int o_sort, .int o_value, .int o_fault, w_o_draft, w_o_sayings, w_o_leaves, w_o_signs, w_o_words, w_o_word, w_o_isKept, w_o_some, w_o_every, .int o_deep, .int o_many, w_o_length, w_o_found, .int o_foundMany])), (a_text, .inl (cB, 200, .inl f_text))] → va_S A s.heap H locs → lv_has ls 3 [(0, .ref a_o)] → W p l e rmX11_next s m args below meth c H locs 0 0 Q (F0 m 0 ls []) := by
    intro n
    induction n with
    | zero =>
      intro x0_o_at H locs ls h
      exact no_e h
    | succ n ih0 =>
      intro x0_o_at H locs ls h hP hD hS hl
      rw [P_X11_next_0] at h
      refine lv_aload_n hx hb dX11_next_0 rfl (lv_at hl 0 rfl) ?_
      obtain ⟨z_1, hc_1, h⟩ := bd_e h
      refine q_iV (As := []) (rest := []) (wF := [(a_o, .inr (10, [.long o_trace, .ref a_text, .int o_typed, .int o_choices, .int o_worlds, w_o_values, .int x0_o_at, .int o_start, .int o_sort, .int o_value, .int o_fault, w_o_draft, w_o_sayings, w_o_leaves, w_o_signs, w_o_words, w_o_word, w_o_isKept, w_o_some, w_o_every, .int o_deep, .int o_many, w_o_length, w_o_found, .int o_foundMany])), (a_text, .inl (cB, 200, .inl f_text))]) hF hA hZ hK hP hD hS (c_X11_here l D cI cB cZ a_o o_trace o_typed o_choices o_worlds w_o_values x0_o_at o_start o_sort o_value o_fault w_o_draft w_o_sayings w_o_leaves w_o_signs w_o_words w_o_word w_o_isKept w_o_some w_o_every o_deep o_many w_o_length w_o_found o_foundMany a_text f_text z_1 hc_1) rfl gX11_next_X11_here hdX11_here ⟨rfl, rfl⟩ (Nat.le_of_ble_eq_true rfl) (Nat.le_of_ble_eq_true rfl) 10 0 rfl rfl [0, 1] [] rfl rfl rfl rfl (by decide) rfl hl.1 rfl (Nat.le_of_ble_eq_true rfl) (Nat.zero_le _) (Nat.zero_le _) dX11_next_1 (fun H locs hP hD hS => ?_)
      refine lv_bipush (v := 32) hx hb dX11_next_4 bc_32 ?_
      refine lv_icmp_ne (tgt := 22) hx hb dX11_next_6 (by decide) (fun c_6 => ?_) (fun c_6 => ?_)
      · replace h := if_e c_6 h
        exact Jk22 x0_o_at H locs ls h hP hD hS hl
      · replace h := it_e c_6 h
        refine lv_aload_n hx hb dX11_next_9 rfl (lv_at hl 0 rfl) ?_
        refine lv_dup hx hb dX11_next_10 rfl ?_
        refine va_get (D := D) (ci := 10) (v := .int x0_o_at) (C := RX11) (T := TX11) (N := 25) hx hb hts u_X11 hown hK hP 0 rfl rfl 6 (by decide) k_f0 (fun _ h9 => h9) rfl dX11_next_11 ?_
        refine lv_iconst (v := 1) hx hb dX11_next_14 ic_1 ?_
        refine lv_iadd hx hb dX11_next_15 ?_
        refine va_put (D := D) (ci := 10) (v := .int (x0_o_at + 1)) (ty := .int) (C := RX11) (T := TX11) (N := 25) hx hb hts u_X11 tyX11 tyX11_ok nmX11 hown hK hP hD hS 0 rfl rfl 6 (by decide) k_f0 (fun _ h9 => h9) rfl (tyX11_ok 6 (by decide)) rfl rfl (Nat.le_of_ble_eq_true rfl) dX11_next_16 (fun H locs hP hD hS => ?_)
        have hP : va_P D vwCl [(a_o, .inr (10, [.long o_trace, .ref a_text, .int o_typed, .int o_choices, .int o_worlds, w_o_values, .int (x0_o_at + 1), .int o_start, .int o_sort, .int o_value, .int o_fault, w_o_draft, w_o_sayings, w_o_leaves, w_o_signs, w_o_words, w_o_word, w_o_isKept, w_o_some, w_o_every, .int o_deep, .int o_many, w_o_length, w_o_found, .int o_foundMany])), (a_text, .inl (cB, 200, .inl f_text))] H := hP
        have hD : va_D A [(a_o, .inr (10, [.long o_trace, .ref a_text, .int o_typed, .int o_choices, .int o_worlds, w_o_values, .int (x0_o_at + 1), .int o_start, .int o_sort, .int o_value, .int o_fault, w_o_draft, w_o_sayings, w_o_leaves, w_o_signs, w_o_words, w_o_word, w_o_isKept, w_o_some, w_o_every, .int o_deep, .int o_many, w_o_length, w_o_found, .int o_foundMany])), (a_text, .inl (cB, 200, .inl f_text))] := hD
        refine lv_goto (tgt := 0) hx hb dX11_next_19 (by decide) ?_
        exact ih0 (x0_o_at + 1) H locs ls h hP hD hS hl
  exact L0 QF o_at H locs ls h hP hD hS hl
