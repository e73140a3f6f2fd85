abbrev rmX1_note : Room := { frames := 1, cells := 0, slots := 0, locals := 22 }
theorem hdX1_note : yX1_note.cls = RX1 ∧ yX1_note.cls ≠ "java/lang/invoke/MethodHandle" ∧ yX1_note.cls ≠ "java/lang/invoke/VarHandle" ∧ (parseMethodDescriptor yX1_note.desc).map (fun d => d.parameters.length) = some 2 := by decide +kernel
set_option maxRecDepth 100000 in
set_option maxHeartbeats 4000000 in
theorem c_X1_note (l : Launch) (D : va_G) (cI cB cZ : ClassId) (a_o : Nat) (w_o_signs : Value) (w_o_start : Value) (o_found : Int32) (a_length : Nat) (f_length : Nat → Int32) (a_order : Nat) (f_order : Nat → Int32) (p1 : Int32) (p2 : Int32) (z : Int32 × (Nat → Int32) × (Nat → Int32)) (h : P_X1_note p1 p2 o_found f_length f_order = some z) : KV l yX1_note wsX1_note rmX1_note D [(cI, .int), (cB, .byte), (cZ, .boolean)] [.ref a_o, .int p1, .int p2] [(a_o, .inr (1, [w_o_signs, .ref a_length, .ref a_order, w_o_start, .int o_found])), (a_length, .inl (cI, 512, .inl f_length)), (a_order, .inl (cI, 512, .inl f_order))] [(a_o, .inr (1, [w_o_signs, .ref a_length, .ref a_order, w_o_start, .int z.1])), (a_length, .inl (cI, 512, .inl z.2.1)), (a_order, .inl (cI, 512, .inl z.2.2))] := by
  refine KV_of (own := RX1) (cc := cX1_note) (maxL := 3) (by decide) rfl rfl (Nat.le_of_ble_eq_true rfl) ?_
  intro p e s m args below meth c A Q hx hb hml hown hts hA hZ hK hret H locs ls hP hD hS hl
  have hl : lv_has ls 3 [(0, .ref a_o), (1, .int p1), (2, .int p2)] := hl
  have hF : CallFix p m c cX1_note 3 s args wsX1_note RX1 := ⟨hx, hb, hml, hown, hts⟩
  have u_X1 : ∀ w ∈ u_ws RX1 TX1 5, w ∈ wsX1_note := by decide +kernel
  have k_f0 := hts (.fieldLink RX1 13 "NoWordNo$Lengths" "length" "[I") (by decide +kernel)
  have k_f1 := hts (.fieldLink RX1 17 "NoWordNo$Lengths" "order" "[I") (by decide +kernel)
  have k_f2 := hts (.fieldLink RX1 23 "NoWordNo$Lengths" "found" "I") (by decide +kernel)
  unfold P_X1_note at h
  refine lv_aload_n hx hb dX1_note_0 rfl (lv_at hl 0 rfl) ?_
  refine va_get (D := D) (ci := 1) (v := .ref a_length) (C := RX1) (T := TX1) (N := 5) hx hb hts u_X1 hown hK hP 0 rfl rfl 1 (by decide) k_f0 (fun _ h9 => h9) rfl dX1_note_1 ?_
  refine lv_iload_n hx hb dX1_note_4 rfl (lv_at hl 1 rfl) ?_
  obtain ⟨z_5, hc_5, h⟩ := bd_e h
  refine q_iS (As := [.ref a_length, .int p1]) (rest := []) (wF := [(a_o, .inr (1, [w_o_signs, .ref a_length, .ref a_order, w_o_start, .int o_found])), (a_order, .inl (cI, 512, .inl f_order)), (a_length, .inl (cI, 512, .inl f_length))]) hF hA hZ hK hP hD hS (c_X4_at l D cI cB cZ a_length 512 f_length p1 z_5 hc_5) rfl gX1_note_X4_at hdX4_at ⟨rfl, rfl⟩ (Nat.le_of_ble_eq_true rfl) (Nat.le_of_ble_eq_true rfl) [1] [0, 2] rfl rfl rfl rfl (by decide) rfl hl.1 rfl (Nat.le_of_ble_eq_true rfl) (Nat.zero_le _) (Nat.zero_le _) dX1_note_5 (fun H locs hP hD hS => ?_)
  refine lv_if_ne (tgt := 42) hx hb dX1_note_8 (by decide) (fun c_8 => ?_) (fun c_8 => ?_)
  · replace h := if_e c_8 h
    have hz := Option.some.inj h
    subst hz
    exact hret H locs 42 ls (hP.sub [0, 2, 1] rfl) (hD.sub [0, 2, 1] (by decide) rfl) hS dX1_note_42
  · replace h := it_e c_8 h
    refine lv_aload_n hx hb dX1_note_11 rfl (lv_at hl 0 rfl) ?_
    refine va_get (D := D) (ci := 1) (v := .ref a_length) (C := RX1) (T := TX1) (N := 5) hx hb hts u_X1 hown hK hP 0 rfl rfl 1 (by decide) k_f0 (fun _ h9 => h9) rfl dX1_note_12 ?_
    refine lv_iload_n hx hb dX1_note_15 rfl (lv_at hl 1 rfl) ?_
    refine lv_iload_n hx hb dX1_note_16 rfl (lv_at hl 2 rfl) ?_
    obtain ⟨z_17, hc_17, h⟩ := bd_e h
    refine q_vS (As := [.ref a_length, .int p1, .int p2]) (rest := []) (wF := [(a_o, .inr (1, [w_o_signs, .ref a_length, .ref a_order, w_o_start, .int o_found])), (a_order, .inl (cI, 512, .inl f_order)), (a_length, .inl (cI, 512, .inl z_17))]) hF hA hZ hK hP hD hS (c_X4_put l D cI cB cZ a_length 512 f_length p1 p2 z_17 hc_17) rfl gX1_note_X4_put hdX4_put ⟨rfl, rfl⟩ (Nat.le_of_ble_eq_true rfl) (Nat.le_of_ble_eq_true rfl) [2] [0, 1] rfl rfl rfl rfl (by decide) rfl hl.1 rfl (Nat.le_of_ble_eq_true rfl) (Nat.zero_le _) (Nat.zero_le _) dX1_note_17 (fun H locs hP hD hS => ?_)
    refine lv_aload_n hx hb dX1_note_20 rfl (lv_at hl 0 rfl) ?_
    refine va_get (D := D) (ci := 1) (v := .ref a_order) (C := RX1) (T := TX1) (N := 5) hx hb hts u_X1 hown hK hP 0 rfl rfl 2 (by decide) k_f1 (fun _ h9 => h9) rfl dX1_note_21 ?_
    refine lv_aload_n hx hb dX1_note_24 rfl (lv_at hl 0 rfl) ?_
    refine va_get (D := D) (ci := 1) (v := .int o_found) (C := RX1) (T := TX1) (N := 5) hx hb hts u_X1 hown hK hP 0 rfl rfl 4 (by decide) k_f2 (fun _ h9 => h9) rfl dX1_note_25 ?_
    refine lv_iload_n hx hb dX1_note_28 rfl (lv_at hl 1 rfl) ?_
    obtain ⟨z_29, hc_29, h⟩ := bd_e h
    refine q_vS (As := [.ref a_order, .int o_found, .int p1]) (rest := []) (wF := [(a_o, .inr (1, [w_o_signs, .ref a_length, .ref a_order, w_o_start, .int o_found])), (a_length, .inl (cI, 512, .inl z_17)), (a_order, .inl (cI, 512, .inl z_29))]) hF hA hZ hK hP hD hS (c_X4_put l D cI cB cZ a_order 512 f_order o_found p1 z_29 hc_29) rfl gX1_note_X4_put hdX4_put ⟨rfl, rfl⟩ (Nat.le_of_ble_eq_true rfl) (Nat.le_of_ble_eq_true rfl) [1] [0, 2] rfl rfl rfl rfl (by decide) rfl hl.1 rfl (Nat.le_of_ble_eq_true rfl) (Nat.zero_le _) (Nat.zero_le _) dX1_note_29 (fun H locs hP hD hS => ?_)
    refine lv_aload_n hx hb dX1_note_32 rfl (lv_at hl 0 rfl) ?_
    refine lv_dup hx hb dX1_note_33 rfl ?_
    refine va_get (D := D) (ci := 1) (v := .int o_found) (C := RX1) (T := TX1) (N := 5) hx hb hts u_X1 hown hK hP 0 rfl rfl 4 (by decide) k_f2 (fun _ h9 => h9) rfl dX1_note_34 ?_
    refine lv_iconst (v := 1) hx hb dX1_note_37 ic_1 ?_
    refine lv_iadd hx hb dX1_note_38 ?_
    refine va_put (D := D) (ci := 1) (v := .int (o_found + 1)) (ty := .int) (C := RX1) (T := TX1) (N := 5) hx hb hts u_X1 tyX1 tyX1_ok nmX1 hown hK hP hD hS 0 rfl rfl 4 (by decide) k_f2 (fun _ h9 => h9) rfl (tyX1_ok 4 (by decide)) rfl rfl (Nat.le_of_ble_eq_true rfl) dX1_note_39 (fun H locs hP hD hS => ?_)
    have hP : va_P D vwCl [(a_o, .inr (1, [w_o_signs, .ref a_length, .ref a_order, w_o_start, .int (o_found + 1)])), (a_length, .inl (cI, 512, .inl z_17)), (a_order, .inl (cI, 512, .inl z_29))] H := hP
    have hD : va_D A [(a_o, .inr (1, [w_o_signs, .ref a_length, .ref a_order, w_o_start, .int (o_found + 1)])), (a_length, .inl (cI, 512, .inl z_17)), (a_order, .inl (cI, 512, .inl z_29))] := hD
    have hz := Option.some.inj h
    subst hz
    exact hret H locs 42 ls hP hD hS dX1_note_42
abbrev rmX1_noteSigns : Room := { frames := 3, cells := 0, slots := 0, locals := 65 }
theorem hdX1_noteSigns : yX1_noteSigns.cls = RX1 ∧ yX1_noteSigns.cls ≠ "java/lang/invoke/MethodHandle" ∧ yX1_noteSigns.cls ≠ "java/lang/invoke/VarHandle" ∧ (parseMethodDescriptor yX1_noteSigns.desc).map (fun d => d.parameters.length) = some 1 := by decide +kernel
set_option maxRecDepth 100000 in
set_option maxHeartbeats 4000000 in
theorem c_X1_noteSigns (l : Launch) (D : va_G) (cI cB cZ : ClassId) (a_o : Nat) (w_o_start : Value) (o_found : Int32) (a_signs : Nat) (a_signs_tongue : Nat) (signs_tongue_choices : Int32) (signs_tongue_worlds : Int32) (a_signs_tongue_values : Nat) (f_signs_tongue_values : Nat → Int32) (a_signs_tongue_left : Nat) (f_signs_tongue_left : Nat → Int32) (a_signs_kept : Nat) (w_signs_kept_left : Value) (w_signs_kept_signs : Value) (signs_kept_sayings : Int32) (signs_kept_words : Int32) (signs_kept_filled : Int32) (a_signs_kept_wordSets : Nat) (f_signs_kept_wordSets : Nat → Int32) (a_length : Nat) (f_length : Nat → Int32) (a_order : Nat) (f_order : Nat → Int32) (p1 : Int32) (z : Int32 × (Nat → Int32) × (Nat → Int32)) (h : P_X1_noteSigns p1 o_found signs_tongue_choices f_signs_tongue_values f_signs_tongue_left signs_kept_words f_signs_kept_wordSets f_length f_order = some z) : KV l yX1_noteSigns wsX1_noteSigns rmX1_noteSigns D [(cI, .int), (cB, .byte), (cZ, .boolean)] [.ref a_o, .int p1] [(a_o, .inr (1, [.ref a_signs, .ref a_length, .ref a_order, w_o_start, .int o_found])), (a_signs, .inr (4, [.ref a_signs_tongue, .ref a_signs_kept])), (a_signs_tongue, .inr (7, [.ref a_signs_tongue_values, .ref a_signs_tongue_left, .int signs_tongue_choices, .int signs_tongue_worlds])), (a_signs_tongue_values, .inl (cI, 3, .inl f_signs_tongue_values)), (a_signs_tongue_left, .inl (cI, 30, .inl f_signs_tongue_left)), (a_signs_kept, .inr (0, [w_signs_kept_left, w_signs_kept_signs, .ref a_signs_kept_wordSets, .int signs_kept_sayings, .int signs_kept_words, .int signs_kept_filled])), (a_signs_kept_wordSets, .inl (cI, 3, .inl f_signs_kept_wordSets)), (a_length, .inl (cI, 512, .inl f_length)), (a_order, .inl (cI, 512, .inl f_order))] [(a_o, .inr (1, [.ref a_signs, .ref a_length, .ref a_order, w_o_start, .int z.1])), (a_signs, .inr (4, [.ref a_signs_tongue, .ref a_signs_kept])), (a_signs_tongue, .inr (7, [.ref a_signs_tongue_values, .ref a_signs_tongue_left, .int signs_tongue_choices, .int signs_tongue_worlds])), (a_signs_tongue_values, .inl (cI, 3, .inl f_signs_tongue_values)), (a_signs_tongue_left, .inl (cI, 30, .inl f_signs_tongue_left)), (a_signs_kept, .inr (0, [w_signs_kept_left, w_signs_kept_signs, .ref a_signs_kept_wordSets, .int signs_kept_sayings, .int signs_kept_words, .int signs_kept_filled])), (a_signs_kept_wordSets, .inl (cI, 3, .inl f_signs_kept_wordSets)), (a_length, .inl (cI, 512, .inl z.2.1)), (a_order, .inl (cI, 512, .inl z.2.2))] := by
  refine KV_of (own := RX1) (cc := cX1_noteSigns) (maxL := 4) (by decide) rfl rfl (Nat.le_of_ble_eq_true rfl) ?_
  intro p e s m args below meth c A Q hx hb hml hown hts hA hZ hK hret H locs ls hP hD hS hl
  have hl : lv_has ls 4 [(0, .ref a_o), (1, .int p1)] := hl
  have hF : CallFix p m c cX1_noteSigns 4 s args wsX1_noteSigns RX1 := ⟨hx, hb, hml, hown, hts⟩
  have u_X1 : ∀ w ∈ u_ws RX1 TX1 5, w ∈ wsX1_noteSigns := by decide +kernel
  have k_f0 := hts (.fieldLink RX1 27 "NoWordNo$Lengths" "signs" "LNoWordNo$Signs;") (by decide +kernel)
  unfold P_X1_noteSigns at h
  refine lv_iconst (v := 0) hx hb dX1_noteSigns_0 ic_0 ?_
  refine lv_istore_n (lv' := [(2, .int 0), (0, .ref a_o), (1, .int p1)]) hx hb dX1_noteSigns_1 rfl hl (by decide) rfl (fun ls hl => ?_)
  obtain ⟨k47, hk47, h⟩ := jn_e h
  have Jk47 : ∀ (x47_o_found : Int32) (x47_f_length : (Nat → Int32)) (x47_f_order : (Nat → Int32)) (H : Heap) (locs : List Loc) (ls : Array Slot), k47 x47_o_found x47_f_length x47_f_order = some z → va_P D vwCl [(a_o, .inr (1, [.ref a_signs, .ref a_length, .ref a_order, w_o_start, .int x47_o_found])), (a_signs, .inr (4, [.ref a_signs_tongue, .ref a_signs_kept])), (a_signs_tongue, .inr (7, [.ref a_signs_tongue_values, .ref a_signs_tongue_left, .int signs_tongue_choices, .int signs_tongue_worlds])), (a_signs_tongue_values, .inl (cI, 3, .inl f_signs_tongue_values)), (a_signs_tongue_left, .inl (cI, 30, .inl f_signs_tongue_left)), (a_signs_kept, .inr (0, [w_signs_kept_left, w_signs_kept_signs, .ref a_signs_kept_wordSets, .int signs_kept_sayings, .int signs_kept_words, .int signs_kept_filled])), (a_signs_kept_wordSets, .inl (cI, 3, .inl f_signs_kept_wordSets)), (a_length, .inl (cI, 512, .inl x47_f_length)), (a_order, .inl (cI, 512, .inl x47_f_order))] H → va_D A [(a_o, .inr (1, [.ref a_signs, .ref a_length, .ref a_order, w_o_start, .int x47_o_found])), (a_signs, .inr (4, [.ref a_signs_tongue, .ref a_signs_kept])), (a_signs_tongue, .inr (7, [.ref a_signs_tongue_values, .ref a_signs_tongue_left, .int signs_tongue_choices, .int signs_tongue_worlds])), (a_signs_tongue_values, .inl (cI, 3, .inl f_signs_tongue_values)), (a_signs_tongue_left, .inl (cI, 30, .inl f_signs_tongue_left)), (a_signs_kept, .inr (0, [w_signs_kept_left, w_signs_kept_signs, .ref a_signs_kept_wordSets, .int signs_kept_sayings, .int signs_kept_words, .int signs_kept_filled])), (a_signs_kept_wordSets, .inl (cI, 3, .inl f_signs_kept_wordSets)), (a_length, .inl (cI, 512, .inl x47_f_length)), (a_order, .inl (cI, 512, .inl x47_f_order))] → va_S A s.heap H locs → lv_has ls 4 [(0, .ref a_o), (1, .int p1)] → W p l e rmX1_noteSigns s m args below meth c H locs 0 0 Q (F0 m 47 ls []) := by
    intro x47_o_found x47_f_length x47_f_order H locs ls h hP hD hS hl
    rw [hk47] at h
    refine lv_iload_n hx hb dX1_noteSigns_47 rfl (lv_at hl 1 rfl) ?_
    refine lv_iconst (v := (-1)) hx hb dX1_noteSigns_48 ic_m1 ?_
    refine lv_icmp_eq (tgt := 58) hx hb dX1_noteSigns_49 (by decide) (fun c_49 => ?_) (fun c_49 => ?_)
    · replace h := it_e c_49 h
      have hz := Option.some.inj h
      subst hz
      exact hret H locs 58 ls hP hD hS dX1_noteSigns_58
    · replace h := if_e c_49 h
      refine lv_aload_n hx hb dX1_noteSigns_52 rfl (lv_at hl 0 rfl) ?_
      refine lv_iload_n hx hb dX1_noteSigns_53 rfl (lv_at hl 1 rfl) ?_
      refine lv_iconst (v := 1) hx hb dX1_noteSigns_54 ic_1 ?_
      obtain ⟨z_55, hc_55, h⟩ := bd_e h
      refine q_vV (As := [.int p1, .int 1]) (rest := []) (wF := [(a_signs, .inr (4, [.ref a_signs_tongue, .ref a_signs_kept])), (a_signs_tongue, .inr (7, [.ref a_signs_tongue_values, .ref a_signs_tongue_left, .int signs_tongue_choices, .int signs_tongue_worlds])), (a_signs_tongue_values, .inl (cI, 3, .inl f_signs_tongue_values)), (a_signs_tongue_left, .inl (cI, 30, .inl f_signs_tongue_left)), (a_signs_kept, .inr (0, [w_signs_kept_left, w_signs_kept_signs, .ref a_signs_kept_wordSets, .int signs_kept_sayings, .int signs_kept_words, .int signs_kept_filled])), (a_signs_kept_wordSets, .inl (cI, 3, .inl f_signs_kept_wordSets)), (a_o, .inr (1, [.ref a_signs, .ref a_length, .ref a_order, w_o_start, .int z_55.1])), (a_length, .inl (cI, 512, .inl z_55.2.1)), (a_order, .inl (cI, 512, .inl z_55.2.2))]) hF hA hZ hK hP hD hS (c_X1_note l D cI cB cZ a_o (.ref a_signs) w_o_start x47_o_found a_length x47_f_length a_order x47_f_order p1 1 z_55 hc_55) rfl gX1_noteSigns_X1_note hdX1_note ⟨rfl, rfl⟩ (Nat.le_of_ble_eq_true rfl) (Nat.le_of_ble_eq_true rfl) 1 0 rfl rfl [0, 7, 8] [1, 2, 3, 4, 5, 6] rfl rfl rfl rfl (by decide) rfl hl.1 rfl (Nat.le_of_ble_eq_true rfl) (Nat.zero_le _) (Nat.zero_le _) dX1_noteSigns_55 (fun H locs hP hD hS => ?_)
      have hz := Option.some.inj h
      subst hz
      exact hret H locs 58 ls (hP.sub [6, 0, 1, 2, 3, 4, 5, 7, 8] rfl) (hD.sub [6, 0, 1, 2, 3, 4, 5, 7, 8] (by decide) rfl) hS dX1_noteSigns_58
  have L2 : ∀ (n : Nat), ∀ (x2_l2 : Int32) (x2_o_found : Int32) (x2_f_length : (Nat → Int32)) (x2_f_order : (Nat → Int32)) (H : Heap) (locs : List Loc) (ls : Array Slot), P_X1_noteSigns_2 signs_tongue_choices f_signs_tongue_values f_signs_tongue_left signs_kept_words f_signs_kept_wordSets k47 n x2_l2 x2_o_found x2_f_length x2_f_order = some z → va_P D vwCl [(a_o, .inr (1, [.ref a_signs, .ref a_length, .ref a_order, w_o_start, .int x2_o_found])), (a_signs, .inr (4, [.ref a_signs_tongue, .ref a_signs_kept])), (a_signs_tongue, .inr (7, [.ref a_signs_tongue_values, .ref a_signs_tongue_left, .int signs_tongue_choices, .int signs_tongue_worlds])), (a_signs_tongue_values, .inl (cI, 3, .inl f_signs_tongue_values)), (a_signs_tongue_left, .inl (cI, 30, .inl f_signs_tongue_left)), (a_signs_kept, .inr (0, [w_signs_kept_left, w_signs_kept_signs, .ref a_signs_kept_wordSets, .int signs_kept_sayings, .int signs_kept_words, .int signs_kept_filled])), (a_signs_kept_wordSets, .inl (cI, 3, .inl f_signs_kept_wordSets)), (a_length, .inl (cI, 512, .inl x2_f_length)), (a_order, .inl (cI, 512, .inl x2_f_order))] H → va_D A [(a_o, .inr (1, [.ref a_signs, .ref a_length, .ref a_order, w_o_start, .int x2_o_found])), (a_signs, .inr (4, [.ref a_signs_tongue, .ref a_signs_kept])), (a_signs_tongue, .inr (7, [.ref a_signs_tongue_values, .ref a_signs_tongue_left, .int signs_tongue_choices, .int signs_tongue_worlds])), (a_signs_tongue_values, .inl (cI, 3, .inl f_signs_tongue_values)), (a_signs_tongue_left, .inl (cI, 30, .inl f_signs_tongue_left)), (a_signs_kept, .inr (0, [w_signs_kept_left, w_signs_kept_signs, .ref a_signs_kept_wordSets, .int signs_kept_sayings, .int signs_kept_words, .int signs_kept_filled])), (a_signs_kept_wordSets, .inl (cI, 3, .inl f_signs_kept_wordSets)), (a_length, .inl (cI, 512, .inl x2_f_length)), (a_order, .inl (cI, 512, .inl x2_f_order))] → va_S A s.heap H locs → lv_has ls 4 [(0, .ref a_o), (1, .int p1), (2, .int x2_l2)] → W p l e rmX1_noteSigns s m args below meth c H locs 0 0 Q (F0 m 2 ls []) := by
    intro n
    induction n with
    | zero =>
      intro x2_l2 x2_o_found x2_f_length x2_f_order H locs ls h
      exact no_e h
    | succ n ih2 =>
      intro x2_l2 x2_o_found x2_f_length x2_f_order H locs ls h hP hD hS hl
      rw [P_X1_noteSigns_2] at h
      refine lv_iload_n hx hb dX1_noteSigns_2 rfl (lv_at hl 2 rfl) ?_
      refine lv_iconst (v := 3) hx hb dX1_noteSigns_3 ic_3 ?_
      refine lv_icmp_gt (tgt := 47) hx hb dX1_noteSigns_4 (by decide) (fun c_4 => ?_) (fun c_4 => ?_)
      · replace h := it_e c_4 h
        exact Jk47 x2_o_found x2_f_length x2_f_order H locs ls h hP hD hS (lv_sub hl [0, 1] rfl)
      · replace h := if_e c_4 h
        refine lv_iconst (v := 0) hx hb dX1_noteSigns_7 ic_0 ?_
        refine lv_istore_n (lv' := [(3, .int 0), (0, .ref a_o), (1, .int p1), (2, .int x2_l2)]) hx hb dX1_noteSigns_8 rfl hl (by decide) rfl (fun ls hl => ?_)
        obtain ⟨k41, hk41, h⟩ := jn_e h
        have Jk41 : ∀ (x41_o_found : Int32) (x41_f_length : (Nat → Int32)) (x41_f_order : (Nat → Int32)) (H : Heap) (locs : List Loc) (ls : Array Slot), k41 x41_o_found x41_f_length x41_f_order = some z → va_P D vwCl [(a_o, .inr (1, [.ref a_signs, .ref a_length, .ref a_order, w_o_start, .int x41_o_found])), (a_signs, .inr (4, [.ref a_signs_tongue, .ref a_signs_kept])), (a_signs_tongue, .inr (7, [.ref a_signs_tongue_values, .ref a_signs_tongue_left, .int signs_tongue_choices, .int signs_tongue_worlds])), (a_signs_tongue_values, .inl (cI, 3, .inl f_signs_tongue_values)), (a_signs_tongue_left, .inl (cI, 30, .inl f_signs_tongue_left)), (a_signs_kept, .inr (0, [w_signs_kept_left, w_signs_kept_signs, .ref a_signs_kept_wordSets, .int signs_kept_sayings, .int signs_kept_words, .int signs_kept_filled])), (a_signs_kept_wordSets, .inl (cI, 3, .inl f_signs_kept_wordSets)), (a_length, .inl (cI, 512, .inl x41_f_length)), (a_order, .inl (cI, 512, .inl x41_f_order))] H → va_D A [(a_o, .inr (1, [.ref a_signs, .ref a_length, .ref a_order, w_o_start, .int x41_o_found])), (a_signs, .inr (4, [.ref a_signs_tongue, .ref a_signs_kept])), (a_signs_tongue, .inr (7, [.ref a_signs_tongue_values, .ref a_signs_tongue_left, .int signs_tongue_choices, .int signs_tongue_worlds])), (a_signs_tongue_values, .inl (cI, 3, .inl f_signs_tongue_values)), (a_signs_tongue_left, .inl (cI, 30, .inl f_signs_tongue_left)), (a_signs_kept, .inr (0, [w_signs_kept_left, w_signs_kept_signs, .ref a_signs_kept_wordSets, .int signs_kept_sayings, .int signs_kept_words, .int signs_kept_filled])), (a_signs_kept_wordSets, .inl (cI, 3, .inl f_signs_kept_wordSets)), (a_length, .inl (cI, 512, .inl x41_f_length)), (a_order, .inl (cI, 512, .inl x41_f_order))] → va_S A s.heap H locs → lv_has ls 4 [(0, .ref a_o), (1, .int p1), (2, .int x2_l2)] → W p l e rmX1_noteSigns s m args below meth c H locs 0 0 Q (F0 m 41 ls []) := by
          intro x41_o_found x41_f_length x41_f_order H locs ls h hP hD hS hl
          rw [hk41] at h
          refine lv_iinc (v := x2_l2 + 1) (lv' := [(2, .int (x2_l2 + 1)), (0, .ref a_o), (1, .int p1)]) hx hb dX1_noteSigns_41 hl (k := 2) rfl (congrArg (x2_l2 + ·) ic_1) (by decide) rfl (fun ls hl => ?_)
          refine lv_goto (tgt := 2) hx hb dX1_noteSigns_44 (by decide) ?_
          exact ih2 (x2_l2 + 1) x41_o_found x41_f_length x41_f_order H locs ls h hP hD hS (lv_sub hl [1, 2, 0] rfl)
        have L9 : ∀ (n : Nat), ∀ (x9_l3 : Int32) (x9_o_found : Int32) (x9_f_length : (Nat → Int32)) (x9_f_order : (Nat → Int32)) (H : Heap) (locs : List Loc) (ls : Array Slot), P_X1_noteSigns_9 signs_tongue_choices f_signs_tongue_values f_signs_tongue_left signs_kept_words f_signs_kept_wordSets x2_l2 k41 n x9_l3 x9_o_found x9_f_length x9_f_order = some z → va_P D vwCl [(a_o, .inr (1, [.ref a_signs, .ref a_length, .ref a_order, w_o_start, .int x9_o_found])), (a_signs, .inr (4, [.ref a_signs_tongue, .ref a_signs_kept])), (a_signs_tongue, .inr (7, [.ref a_signs_tongue_values, .ref a_signs_tongue_left, .int signs_tongue_choices, .int signs_tongue_worlds])), (a_signs_tongue_values, .inl (cI, 3, .inl f_signs_tongue_values)), (a_signs_tongue_left, .inl (cI, 30, .inl f_signs_tongue_left)), (a_signs_kept, .inr (0, [w_signs_kept_left, w_signs_kept_signs, .ref a_signs_kept_wordSets, .int signs_kept_sayings, .int signs_kept_words, .int signs_kept_filled])), (a_signs_kept_wordSets, .inl (cI, 3, .inl f_signs_kept_wordSets)), (a_length, .inl (cI, 512, .inl x9_f_length)), (a_order, .inl (cI, 512, .inl x9_f_order))] H → va_D A [(a_o, .inr (1, [.ref a_signs, .ref a_length, .ref a_order, w_o_start, .int x9_o_found])), (a_signs, .inr (4, [.ref a_signs_tongue, .ref a_signs_kept])), (a_signs_tongue, .inr (7, [.ref a_signs_tongue_values, .ref a_signs_tongue_left, .int signs_tongue_choices, .int signs_tongue_worlds])), (a_signs_tongue_values, .inl (cI, 3, .inl f_signs_tongue_values)), (a_signs_tongue_left, .inl (cI, 30, .inl f_signs_tongue_left)), (a_signs_kept, .inr (0, [w_signs_kept_left, w_signs_kept_signs, .ref a_signs_kept_wordSets, .int signs_kept_sayings, .int signs_kept_words, .int signs_kept_filled])), (a_signs_kept_wordSets, .inl (cI, 3, .inl f_signs_kept_wordSets)), (a_length, .inl (cI, 512, .inl x9_f_length)), (a_order, .inl (cI, 512, .inl x9_f_order))] → va_S A s.heap H locs → lv_has ls 4 [(0, .ref a_o), (1, .int p1), (2, .int x2_l2), (3, .int x9_l3)] → W p l e rmX1_noteSigns s m args below meth c H locs 0 0 Q (F0 m 9 ls []) := by
          intro n
          induction n with
          | zero =>
            intro x9_l3 x9_o_found x9_f_length x9_f_order H locs ls h
            exact no_e h
          | succ n ih9 =>
            intro x9_l3 x9_o_found x9_f_length x9_f_order H locs ls h hP hD hS hl
            rw [P_X1_noteSigns_9] at h
            refine lv_iload_n hx hb dX1_noteSigns_9 rfl (lv_at hl 3 rfl) ?_
            refine lv_aload_n hx hb dX1_noteSigns_10 rfl (lv_at hl 0 rfl) ?_
            refine va_get (D := D) (ci := 1) (v := .ref a_signs) (C := RX1) (T := TX1) (N := 5) hx hb hts u_X1 hown hK hP 0 rfl rfl 0 (by decide) k_f0 (fun _ h9 => h9) rfl dX1_noteSigns_11 ?_
            refine lv_iload_n hx hb dX1_noteSigns_14 rfl (lv_at hl 2 rfl) ?_
            obtain ⟨z_15, hc_15, h⟩ := bd_e h
            refine q_iV (As := [.int x2_l2]) (rest := [.int x9_l3]) (wF := [(a_o, .inr (1, [.ref a_signs, .ref a_length, .ref a_order, w_o_start, .int x9_o_found])), (a_signs_tongue_left, .inl (cI, 30, .inl f_signs_tongue_left)), (a_signs_kept_wordSets, .inl (cI, 3, .inl f_signs_kept_wordSets)), (a_length, .inl (cI, 512, .inl x9_f_length)), (a_order, .inl (cI, 512, .inl x9_f_order)), (a_signs, .inr (4, [.ref a_signs_tongue, .ref a_signs_kept])), (a_signs_tongue, .inr (7, [.ref a_signs_tongue_values, .ref a_signs_tongue_left, .int signs_tongue_choices, .int signs_tongue_worlds])), (a_signs_tongue_values, .inl (cI, 3, .inl f_signs_tongue_values)), (a_signs_kept, .inr (0, [w_signs_kept_left, w_signs_kept_signs, .ref a_signs_kept_wordSets, .int signs_kept_sayings, .int signs_kept_words, .int signs_kept_filled]))]) hF hA hZ hK hP hD hS (c_X5_many l D cI cB cZ a_signs a_signs_tongue (.ref a_signs_tongue_left) signs_tongue_choices signs_tongue_worlds a_signs_tongue_values f_signs_tongue_values a_signs_kept w_signs_kept_left w_signs_kept_signs (.ref a_signs_kept_wordSets) signs_kept_sayings signs_kept_words signs_kept_filled x2_l2 z_15 hc_15) rfl gX1_noteSigns_X5_many hdX5_many ⟨rfl, rfl⟩ (Nat.le_of_ble_eq_true rfl) (Nat.le_of_ble_eq_true rfl) 4 0 rfl rfl [1, 2, 3, 5] [0, 4, 6, 7, 8] rfl rfl rfl rfl (by decide) rfl hl.1 rfl (Nat.le_of_ble_eq_true rfl) (Nat.zero_le _) (Nat.zero_le _) dX1_noteSigns_15 (fun H locs hP hD hS => ?_)
            refine lv_icmp_ge (tgt := 41) hx hb dX1_noteSigns_18 (by decide) (fun c_18 => ?_) (fun c_18 => ?_)
            · replace h := it_e c_18 h
              exact Jk41 x9_o_found x9_f_length x9_f_order H locs ls h (hP.sub [0, 5, 6, 7, 1, 8, 2, 3, 4] rfl) (hD.sub [0, 5, 6, 7, 1, 8, 2, 3, 4] (by decide) rfl) hS (lv_sub hl [0, 1, 2] rfl)
            · replace h := if_e c_18 h
              refine lv_aload_n hx hb dX1_noteSigns_21 rfl (lv_at hl 0 rfl) ?_
              refine lv_aload_n hx hb dX1_noteSigns_22 rfl (lv_at hl 0 rfl) ?_
              refine va_get (D := D) (ci := 1) (v := .ref a_signs) (C := RX1) (T := TX1) (N := 5) hx hb hts u_X1 hown hK hP 0 rfl rfl 0 (by decide) k_f0 (fun _ h9 => h9) rfl dX1_noteSigns_23 ?_
              refine lv_iload_n hx hb dX1_noteSigns_26 rfl (lv_at hl 2 rfl) ?_
              refine lv_iload_n hx hb dX1_noteSigns_27 rfl (lv_at hl 3 rfl) ?_
              obtain ⟨z_28, hc_28, h⟩ := bd_e h
              refine q_iV (As := [.int x2_l2, .int x9_l3]) (rest := [.ref a_o]) (wF := [(a_o, .inr (1, [.ref a_signs, .ref a_length, .ref a_order, w_o_start, .int x9_o_found])), (a_length, .inl (cI, 512, .inl x9_f_length)), (a_order, .inl (cI, 512, .inl x9_f_order)), (a_signs_tongue_values, .inl (cI, 3, .inl f_signs_tongue_values)), (a_signs, .inr (4, [.ref a_signs_tongue, .ref a_signs_kept])), (a_signs_tongue, .inr (7, [.ref a_signs_tongue_values, .ref a_signs_tongue_left, .int signs_tongue_choices, .int signs_tongue_worlds])), (a_signs_tongue_left, .inl (cI, 30, .inl f_signs_tongue_left)), (a_signs_kept, .inr (0, [w_signs_kept_left, w_signs_kept_signs, .ref a_signs_kept_wordSets, .int signs_kept_sayings, .int signs_kept_words, .int signs_kept_filled])), (a_signs_kept_wordSets, .inl (cI, 3, .inl f_signs_kept_wordSets))]) hF hA hZ hK hP hD hS (c_X5_leftBy l D cI cB cZ a_signs a_signs_tongue (.ref a_signs_tongue_values) signs_tongue_choices signs_tongue_worlds a_signs_tongue_left f_signs_tongue_left a_signs_kept w_signs_kept_left w_signs_kept_signs signs_kept_sayings signs_kept_words signs_kept_filled a_signs_kept_wordSets f_signs_kept_wordSets x2_l2 x9_l3 z_28 hc_28) rfl gX1_noteSigns_X5_leftBy hdX5_leftBy ⟨rfl, rfl⟩ (Nat.le_of_ble_eq_true rfl) (Nat.le_of_ble_eq_true rfl) 4 0 rfl rfl [5, 6, 1, 8, 2] [0, 3, 4, 7] rfl rfl rfl rfl (by decide) rfl hl.1 rfl (Nat.le_of_ble_eq_true rfl) (Nat.zero_le _) (Nat.zero_le _) dX1_noteSigns_28 (fun H locs hP hD hS => ?_)
              refine lv_iconst (v := 1) hx hb dX1_noteSigns_31 ic_1 ?_
              obtain ⟨z_32, hc_32, h⟩ := bd_e h
              refine q_vV (As := [.int z_28, .int 1]) (rest := []) (wF := [(a_signs_tongue_values, .inl (cI, 3, .inl f_signs_tongue_values)), (a_signs, .inr (4, [.ref a_signs_tongue, .ref a_signs_kept])), (a_signs_tongue, .inr (7, [.ref a_signs_tongue_values, .ref a_signs_tongue_left, .int signs_tongue_choices, .int signs_tongue_worlds])), (a_signs_tongue_left, .inl (cI, 30, .inl f_signs_tongue_left)), (a_signs_kept, .inr (0, [w_signs_kept_left, w_signs_kept_signs, .ref a_signs_kept_wordSets, .int signs_kept_sayings, .int signs_kept_words, .int signs_kept_filled])), (a_signs_kept_wordSets, .inl (cI, 3, .inl f_signs_kept_wordSets)), (a_o, .inr (1, [.ref a_signs, .ref a_length, .ref a_order, w_o_start, .int z_32.1])), (a_length, .inl (cI, 512, .inl z_32.2.1)), (a_order, .inl (cI, 512, .inl z_32.2.2))]) hF hA hZ hK hP hD hS (c_X1_note l D cI cB cZ a_o (.ref a_signs) w_o_start x9_o_found a_length x9_f_length a_order x9_f_order z_28 1 z_32 hc_32) rfl gX1_noteSigns_X1_note hdX1_note ⟨rfl, rfl⟩ (Nat.le_of_ble_eq_true rfl) (Nat.le_of_ble_eq_true rfl) 1 0 rfl rfl [0, 1, 2] [3, 4, 5, 6, 7, 8] rfl rfl rfl rfl (by decide) rfl hl.1 rfl (Nat.le_of_ble_eq_true rfl) (Nat.zero_le _) (Nat.zero_le _) dX1_noteSigns_32 (fun H locs hP hD hS => ?_)
              refine lv_iinc (v := x9_l3 + 1) (lv' := [(3, .int (x9_l3 + 1)), (0, .ref a_o), (1, .int p1), (2, .int x2_l2)]) hx hb dX1_noteSigns_35 hl (k := 3) rfl (congrArg (x9_l3 + ·) ic_1) (by decide) rfl (fun ls hl => ?_)
              refine lv_goto (tgt := 9) hx hb dX1_noteSigns_38 (by decide) ?_
              exact ih9 (x9_l3 + 1) z_32.1 z_32.2.1 z_32.2.2 H locs ls h (hP.sub [6, 1, 2, 0, 3, 4, 5, 7, 8] rfl) (hD.sub [6, 1, 2, 0, 3, 4, 5, 7, 8] (by decide) rfl) hS (lv_sub hl [1, 2, 3, 0] rfl)
        exact L9 QF 0 x2_o_found x2_f_length x2_f_order H locs ls h hP hD hS (lv_sub hl [1, 2, 3, 0] rfl)
  exact L2 QF 0 o_found f_length f_order H locs ls h hP hD hS (lv_sub hl [1, 2, 0] rfl)
abbrev rmX1_join : Room := { frames := 2, cells := 0, slots := 0, locals := 44 }
theorem hdX1_join : yX1_join.cls = RX1 ∧ yX1_join.cls ≠ "java/lang/invoke/MethodHandle" ∧ yX1_join.cls ≠ "java/lang/invoke/VarHandle" ∧ (parseMethodDescriptor yX1_join.desc).map (fun d => d.parameters.length) = some 2 := by decide +kernel
set_option maxRecDepth 100000 in
set_option maxHeartbeats 4000000 in
theorem c_X1_join (l : Launch) (D : va_G) (cI cB cZ : ClassId) (a_o : Nat) (w_o_signs : Value) (o_found : Int32) (a_length : Nat) (f_length : Nat → Int32) (a_order : Nat) (f_order : Nat → Int32) (a_start : Nat) (f_start : Nat → Int32) (p1 : Int32) (p2 : Int32) (z : Int32 × (Nat → Int32) × (Nat → Int32)) (h : P_X1_join p1 p2 o_found f_length f_order f_start = some z) : KV l yX1_join wsX1_join rmX1_join D [(cI, .int), (cB, .byte), (cZ, .boolean)] [.ref a_o, .int p1, .int p2] [(a_o, .inr (1, [w_o_signs, .ref a_length, .ref a_order, .ref a_start, .int o_found])), (a_length, .inl (cI, 512, .inl f_length)), (a_order, .inl (cI, 512, .inl f_order)), (a_start, .inl (cI, 34, .inl f_start))] [(a_o, .inr (1, [w_o_signs, .ref a_length, .ref a_order, .ref a_start, .int z.1])), (a_length, .inl (cI, 512, .inl z.2.1)), (a_order, .inl (cI, 512, .inl z.2.2)), (a_start, .inl (cI, 34, .inl f_start))] := by
  refine KV_of (own := RX1) (cc := cX1_join) (maxL := 9) (by decide) rfl rfl (Nat.le_of_ble_eq_true rfl) ?_
  intro p e s m args below meth c A Q hx hb hml hown hts hA hZ hK hret H locs ls hP hD hS hl
  have hl : lv_has ls 9 [(0, .ref a_o), (1, .int p1), (2, .int p2)] := hl
  have hF : CallFix p m c cX1_join 9 s args wsX1_join RX1 := ⟨hx, hb, hml, hown, hts⟩
  have u_X1 : ∀ w ∈ u_ws RX1 TX1 5, w ∈ wsX1_join := by decide +kernel
  have k_f0 := hts (.fieldLink RX1 20 "NoWordNo$Lengths" "start" "[I") (by decide +kernel)
  have k_f1 := hts (.fieldLink RX1 17 "NoWordNo$Lengths" "order" "[I") (by decide +kernel)
  unfold P_X1_join at h
  refine lv_aload_n hx hb dX1_join_0 rfl (lv_at hl 0 rfl) ?_
  refine va_get (D := D) (ci := 1) (v := .ref a_start) (C := RX1) (T := TX1) (N := 5) hx hb hts u_X1 hown hK hP 0 rfl rfl 3 (by decide) k_f0 (fun _ h9 => h9) rfl dX1_join_1 ?_
  refine lv_iload_n hx hb dX1_join_4 rfl (lv_at hl 1 rfl) ?_
  refine lv_iconst (v := 1) hx hb dX1_join_5 ic_1 ?_
  refine lv_iadd hx hb dX1_join_6 ?_
  obtain ⟨z_7, hc_7, h⟩ := bd_e h
  refine q_iS (As := [.ref a_start, .int (p1 + 1)]) (rest := []) (wF := [(a_o, .inr (1, [w_o_signs, .ref a_length, .ref a_order, .ref a_start, .int o_found])), (a_length, .inl (cI, 512, .inl f_length)), (a_order, .inl (cI, 512, .inl f_order)), (a_start, .inl (cI, 34, .inl f_start))]) hF hA hZ hK hP hD hS (c_X4_at l D cI cB cZ a_start 34 f_start (p1 + 1) z_7 hc_7) rfl gX1_join_X4_at hdX4_at ⟨rfl, rfl⟩ (Nat.le_of_ble_eq_true rfl) (Nat.le_of_ble_eq_true rfl) [3] [0, 1, 2] rfl rfl rfl rfl (by decide) rfl hl.1 rfl (Nat.le_of_ble_eq_true rfl) (Nat.zero_le _) (Nat.zero_le _) dX1_join_7 (fun H locs hP hD hS => ?_)
  refine lv_istore_n (lv' := [(3, .int z_7), (0, .ref a_o), (1, .int p1), (2, .int p2)]) hx hb dX1_join_10 rfl hl (by decide) rfl (fun ls hl => ?_)
  refine lv_aload_n hx hb dX1_join_11 rfl (lv_at hl 1 rfl) ?_
  refine va_get (D := D) (ci := 1) (v := .ref a_start) (C := RX1) (T := TX1) (N := 5) hx hb hts u_X1 hown hK hP 0 rfl rfl 3 (by decide) k_f0 (fun _ h9 => h9) rfl dX1_join_12 ?_
  refine lv_iload_n hx hb dX1_join_15 rfl (lv_at hl 3 rfl) ?_
  refine lv_iconst (v := 1) hx hb dX1_join_16 ic_1 ?_
  refine lv_iadd hx hb dX1_join_17 ?_
  obtain ⟨z_18, hc_18, h⟩ := bd_e h
  refine q_iS (As := [.ref a_start, .int (p2 + 1)]) (rest := []) (wF := [(a_o, .inr (1, [w_o_signs, .ref a_length, .ref a_order, .ref a_start, .int o_found])), (a_length, .inl (cI, 512, .inl f_length)), (a_order, .inl (cI, 512, .inl f_order)), (a_start, .inl (cI, 34, .inl f_start))]) hF hA hZ hK hP hD hS (c_X4_at l D cI cB cZ a_start 34 f_start (p2 + 1) z_18 hc_18) rfl gX1_join_X4_at hdX4_at ⟨rfl, rfl⟩ (Nat.le_of_ble_eq_true rfl) (Nat.le_of_ble_eq_true rfl) [3] [0, 1, 2] rfl rfl rfl rfl (by decide) rfl hl.1 rfl (Nat.le_of_ble_eq_true rfl) (Nat.zero_le _) (Nat.zero_le _) dX1_join_18 (fun H locs hP hD hS => ?_)
  refine lv_istore (lv' := [(4, .int z_18), (3, .int z_7), (0, .ref a_o), (1, .int p1), (2, .int p2)]) hx hb dX1_join_21 hl (by decide) rfl (fun ls hl => ?_)
  refine lv_aload_n hx hb dX1_join_23 rfl (lv_at hl 2 rfl) ?_
  refine va_get (D := D) (ci := 1) (v := .ref a_start) (C := RX1) (T := TX1) (N := 5) hx hb hts u_X1 hown hK hP 0 rfl rfl 3 (by decide) k_f0 (fun _ h9 => h9) rfl dX1_join_24 ?_
  refine lv_iload_n hx hb dX1_join_27 rfl (lv_at hl 3 rfl) ?_
  obtain ⟨z_28, hc_28, h⟩ := bd_e h
  refine q_iS (As := [.ref a_start, .int p1]) (rest := []) (wF := [(a_o, .inr (1, [w_o_signs, .ref a_length, .ref a_order, .ref a_start, .int o_found])), (a_length, .inl (cI, 512, .inl f_length)), (a_order, .inl (cI, 512, .inl f_order)), (a_start, .inl (cI, 34, .inl f_start))]) hF hA hZ hK hP hD hS (c_X4_at l D cI cB cZ a_start 34 f_start p1 z_28 hc_28) rfl gX1_join_X4_at hdX4_at ⟨rfl, rfl⟩ (Nat.le_of_ble_eq_true rfl) (Nat.le_of_ble_eq_true rfl) [3] [0, 1, 2] rfl rfl rfl rfl (by decide) rfl hl.1 rfl (Nat.le_of_ble_eq_true rfl) (Nat.zero_le _) (Nat.zero_le _) dX1_join_28 (fun H locs hP hD hS => ?_)
  refine lv_istore (lv' := [(5, .int z_28), (4, .int z_18), (3, .int z_7), (0, .ref a_o), (1, .int p1), (2, .int p2)]) hx hb dX1_join_31 hl (by decide) rfl (fun ls hl => ?_)
  have L33 : ∀ (n : Nat), ∀ (x33_l5 : Int32) (x33_o_found : Int32) (x33_f_length : (Nat → Int32)) (x33_f_order : (Nat → Int32)) (H : Heap) (locs : List Loc) (ls : Array Slot), P_X1_join_33 p1 p2 f_start z_7 z_18 n x33_l5 x33_o_found x33_f_length x33_f_order = some z → va_P D vwCl [(a_o, .inr (1, [w_o_signs, .ref a_length, .ref a_order, .ref a_start, .int x33_o_found])), (a_length, .inl (cI, 512, .inl x33_f_length)), (a_order, .inl (cI, 512, .inl x33_f_order)), (a_start, .inl (cI, 34, .inl f_start))] H → va_D A [(a_o, .inr (1, [w_o_signs, .ref a_length, .ref a_order, .ref a_start, .int x33_o_found])), (a_length, .inl (cI, 512, .inl x33_f_length)), (a_order, .inl (cI, 512, .inl x33_f_order)), (a_start, .inl (cI, 34, .inl f_start))] → va_S A s.heap H locs → lv_has ls 9 [(0, .ref a_o), (1, .int p1), (2, .int p2), (3, .int z_7), (4, .int z_18), (5, .int x33_l5)] → W p l e rmX1_join s m args below meth c H locs 0 0 Q (F0 m 33 ls []) := by
    intro n
    induction n with
    | zero =>
      intro x33_l5 x33_o_found x33_f_length x33_f_order H locs ls h
      exact no_e h
    | succ n ih33 =>
      intro x33_l5 x33_o_found x33_f_length x33_f_order H locs ls h hP hD hS hl
      rw [P_X1_join_33] at h
      refine lv_iload hx hb dX1_join_33 (lv_at hl 5 rfl) ?_
      refine lv_iload_n hx hb dX1_join_35 rfl (lv_at hl 3 rfl) ?_
      refine lv_icmp_ge (tgt := 126) hx hb dX1_join_36 (by decide) (fun c_36 => ?_) (fun c_36 => ?_)
      · replace h := it_e c_36 h
        have hz := Option.some.inj h
        subst hz
        exact hret H locs 126 ls hP hD hS dX1_join_126
      · replace h := if_e c_36 h
        refine lv_aload_n hx hb dX1_join_39 rfl (lv_at hl 0 rfl) ?_
        refine va_get (D := D) (ci := 1) (v := .ref a_order) (C := RX1) (T := TX1) (N := 5) hx hb hts u_X1 hown hK hP 0 rfl rfl 2 (by decide) k_f1 (fun _ h9 => h9) rfl dX1_join_40 ?_
        refine lv_iload hx hb dX1_join_43 (lv_at hl 5 rfl) ?_
        obtain ⟨z_45, hc_45, h⟩ := bd_e h
        refine q_iS (As := [.ref a_order, .int x33_l5]) (rest := []) (wF := [(a_o, .inr (1, [w_o_signs, .ref a_length, .ref a_order, .ref a_start, .int x33_o_found])), (a_length, .inl (cI, 512, .inl x33_f_length)), (a_start, .inl (cI, 34, .inl f_start)), (a_order, .inl (cI, 512, .inl x33_f_order))]) hF hA hZ hK hP hD hS (c_X4_at l D cI cB cZ a_order 512 x33_f_order x33_l5 z_45 hc_45) rfl gX1_join_X4_at hdX4_at ⟨rfl, rfl⟩ (Nat.le_of_ble_eq_true rfl) (Nat.le_of_ble_eq_true rfl) [2] [0, 1, 3] rfl rfl rfl rfl (by decide) rfl hl.1 rfl (Nat.le_of_ble_eq_true rfl) (Nat.zero_le _) (Nat.zero_le _) dX1_join_45 (fun H locs hP hD hS => ?_)
        refine lv_istore (lv' := [(6, .int z_45), (0, .ref a_o), (1, .int p1), (2, .int p2), (3, .int z_7), (4, .int z_18), (5, .int x33_l5)]) hx hb dX1_join_48 hl (by decide) rfl (fun ls hl => ?_)
        refine lv_iload_n hx hb dX1_join_50 rfl (lv_at hl 2 rfl) ?_
        refine lv_iload_n hx hb dX1_join_51 rfl (lv_at hl 3 rfl) ?_
        obtain ⟨j70, hj70, h⟩ := jn_e h
        have Jj70 : ∀ (x70_s0 : Int32) (H : Heap) (locs : List Loc) (ls : Array Slot), j70 x70_s0 = some z → va_P D vwCl [(a_o, .inr (1, [w_o_signs, .ref a_length, .ref a_order, .ref a_start, .int x33_o_found])), (a_length, .inl (cI, 512, .inl x33_f_length)), (a_start, .inl (cI, 34, .inl f_start)), (a_order, .inl (cI, 512, .inl x33_f_order))] H → va_D A [(a_o, .inr (1, [w_o_signs, .ref a_length, .ref a_order, .ref a_start, .int x33_o_found])), (a_length, .inl (cI, 512, .inl x33_f_length)), (a_start, .inl (cI, 34, .inl f_start)), (a_order, .inl (cI, 512, .inl x33_f_order))] → va_S A s.heap H locs → lv_has ls 9 [(0, .ref a_o), (1, .int p1), (2, .int p2), (3, .int z_7), (4, .int z_18), (5, .int x33_l5), (6, .int z_45)] → W p l e rmX1_join s m args below meth c H locs 0 0 Q (F0 m 70 ls [.int x70_s0]) := by
          intro x70_s0 H locs ls h hP hD hS hl
          rw [hj70] at h
          refine lv_istore (lv' := [(7, .int x70_s0), (0, .ref a_o), (1, .int p1), (2, .int p2), (3, .int z_7), (4, .int z_18), (5, .int x33_l5), (6, .int z_45)]) hx hb dX1_join_70 hl (by decide) rfl (fun ls hl => ?_)
          obtain ⟨k120, hk120, h⟩ := jn_e h
          have Jk120 : ∀ (x120_o_found : Int32) (x120_f_length : (Nat → Int32)) (x120_f_order : (Nat → Int32)) (H : Heap) (locs : List Loc) (ls : Array Slot), k120 x120_o_found x120_f_length x120_f_order = some z → va_P D vwCl [(a_o, .inr (1, [w_o_signs, .ref a_length, .ref a_order, .ref a_start, .int x120_o_found])), (a_length, .inl (cI, 512, .inl x120_f_length)), (a_start, .inl (cI, 34, .inl f_start)), (a_order, .inl (cI, 512, .inl x120_f_order))] H → va_D A [(a_o, .inr (1, [w_o_signs, .ref a_length, .ref a_order, .ref a_start, .int x120_o_found])), (a_length, .inl (cI, 512, .inl x120_f_length)), (a_start, .inl (cI, 34, .inl f_start)), (a_order, .inl (cI, 512, .inl x120_f_order))] → va_S A s.heap H locs → lv_has ls 9 [(0, .ref a_o), (1, .int p1), (2, .int p2), (3, .int z_7), (4, .int z_18), (5, .int x33_l5)] → W p l e rmX1_join s m args below meth c H locs 0 0 Q (F0 m 120 ls []) := by
            intro x120_o_found x120_f_length x120_f_order H locs ls h hP hD hS hl
            rw [hk120] at h
            refine lv_iinc (v := x33_l5 + 1) (lv' := [(5, .int (x33_l5 + 1)), (0, .ref a_o), (1, .int p1), (2, .int p2), (3, .int z_7), (4, .int z_18)]) hx hb dX1_join_120 hl (k := 5) rfl (congrArg (x33_l5 + ·) ic_1) (by decide) rfl (fun ls hl => ?_)
            refine lv_goto (tgt := 33) hx hb dX1_join_123 (by decide) ?_
            exact ih33 (x33_l5 + 1) x120_o_found x120_f_length x120_f_order H locs ls h (hP.sub [0, 1, 3, 2] rfl) (hD.sub [0, 1, 3, 2] (by decide) rfl) hS (lv_sub hl [1, 2, 3, 4, 5, 0] rfl)
          have L72 : ∀ (n : Nat), ∀ (x72_l7 : Int32) (x72_o_found : Int32) (x72_f_length : (Nat → Int32)) (x72_f_order : (Nat → Int32)) (H : Heap) (locs : List Loc) (ls : Array Slot), P_X1_join_72 p1 p2 z_18 z_45 k120 n x72_l7 x72_o_found x72_f_length x72_f_order = some z → va_P D vwCl [(a_o, .inr (1, [w_o_signs, .ref a_length, .ref a_order, .ref a_start, .int x72_o_found])), (a_length, .inl (cI, 512, .inl x72_f_length)), (a_start, .inl (cI, 34, .inl f_start)), (a_order, .inl (cI, 512, .inl x72_f_order))] H → va_D A [(a_o, .inr (1, [w_o_signs, .ref a_length, .ref a_order, .ref a_start, .int x72_o_found])), (a_length, .inl (cI, 512, .inl x72_f_length)), (a_start, .inl (cI, 34, .inl f_start)), (a_order, .inl (cI, 512, .inl x72_f_order))] → va_S A s.heap H locs → lv_has ls 9 [(0, .ref a_o), (1, .int p1), (2, .int p2), (3, .int z_7), (4, .int z_18), (5, .int x33_l5), (6, .int z_45), (7, .int x72_l7)] → W p l e rmX1_join s m args below meth c H locs 0 0 Q (F0 m 72 ls []) := by
            intro n
            induction n with
            | zero =>
              intro x72_l7 x72_o_found x72_f_length x72_f_order H locs ls h
              exact no_e h
            | succ n ih72 =>
              intro x72_l7 x72_o_found x72_f_length x72_f_order H locs ls h hP hD hS hl
              rw [P_X1_join_72] at h
              refine lv_iload hx hb dX1_join_72 (lv_at hl 7 rfl) ?_
              refine lv_iload hx hb dX1_join_74 (lv_at hl 4 rfl) ?_
              refine lv_icmp_ge (tgt := 120) hx hb dX1_join_76 (by decide) (fun c_76 => ?_) (fun c_76 => ?_)
              · replace h := it_e c_76 h
                exact Jk120 x72_o_found x72_f_length x72_f_order H locs ls h hP hD hS (lv_sub hl [0, 1, 2, 3, 4, 5] rfl)
              · replace h := if_e c_76 h
                refine lv_aload_n hx hb dX1_join_79 rfl (lv_at hl 0 rfl) ?_
                refine va_get (D := D) (ci := 1) (v := .ref a_order) (C := RX1) (T := TX1) (N := 5) hx hb hts u_X1 hown hK hP 0 rfl rfl 2 (by decide) k_f1 (fun _ h9 => h9) rfl dX1_join_80 ?_
                refine lv_iload hx hb dX1_join_83 (lv_at hl 7 rfl) ?_
                obtain ⟨z_85, hc_85, h⟩ := bd_e h
                refine q_iS (As := [.ref a_order, .int x72_l7]) (rest := []) (wF := [(a_o, .inr (1, [w_o_signs, .ref a_length, .ref a_order, .ref a_start, .int x72_o_found])), (a_length, .inl (cI, 512, .inl x72_f_length)), (a_start, .inl (cI, 34, .inl f_start)), (a_order, .inl (cI, 512, .inl x72_f_order))]) hF hA hZ hK hP hD hS (c_X4_at l D cI cB cZ a_order 512 x72_f_order x72_l7 z_85 hc_85) rfl gX1_join_X4_at hdX4_at ⟨rfl, rfl⟩ (Nat.le_of_ble_eq_true rfl) (Nat.le_of_ble_eq_true rfl) [3] [0, 1, 2] rfl rfl rfl rfl (by decide) rfl hl.1 rfl (Nat.le_of_ble_eq_true rfl) (Nat.zero_le _) (Nat.zero_le _) dX1_join_85 (fun H locs hP hD hS => ?_)
                refine lv_istore (lv' := [(8, .int z_85), (0, .ref a_o), (1, .int p1), (2, .int p2), (3, .int z_7), (4, .int z_18), (5, .int x33_l5), (6, .int z_45), (7, .int x72_l7)]) hx hb dX1_join_88 hl (by decide) rfl (fun ls hl => ?_)
                refine lv_aload_n hx hb dX1_join_90 rfl (lv_at hl 1 rfl) ?_
                refine lv_iload hx hb dX1_join_91 (lv_at hl 7 rfl) ?_
                refine lv_iload hx hb dX1_join_93 (lv_at hl 0 rfl) ?_
                refine lv_iand hx hb dX1_join_95 ?_
                refine lv_iload_n hx hb dX1_join_96 rfl (lv_at hl 2 rfl) ?_
                refine lv_iload_n hx hb dX1_join_97 rfl (lv_at hl 3 rfl) ?_
                refine lv_iadd hx hb dX1_join_98 ?_
                obtain ⟨z_99, hc_99, h⟩ := bd_e h
                refine q_vV (As := [.int (z_45 &&& z_85), .int (p1 + p2)]) (rest := []) (wF := [(a_start, .inl (cI, 34, .inl f_start)), (a_o, .inr (1, [w_o_signs, .ref a_length, .ref a_order, .ref a_start, .int z_99.1])), (a_length, .inl (cI, 512, .inl z_99.2.1)), (a_order, .inl (cI, 512, .inl z_99.2.2))]) hF hA hZ hK hP hD hS (c_X1_note l D cI cB cZ a_o w_o_signs (.ref a_start) x72_o_found a_length x72_f_length a_order x72_f_order (z_45 &&& z_85) (p1 + p2) z_99 hc_99) rfl gX1_join_X1_note hdX1_note ⟨rfl, rfl⟩ (Nat.le_of_ble_eq_true rfl) (Nat.le_of_ble_eq_true rfl) 1 0 rfl rfl [0, 1, 3] [2] rfl rfl rfl rfl (by decide) rfl hl.1 rfl (Nat.le_of_ble_eq_true rfl) (Nat.zero_le _) (Nat.zero_le _) dX1_join_99 (fun H locs hP hD hS => ?_)
                refine lv_aload_n hx hb dX1_join_102 rfl (lv_at hl 1 rfl) ?_
                refine lv_iload hx hb dX1_join_103 (lv_at hl 7 rfl) ?_
                refine lv_iload hx hb dX1_join_105 (lv_at hl 0 rfl) ?_
                refine lv_ior hx hb dX1_join_107 ?_
                refine lv_iload_n hx hb dX1_join_108 rfl (lv_at hl 2 rfl) ?_
                refine lv_iload_n hx hb dX1_join_109 rfl (lv_at hl 3 rfl) ?_
                refine lv_iadd hx hb dX1_join_110 ?_
                obtain ⟨z_111, hc_111, h⟩ := bd_e h
                refine q_vV (As := [.int (z_45 ||| z_85), .int (p1 + p2)]) (rest := []) (wF := [(a_start, .inl (cI, 34, .inl f_start)), (a_o, .inr (1, [w_o_signs, .ref a_length, .ref a_order, .ref a_start, .int z_111.1])), (a_length, .inl (cI, 512, .inl z_111.2.1)), (a_order, .inl (cI, 512, .inl z_111.2.2))]) hF hA hZ hK hP hD hS (c_X1_note l D cI cB cZ a_o w_o_signs (.ref a_start) z_99.1 a_length z_99.2.1 a_order z_99.2.2 (z_45 ||| z_85) (p1 + p2) z_111 hc_111) rfl gX1_join_X1_note hdX1_note ⟨rfl, rfl⟩ (Nat.le_of_ble_eq_true rfl) (Nat.le_of_ble_eq_true rfl) 1 0 rfl rfl [1, 2, 3] [0] rfl rfl rfl rfl (by decide) rfl hl.1 rfl (Nat.le_of_ble_eq_true rfl) (Nat.zero_le _) (Nat.zero_le _) dX1_join_111 (fun H locs hP hD hS => ?_)
                refine lv_iinc (v := x72_l7 + 1) (lv' := [(7, .int (x72_l7 + 1)), (8, .int z_85), (0, .ref a_o), (1, .int p1), (2, .int p2), (3, .int z_7), (4, .int z_18), (5, .int x33_l5), (6, .int z_45)]) hx hb dX1_join_114 hl (k := 8) rfl (congrArg (x72_l7 + ·) ic_1) (by decide) rfl (fun ls hl => ?_)
                refine lv_goto (tgt := 72) hx hb dX1_join_117 (by decide) ?_
                exact ih72 (x72_l7 + 1) z_111.1 z_111.2.1 z_111.2.2 H locs ls h (hP.sub [1, 2, 0, 3] rfl) (hD.sub [1, 2, 0, 3] (by decide) rfl) hS (lv_sub hl [2, 3, 4, 5, 6, 7, 8, 0] rfl)
          exact L72 QF x70_s0 x33_o_found x33_f_length x33_f_order H locs ls h hP hD hS (lv_sub hl [1, 2, 3, 4, 5, 6, 7, 0] rfl)
        refine lv_icmp_ne (tgt := 62) hx hb dX1_join_52 (by decide) (fun c_52 => ?_) (fun c_52 => ?_)
        · replace h := if_e c_52 h
          refine lv_aload_n hx hb dX1_join_62 rfl (lv_at hl 1 rfl) ?_
          refine va_get (D := D) (ci := 1) (v := .ref a_start) (C := RX1) (T := TX1) (N := 5) hx hb hts u_X1 hown hK hP 0 rfl rfl 3 (by decide) k_f0 (fun _ h9 => h9) rfl dX1_join_63 ?_
          refine lv_iload_n hx hb dX1_join_66 rfl (lv_at hl 3 rfl) ?_
          obtain ⟨z_67, hc_67, h⟩ := bd_e h
          refine q_iS (As := [.ref a_start, .int p2]) (rest := []) (wF := [(a_o, .inr (1, [w_o_signs, .ref a_length, .ref a_order, .ref a_start, .int x33_o_found])), (a_length, .inl (cI, 512, .inl x33_f_length)), (a_order, .inl (cI, 512, .inl x33_f_order)), (a_start, .inl (cI, 34, .inl f_start))]) hF hA hZ hK hP hD hS (c_X4_at l D cI cB cZ a_start 34 f_start p2 z_67 hc_67) rfl gX1_join_X4_at hdX4_at ⟨rfl, rfl⟩ (Nat.le_of_ble_eq_true rfl) (Nat.le_of_ble_eq_true rfl) [2] [0, 1, 3] rfl rfl rfl rfl (by decide) rfl hl.1 rfl (Nat.le_of_ble_eq_true rfl) (Nat.zero_le _) (Nat.zero_le _) dX1_join_67 (fun H locs hP hD hS => ?_)
          exact Jj70 z_67 H locs ls h (hP.sub [0, 1, 3, 2] rfl) (hD.sub [0, 1, 3, 2] (by decide) rfl) hS (lv_sub hl [1, 2, 3, 4, 5, 6, 0] rfl)
        · replace h := it_e c_52 h
          refine lv_iload hx hb dX1_join_55 (lv_at hl 6 rfl) ?_
          refine lv_iconst (v := 1) hx hb dX1_join_57 ic_1 ?_
          refine lv_iadd hx hb dX1_join_58 ?_
          refine lv_goto (tgt := 70) hx hb dX1_join_59 (by decide) ?_
          exact Jj70 (x33_l5 + 1) H locs ls h hP hD hS (lv_sub hl [1, 2, 3, 4, 5, 6, 0] rfl)
  exact L33 QF z_28 o_found f_length f_order H locs ls h hP hD hS (lv_sub hl [3, 4, 5, 2, 1, 0] rfl)
abbrev rmX1_measure : Room := { frames := 4, cells := 0, slots := 0, locals := 88 }
theorem hdX1_measure : yX1_measure.cls = RX1 ∧ yX1_measure.cls ≠ "java/lang/invoke/MethodHandle" ∧ yX1_measure.cls ≠ "java/lang/invoke/VarHandle" ∧ (parseMethodDescriptor yX1_measure.desc).map (fun d => d.parameters.length) = some 1 := by decide +kernel
set_option maxRecDepth 100000 in
set_option maxHeartbeats 4000000 in
theorem c_X1_measure (l : Launch) (D : va_G) (cI cB cZ : ClassId) (a_o : Nat) (o_found : Int32) (a_signs : Nat) (a_signs_tongue : Nat) (signs_tongue_choices : Int32) (signs_tongue_worlds : Int32) (a_signs_tongue_values : Nat) (f_signs_tongue_values : Nat → Int32) (a_signs_tongue_left : Nat) (f_signs_tongue_left : Nat → Int32) (a_signs_kept : Nat) (w_signs_kept_left : Value) (w_signs_kept_signs : Value) (signs_kept_sayings : Int32) (signs_kept_words : Int32) (signs_kept_filled : Int32) (a_signs_kept_wordSets : Nat) (f_signs_kept_wordSets : Nat → Int32) (a_length : Nat) (f_length : Nat → Int32) (a_order : Nat) (f_order : Nat → Int32) (a_start : Nat) (f_start : Nat → Int32) (p1 : Int32) (z : Int32 × (Nat → Int32) × (Nat → Int32) × (Nat → Int32)) (h : P_X1_measure p1 o_found signs_tongue_choices signs_tongue_worlds f_signs_tongue_values f_signs_tongue_left signs_kept_words f_signs_kept_wordSets f_length f_order f_start = some z) : KV l yX1_measure wsX1_measure rmX1_measure D [(cI, .int), (cB, .byte), (cZ, .boolean)] [.ref a_o, .int p1] [(a_o, .inr (1, [.ref a_signs, .ref a_length, .ref a_order, .ref a_start, .int o_found])), (a_signs, .inr (4, [.ref a_signs_tongue, .ref a_signs_kept])), (a_signs_tongue, .inr (7, [.ref a_signs_tongue_values, .ref a_signs_tongue_left, .int signs_tongue_choices, .int signs_tongue_worlds])), (a_signs_tongue_values, .inl (cI, 3, .inl f_signs_tongue_values)), (a_signs_tongue_left, .inl (cI, 30, .inl f_signs_tongue_left)), (a_signs_kept, .inr (0, [w_signs_kept_left, w_signs_kept_signs, .ref a_signs_kept_wordSets, .int signs_kept_sayings, .int signs_kept_words, .int signs_kept_filled])), (a_signs_kept_wordSets, .inl (cI, 3, .inl f_signs_kept_wordSets)), (a_length, .inl (cI, 512, .inl f_length)), (a_order, .inl (cI, 512, .inl f_order)), (a_start, .inl (cI, 34, .inl f_start))] [(a_o, .inr (1, [.ref a_signs, .ref a_length, .ref a_order, .ref a_start, .int z.1])), (a_signs, .inr (4, [.ref a_signs_tongue, .ref a_signs_kept])), (a_signs_tongue, .inr (7, [.ref a_signs_tongue_values, .ref a_signs_tongue_left, .int signs_tongue_choices, .int signs_tongue_worlds])), (a_signs_tongue_values, .inl (cI, 3, .inl f_signs_tongue_values)), (a_signs_tongue_left, .inl (cI, 30, .inl f_signs_tongue_left)), (a_signs_kept, .inr (0, [w_signs_kept_left, w_signs_kept_signs, .ref a_signs_kept_wordSets, .int signs_kept_sayings, .int signs_kept_words, .int signs_kept_filled])), (a_signs_kept_wordSets, .inl (cI, 3, .inl f_signs_kept_wordSets)), (a_length, .inl (cI, 512, .inl z.2.1)), (a_order, .inl (cI, 512, .inl z.2.2.1)), (a_start, .inl (cI, 34, .inl z.2.2.2))] := by
  refine KV_of (own := RX1) (cc := cX1_measure) (maxL := 5) (by decide) rfl rfl (Nat.le_of_ble_eq_true rfl) ?_
  intro p e s m args below meth c A Q hx hb hml hown hts hA hZ hK hret H locs ls hP hD hS hl
  have hl : lv_has ls 5 [(0, .ref a_o), (1, .int p1)] := hl
  have hF : CallFix p m c cX1_measure 5 s args wsX1_measure RX1 := ⟨hx, hb, hml, hown, hts⟩
  have u_X1 : ∀ w ∈ u_ws RX1 TX1 5, w ∈ wsX1_measure := by decide +kernel
  have k_f0 := hts (.fieldLink RX1 27 "NoWordNo$Lengths" "signs" "LNoWordNo$Signs;") (by decide +kernel)
  have k_f1 := hts (.fieldLink RX1 23 "NoWordNo$Lengths" "found" "I") (by decide +kernel)
  have k_f2 := hts (.fieldLink RX1 20 "NoWordNo$Lengths" "start" "[I") (by decide +kernel)
  have k_f3 := hts (.fieldLink RX1 13 "NoWordNo$Lengths" "length" "[I") (by decide +kernel)
  unfold P_X1_measure at h
  refine lv_aload_n hx hb dX1_measure_0 rfl (lv_at hl 0 rfl) ?_
  refine va_get (D := D) (ci := 1) (v := .ref a_signs) (C := RX1) (T := TX1) (N := 5) hx hb hts u_X1 hown hK hP 0 rfl rfl 0 (by decide) k_f0 (fun _ h9 => h9) rfl dX1_measure_1 ?_
  refine q_rV (As := []) (rest := []) (wF := [(a_o, .inr (1, [.ref a_signs, .ref a_length, .ref a_order, .ref a_start, .int o_found])), (a_signs_tongue_values, .inl (cI, 3, .inl f_signs_tongue_values)), (a_signs_tongue_left, .inl (cI, 30, .inl f_signs_tongue_left)), (a_signs_kept, .inr (0, [w_signs_kept_left, w_signs_kept_signs, .ref a_signs_kept_wordSets, .int signs_kept_sayings, .int signs_kept_words, .int signs_kept_filled])), (a_signs_kept_wordSets, .inl (cI, 3, .inl f_signs_kept_wordSets)), (a_length, .inl (cI, 512, .inl f_length)), (a_order, .inl (cI, 512, .inl f_order)), (a_start, .inl (cI, 34, .inl f_start)), (a_signs, .inr (4, [.ref a_signs_tongue, .ref a_signs_kept])), (a_signs_tongue, .inr (7, [.ref a_signs_tongue_values, .ref a_signs_tongue_left, .int signs_tongue_choices, .int signs_tongue_worlds]))]) hF hA hZ hK hP hD hS (c_X5_speech l D cI cB cZ a_signs (.ref a_signs_kept) a_signs_tongue (.ref a_signs_tongue_values) (.ref a_signs_tongue_left) signs_tongue_choices signs_tongue_worlds) rfl gX1_measure_X5_speech hdX5_speech ⟨rfl, rfl⟩ (Nat.le_of_ble_eq_true rfl) (Nat.le_of_ble_eq_true rfl) 4 0 rfl rfl [1, 2] [0, 3, 4, 5, 6, 7, 8, 9] rfl rfl rfl rfl (by decide) rfl hl.1 rfl (Nat.le_of_ble_eq_true rfl) (Nat.zero_le _) (Nat.zero_le _) dX1_measure_4 (fun H locs hP hD hS => ?_)
  obtain ⟨z_7, hc_7, h⟩ := bd_e h
  refine q_iV (As := []) (rest := []) (wF := [(a_o, .inr (1, [.ref a_signs, .ref a_length, .ref a_order, .ref a_start, .int o_found])), (a_signs_tongue_values, .inl (cI, 3, .inl f_signs_tongue_values)), (a_signs_tongue_left, .inl (cI, 30, .inl f_signs_tongue_left)), (a_signs_kept, .inr (0, [w_signs_kept_left, w_signs_kept_signs, .ref a_signs_kept_wordSets, .int signs_kept_sayings, .int signs_kept_words, .int signs_kept_filled])), (a_signs_kept_wordSets, .inl (cI, 3, .inl f_signs_kept_wordSets)), (a_length, .inl (cI, 512, .inl f_length)), (a_order, .inl (cI, 512, .inl f_order)), (a_start, .inl (cI, 34, .inl f_start)), (a_signs, .inr (4, [.ref a_signs_tongue, .ref a_signs_kept])), (a_signs_tongue, .inr (7, [.ref a_signs_tongue_values, .ref a_signs_tongue_left, .int signs_tongue_choices, .int signs_tongue_worlds]))]) hF hA hZ hK hP hD hS (c_X8_all l D cI cB cZ a_signs_tongue (.ref a_signs_tongue_values) (.ref a_signs_tongue_left) signs_tongue_choices signs_tongue_worlds z_7 hc_7) rfl gX1_measure_X8_all hdX8_all ⟨rfl, rfl⟩ (Nat.le_of_ble_eq_true rfl) (Nat.le_of_ble_eq_true rfl) 7 0 rfl rfl [9] [0, 1, 2, 3, 4, 5, 6, 7, 8] rfl rfl rfl rfl (by decide) rfl hl.1 rfl (Nat.le_of_ble_eq_true rfl) (Nat.zero_le _) (Nat.zero_le _) dX1_measure_7 (fun H locs hP hD hS => ?_)
  refine lv_istore_n (lv' := [(2, .int z_7), (0, .ref a_o), (1, .int p1)]) hx hb dX1_measure_10 rfl hl (by decide) rfl (fun ls hl => ?_)
  refine lv_iconst (v := 0) hx hb dX1_measure_11 ic_0 ?_
  refine lv_istore_n (lv' := [(3, .int 0), (2, .int z_7), (0, .ref a_o), (1, .int p1)]) hx hb dX1_measure_12 rfl hl (by decide) rfl (fun ls hl => ?_)
  obtain ⟨k33, hk33, h⟩ := jn_e h
  have Jk33 : ∀ (x33_f_length : (Nat → Int32)) (H : Heap) (locs : List Loc) (ls : Array Slot), k33 x33_f_length = some z → va_P D vwCl [(a_o, .inr (1, [.ref a_signs, .ref a_length, .ref a_order, .ref a_start, .int o_found])), (a_signs_tongue_values, .inl (cI, 3, .inl f_signs_tongue_values)), (a_signs_tongue_left, .inl (cI, 30, .inl f_signs_tongue_left)), (a_signs_kept, .inr (0, [w_signs_kept_left, w_signs_kept_signs, .ref a_signs_kept_wordSets, .int signs_kept_sayings, .int signs_kept_words, .int signs_kept_filled])), (a_signs_kept_wordSets, .inl (cI, 3, .inl f_signs_kept_wordSets)), (a_length, .inl (cI, 512, .inl x33_f_length)), (a_order, .inl (cI, 512, .inl f_order)), (a_start, .inl (cI, 34, .inl f_start)), (a_signs, .inr (4, [.ref a_signs_tongue, .ref a_signs_kept])), (a_signs_tongue, .inr (7, [.ref a_signs_tongue_values, .ref a_signs_tongue_left, .int signs_tongue_choices, .int signs_tongue_worlds]))] H → va_D A [(a_o, .inr (1, [.ref a_signs, .ref a_length, .ref a_order, .ref a_start, .int o_found])), (a_signs_tongue_values, .inl (cI, 3, .inl f_signs_tongue_values)), (a_signs_tongue_left, .inl (cI, 30, .inl f_signs_tongue_left)), (a_signs_kept, .inr (0, [w_signs_kept_left, w_signs_kept_signs, .ref a_signs_kept_wordSets, .int signs_kept_sayings, .int signs_kept_words, .int signs_kept_filled])), (a_signs_kept_wordSets, .inl (cI, 3, .inl f_signs_kept_wordSets)), (a_length, .inl (cI, 512, .inl x33_f_length)), (a_order, .inl (cI, 512, .inl f_order)), (a_start, .inl (cI, 34, .inl f_start)), (a_signs, .inr (4, [.ref a_signs_tongue, .ref a_signs_kept])), (a_signs_tongue, .inr (7, [.ref a_signs_tongue_values, .ref a_signs_tongue_left, .int signs_tongue_choices, .int signs_tongue_worlds]))] → va_S A s.heap H locs → lv_has ls 5 [(0, .ref a_o), (1, .int p1), (2, .int z_7)] → W p l e rmX1_measure s m args below meth c H locs 0 0 Q (F0 m 33 ls []) := by
    intro x33_f_length H locs ls h hP hD hS hl
    rw [hk33] at h
    refine lv_aload_n hx hb dX1_measure_33 rfl (lv_at hl 0 rfl) ?_
    refine lv_iconst (v := 0) hx hb dX1_measure_34 ic_0 ?_
    refine va_put (D := D) (ci := 1) (v := .int 0) (ty := .int) (C := RX1) (T := TX1) (N := 5) hx hb hts u_X1 tyX1 tyX1_ok nmX1 hown hK hP hD hS 0 rfl rfl 4 (by decide) k_f1 (fun _ h9 => h9) rfl (tyX1_ok 4 (by decide)) rfl rfl (Nat.le_of_ble_eq_true rfl) dX1_measure_35 (fun H locs hP hD hS => ?_)
    have hP : va_P D vwCl [(a_o, .inr (1, [.ref a_signs, .ref a_length, .ref a_order, .ref a_start, .int 0])), (a_signs_tongue_values, .inl (cI, 3, .inl f_signs_tongue_values)), (a_signs_tongue_left, .inl (cI, 30, .inl f_signs_tongue_left)), (a_signs_kept, .inr (0, [w_signs_kept_left, w_signs_kept_signs, .ref a_signs_kept_wordSets, .int signs_kept_sayings, .int signs_kept_words, .int signs_kept_filled])), (a_signs_kept_wordSets, .inl (cI, 3, .inl f_signs_kept_wordSets)), (a_length, .inl (cI, 512, .inl x33_f_length)), (a_order, .inl (cI, 512, .inl f_order)), (a_start, .inl (cI, 34, .inl f_start)), (a_signs, .inr (4, [.ref a_signs_tongue, .ref a_signs_kept])), (a_signs_tongue, .inr (7, [.ref a_signs_tongue_values, .ref a_signs_tongue_left, .int signs_tongue_choices, .int signs_tongue_worlds]))] H := hP
    have hD : va_D A [(a_o, .inr (1, [.ref a_signs, .ref a_length, .ref a_order, .ref a_start, .int 0])), (a_signs_tongue_values, .inl (cI, 3, .inl f_signs_tongue_values)), (a_signs_tongue_left, .inl (cI, 30, .inl f_signs_tongue_left)), (a_signs_kept, .inr (0, [w_signs_kept_left, w_signs_kept_signs, .ref a_signs_kept_wordSets, .int signs_kept_sayings, .int signs_kept_words, .int signs_kept_filled])), (a_signs_kept_wordSets, .inl (cI, 3, .inl f_signs_kept_wordSets)), (a_length, .inl (cI, 512, .inl x33_f_length)), (a_order, .inl (cI, 512, .inl f_order)), (a_start, .inl (cI, 34, .inl f_start)), (a_signs, .inr (4, [.ref a_signs_tongue, .ref a_signs_kept])), (a_signs_tongue, .inr (7, [.ref a_signs_tongue_values, .ref a_signs_tongue_left, .int signs_tongue_choices, .int signs_tongue_worlds]))] := hD
    refine lv_aload_n hx hb dX1_measure_38 rfl (lv_at hl 0 rfl) ?_
    refine lv_iload_n hx hb dX1_measure_39 rfl (lv_at hl 1 rfl) ?_
    obtain ⟨z_40, hc_40, h⟩ := bd_e h
    refine q_vV (As := [.int p1]) (rest := []) (wF := [(a_start, .inl (cI, 34, .inl f_start)), (a_o, .inr (1, [.ref a_signs, .ref a_length, .ref a_order, .ref a_start, .int z_40.1])), (a_signs, .inr (4, [.ref a_signs_tongue, .ref a_signs_kept])), (a_signs_tongue, .inr (7, [.ref a_signs_tongue_values, .ref a_signs_tongue_left, .int signs_tongue_choices, .int signs_tongue_worlds])), (a_signs_tongue_values, .inl (cI, 3, .inl f_signs_tongue_values)), (a_signs_tongue_left, .inl (cI, 30, .inl f_signs_tongue_left)), (a_signs_kept, .inr (0, [w_signs_kept_left, w_signs_kept_signs, .ref a_signs_kept_wordSets, .int signs_kept_sayings, .int signs_kept_words, .int signs_kept_filled])), (a_signs_kept_wordSets, .inl (cI, 3, .inl f_signs_kept_wordSets)), (a_length, .inl (cI, 512, .inl z_40.2.1)), (a_order, .inl (cI, 512, .inl z_40.2.2))]) hF hA hZ hK hP hD hS (c_X1_noteSigns l D cI cB cZ a_o (.ref a_start) 0 a_signs a_signs_tongue signs_tongue_choices signs_tongue_worlds a_signs_tongue_values f_signs_tongue_values a_signs_tongue_left f_signs_tongue_left a_signs_kept w_signs_kept_left w_signs_kept_signs signs_kept_sayings signs_kept_words signs_kept_filled a_signs_kept_wordSets f_signs_kept_wordSets a_length x33_f_length a_order f_order p1 z_40 hc_40) rfl gX1_measure_X1_noteSigns hdX1_noteSigns ⟨rfl, rfl⟩ (Nat.le_of_ble_eq_true rfl) (Nat.le_of_ble_eq_true rfl) 1 0 rfl rfl [0, 8, 9, 1, 2, 3, 4, 5, 6] [7] rfl rfl rfl rfl (by decide) rfl hl.1 rfl (Nat.le_of_ble_eq_true rfl) (Nat.zero_le _) (Nat.zero_le _) dX1_measure_40 (fun H locs hP hD hS => ?_)
    refine lv_aload_n hx hb dX1_measure_43 rfl (lv_at hl 0 rfl) ?_
    refine va_get (D := D) (ci := 1) (v := .ref a_start) (C := RX1) (T := TX1) (N := 5) hx hb hts u_X1 hown hK hP 1 rfl rfl 3 (by decide) k_f2 (fun _ h9 => h9) rfl dX1_measure_44 ?_
    refine lv_iconst (v := 1) hx hb dX1_measure_47 ic_1 ?_
    refine lv_iconst (v := 0) hx hb dX1_measure_48 ic_0 ?_
    obtain ⟨z_49, hc_49, h⟩ := bd_e h
    refine q_vS (As := [.ref a_start, .int 1, .int 0]) (rest := []) (wF := [(a_o, .inr (1, [.ref a_signs, .ref a_length, .ref a_order, .ref a_start, .int z_40.1])), (a_signs, .inr (4, [.ref a_signs_tongue, .ref a_signs_kept])), (a_signs_tongue, .inr (7, [.ref a_signs_tongue_values, .ref a_signs_tongue_left, .int signs_tongue_choices, .int signs_tongue_worlds])), (a_signs_tongue_values, .inl (cI, 3, .inl f_signs_tongue_values)), (a_signs_tongue_left, .inl (cI, 30, .inl f_signs_tongue_left)), (a_signs_kept, .inr (0, [w_signs_kept_left, w_signs_kept_signs, .ref a_signs_kept_wordSets, .int signs_kept_sayings, .int signs_kept_words, .int signs_kept_filled])), (a_signs_kept_wordSets, .inl (cI, 3, .inl f_signs_kept_wordSets)), (a_length, .inl (cI, 512, .inl z_40.2.1)), (a_order, .inl (cI, 512, .inl z_40.2.2)), (a_start, .inl (cI, 34, .inl z_49))]) hF hA hZ hK hP hD hS (c_X4_put l D cI cB cZ a_start 34 f_start 1 0 z_49 hc_49) rfl gX1_measure_X4_put hdX4_put ⟨rfl, rfl⟩ (Nat.le_of_ble_eq_true rfl) (Nat.le_of_ble_eq_true rfl) [0] [1, 2, 3, 4, 5, 6, 7, 8, 9] rfl rfl rfl rfl (by decide) rfl hl.1 rfl (Nat.le_of_ble_eq_true rfl) (Nat.zero_le _) (Nat.zero_le _) dX1_measure_49 (fun H locs hP hD hS => ?_)
    refine lv_aload_n hx hb dX1_measure_52 rfl (lv_at hl 0 rfl) ?_
    refine va_get (D := D) (ci := 1) (v := .ref a_start) (C := RX1) (T := TX1) (N := 5) hx hb hts u_X1 hown hK hP 0 rfl rfl 3 (by decide) k_f2 (fun _ h9 => h9) rfl dX1_measure_53 ?_
    refine lv_iconst (v := 2) hx hb dX1_measure_56 ic_2 ?_
    refine lv_aload_n hx hb dX1_measure_57 rfl (lv_at hl 0 rfl) ?_
    refine va_get (D := D) (ci := 1) (v := .int z_40.1) (C := RX1) (T := TX1) (N := 5) hx hb hts u_X1 hown hK hP 0 rfl rfl 4 (by decide) k_f1 (fun _ h9 => h9) rfl dX1_measure_58 ?_
    obtain ⟨z_61, hc_61, h⟩ := bd_e h
    refine q_vS (As := [.ref a_start, .int 2, .int z_40.1]) (rest := []) (wF := [(a_o, .inr (1, [.ref a_signs, .ref a_length, .ref a_order, .ref a_start, .int z_40.1])), (a_signs, .inr (4, [.ref a_signs_tongue, .ref a_signs_kept])), (a_signs_tongue, .inr (7, [.ref a_signs_tongue_values, .ref a_signs_tongue_left, .int signs_tongue_choices, .int signs_tongue_worlds])), (a_signs_tongue_values, .inl (cI, 3, .inl f_signs_tongue_values)), (a_signs_tongue_left, .inl (cI, 30, .inl f_signs_tongue_left)), (a_signs_kept, .inr (0, [w_signs_kept_left, w_signs_kept_signs, .ref a_signs_kept_wordSets, .int signs_kept_sayings, .int signs_kept_words, .int signs_kept_filled])), (a_signs_kept_wordSets, .inl (cI, 3, .inl f_signs_kept_wordSets)), (a_length, .inl (cI, 512, .inl z_40.2.1)), (a_order, .inl (cI, 512, .inl z_40.2.2)), (a_start, .inl (cI, 34, .inl z_61))]) hF hA hZ hK hP hD hS (c_X4_put l D cI cB cZ a_start 34 z_49 2 z_40.1 z_61 hc_61) rfl gX1_measure_X4_put hdX4_put ⟨rfl, rfl⟩ (Nat.le_of_ble_eq_true rfl) (Nat.le_of_ble_eq_true rfl) [9] [0, 1, 2, 3, 4, 5, 6, 7, 8] rfl rfl rfl rfl (by decide) rfl hl.1 rfl (Nat.le_of_ble_eq_true rfl) (Nat.zero_le _) (Nat.zero_le _) dX1_measure_61 (fun H locs hP hD hS => ?_)
    refine lv_iconst (v := 2) hx hb dX1_measure_64 ic_2 ?_
    refine lv_istore_n (lv' := [(3, .int 2), (0, .ref a_o), (1, .int p1), (2, .int z_7)]) hx hb dX1_measure_65 rfl hl (by decide) rfl (fun ls hl => ?_)
    have L66 : ∀ (n : Nat), ∀ (x66_l3 : Int32) (x66_o_found : Int32) (x66_f_length : (Nat → Int32)) (x66_f_order : (Nat → Int32)) (x66_f_start : (Nat → Int32)) (H : Heap) (locs : List Loc) (ls : Array Slot), P_X1_measure_66 z_7 n x66_l3 x66_o_found x66_f_length x66_f_order x66_f_start = some z → va_P D vwCl [(a_o, .inr (1, [.ref a_signs, .ref a_length, .ref a_order, .ref a_start, .int x66_o_found])), (a_signs, .inr (4, [.ref a_signs_tongue, .ref a_signs_kept])), (a_signs_tongue, .inr (7, [.ref a_signs_tongue_values, .ref a_signs_tongue_left, .int signs_tongue_choices, .int signs_tongue_worlds])), (a_signs_tongue_values, .inl (cI, 3, .inl f_signs_tongue_values)), (a_signs_tongue_left, .inl (cI, 30, .inl f_signs_tongue_left)), (a_signs_kept, .inr (0, [w_signs_kept_left, w_signs_kept_signs, .ref a_signs_kept_wordSets, .int signs_kept_sayings, .int signs_kept_words, .int signs_kept_filled])), (a_signs_kept_wordSets, .inl (cI, 3, .inl f_signs_kept_wordSets)), (a_length, .inl (cI, 512, .inl x66_f_length)), (a_order, .inl (cI, 512, .inl x66_f_order)), (a_start, .inl (cI, 34, .inl x66_f_start))] H → va_D A [(a_o, .inr (1, [.ref a_signs, .ref a_length, .ref a_order, .ref a_start, .int x66_o_found])), (a_signs, .inr (4, [.ref a_signs_tongue, .ref a_signs_kept])), (a_signs_tongue, .inr (7, [.ref a_signs_tongue_values, .ref a_signs_tongue_left, .int signs_tongue_choices, .int signs_tongue_worlds])), (a_signs_tongue_values, .inl (cI, 3, .inl f_signs_tongue_values)), (a_signs_tongue_left, .inl (cI, 30, .inl f_signs_tongue_left)), (a_signs_kept, .inr (0, [w_signs_kept_left, w_signs_kept_signs, .ref a_signs_kept_wordSets, .int signs_kept_sayings, .int signs_kept_words, .int signs_kept_filled])), (a_signs_kept_wordSets, .inl (cI, 3, .inl f_signs_kept_wordSets)), (a_length, .inl (cI, 512, .inl x66_f_length)), (a_order, .inl (cI, 512, .inl x66_f_order)), (a_start, .inl (cI, 34, .inl x66_f_start))] → va_S A s.heap H locs → lv_has ls 5 [(0, .ref a_o), (2, .int z_7), (3, .int x66_l3)] → W p l e rmX1_measure s m args below meth c H locs 0 0 Q (F0 m 66 ls []) := by
      intro n
      induction n with
      | zero =>
        intro x66_l3 x66_o_found x66_f_length x66_f_order x66_f_start H locs ls h
        exact no_e h
      | succ n ih66 =>
        intro x66_l3 x66_o_found x66_f_length x66_f_order x66_f_start H locs ls h hP hD hS hl
        rw [P_X1_measure_66] at h
        refine lv_iload_n hx hb dX1_measure_66 rfl (lv_at hl 2 rfl) ?_
        refine lv_bipush (v := 32) hx hb dX1_measure_67 bc_32 ?_
        refine lv_icmp_gt (tgt := 128) hx hb dX1_measure_69 (by decide) (fun c_69 => ?_) (fun c_69 => ?_)
        · replace h := it_e c_69 h
          have hz := Option.some.inj h
          subst hz
          exact hret H locs 128 ls hP hD hS dX1_measure_128
        · replace h := if_e c_69 h
          refine lv_aload_n hx hb dX1_measure_72 rfl (lv_at hl 0 rfl) ?_
          refine va_get (D := D) (ci := 1) (v := .int x66_o_found) (C := RX1) (T := TX1) (N := 5) hx hb hts u_X1 hown hK hP 0 rfl rfl 4 (by decide) k_f1 (fun _ h9 => h9) rfl dX1_measure_73 ?_
          refine lv_iload_n hx hb dX1_measure_76 rfl (lv_at hl 1 rfl) ?_
          refine lv_icmp_gt (tgt := 128) hx hb dX1_measure_77 (by decide) (fun c_77 => ?_) (fun c_77 => ?_)
          · replace h := it_e c_77 h
            have hz := Option.some.inj h
            subst hz
            exact hret H locs 128 ls hP hD hS dX1_measure_128
          · replace h := if_e c_77 h
            refine lv_iconst (v := 1) hx hb dX1_measure_80 ic_1 ?_
            refine lv_istore (lv' := [(4, .int 1), (0, .ref a_o), (2, .int z_7), (3, .int x66_l3)]) hx hb dX1_measure_81 hl (by decide) rfl (fun ls hl => ?_)
            obtain ⟨k108, hk108, h⟩ := jn_e h
            have Jk108 : ∀ (x108_o_found : Int32) (x108_f_length : (Nat → Int32)) (x108_f_order : (Nat → Int32)) (H : Heap) (locs : List Loc) (ls : Array Slot), k108 x108_o_found x108_f_length x108_f_order = some z → va_P D vwCl [(a_o, .inr (1, [.ref a_signs, .ref a_length, .ref a_order, .ref a_start, .int x108_o_found])), (a_signs, .inr (4, [.ref a_signs_tongue, .ref a_signs_kept])), (a_signs_tongue, .inr (7, [.ref a_signs_tongue_values, .ref a_signs_tongue_left, .int signs_tongue_choices, .int signs_tongue_worlds])), (a_signs_tongue_values, .inl (cI, 3, .inl f_signs_tongue_values)), (a_signs_tongue_left, .inl (cI, 30, .inl f_signs_tongue_left)), (a_signs_kept, .inr (0, [w_signs_kept_left, w_signs_kept_signs, .ref a_signs_kept_wordSets, .int signs_kept_sayings, .int signs_kept_words, .int signs_kept_filled])), (a_signs_kept_wordSets, .inl (cI, 3, .inl f_signs_kept_wordSets)), (a_length, .inl (cI, 512, .inl x108_f_length)), (a_order, .inl (cI, 512, .inl x108_f_order)), (a_start, .inl (cI, 34, .inl x66_f_start))] H → va_D A [(a_o, .inr (1, [.ref a_signs, .ref a_length, .ref a_order, .ref a_start, .int x108_o_found])), (a_signs, .inr (4, [.ref a_signs_tongue, .ref a_signs_kept])), (a_signs_tongue, .inr (7, [.ref a_signs_tongue_values, .ref a_signs_tongue_left, .int signs_tongue_choices, .int signs_tongue_worlds])), (a_signs_tongue_values, .inl (cI, 3, .inl f_signs_tongue_values)), (a_signs_tongue_left, .inl (cI, 30, .inl f_signs_tongue_left)), (a_signs_kept, .inr (0, [w_signs_kept_left, w_signs_kept_signs, .ref a_signs_kept_wordSets, .int signs_kept_sayings, .int signs_kept_words, .int signs_kept_filled])), (a_signs_kept_wordSets, .inl (cI, 3, .inl f_signs_kept_wordSets)), (a_length, .inl (cI, 512, .inl x108_f_length)), (a_order, .inl (cI, 512, .inl x108_f_order)), (a_start, .inl (cI, 34, .inl x66_f_start))] → va_S A s.heap H locs → lv_has ls 5 [(0, .ref a_o), (2, .int z_7), (3, .int x66_l3)] → W p l e rmX1_measure s m args below meth c H locs 0 0 Q (F0 m 108 ls []) := by
              intro x108_o_found x108_f_length x108_f_order H locs ls h hP hD hS hl
              rw [hk108] at h
              refine lv_aload_n hx hb dX1_measure_108 rfl (lv_at hl 0 rfl) ?_
              refine va_get (D := D) (ci := 1) (v := .ref a_start) (C := RX1) (T := TX1) (N := 5) hx hb hts u_X1 hown hK hP 0 rfl rfl 3 (by decide) k_f2 (fun _ h9 => h9) rfl dX1_measure_109 ?_
              refine lv_iload_n hx hb dX1_measure_112 rfl (lv_at hl 2 rfl) ?_
              refine lv_iconst (v := 1) hx hb dX1_measure_113 ic_1 ?_
              refine lv_iadd hx hb dX1_measure_114 ?_
              refine lv_aload_n hx hb dX1_measure_115 rfl (lv_at hl 0 rfl) ?_
              refine va_get (D := D) (ci := 1) (v := .int x108_o_found) (C := RX1) (T := TX1) (N := 5) hx hb hts u_X1 hown hK hP 0 rfl rfl 4 (by decide) k_f1 (fun _ h9 => h9) rfl dX1_measure_116 ?_
              obtain ⟨z_119, hc_119, h⟩ := bd_e h
              refine q_vS (As := [.ref a_start, .int (x66_l3 + 1), .int x108_o_found]) (rest := []) (wF := [(a_o, .inr (1, [.ref a_signs, .ref a_length, .ref a_order, .ref a_start, .int x108_o_found])), (a_signs, .inr (4, [.ref a_signs_tongue, .ref a_signs_kept])), (a_signs_tongue, .inr (7, [.ref a_signs_tongue_values, .ref a_signs_tongue_left, .int signs_tongue_choices, .int signs_tongue_worlds])), (a_signs_tongue_values, .inl (cI, 3, .inl f_signs_tongue_values)), (a_signs_tongue_left, .inl (cI, 30, .inl f_signs_tongue_left)), (a_signs_kept, .inr (0, [w_signs_kept_left, w_signs_kept_signs, .ref a_signs_kept_wordSets, .int signs_kept_sayings, .int signs_kept_words, .int signs_kept_filled])), (a_signs_kept_wordSets, .inl (cI, 3, .inl f_signs_kept_wordSets)), (a_length, .inl (cI, 512, .inl x108_f_length)), (a_order, .inl (cI, 512, .inl x108_f_order)), (a_start, .inl (cI, 34, .inl z_119))]) hF hA hZ hK hP hD hS (c_X4_put l D cI cB cZ a_start 34 x66_f_start (x66_l3 + 1) x108_o_found z_119 hc_119) rfl gX1_measure_X4_put hdX4_put ⟨rfl, rfl⟩ (Nat.le_of_ble_eq_true rfl) (Nat.le_of_ble_eq_true rfl) [9] [0, 1, 2, 3, 4, 5, 6, 7, 8] rfl rfl rfl rfl (by decide) rfl hl.1 rfl (Nat.le_of_ble_eq_true rfl) (Nat.zero_le _) (Nat.zero_le _) dX1_measure_119 (fun H locs hP hD hS => ?_)
              refine lv_iinc (v := x66_l3 + 1) (lv' := [(3, .int (x66_l3 + 1)), (0, .ref a_o), (2, .int z_7)]) hx hb dX1_measure_122 hl (k := 2) rfl (congrArg (x66_l3 + ·) ic_1) (by decide) rfl (fun ls hl => ?_)
              refine lv_goto (tgt := 66) hx hb dX1_measure_125 (by decide) ?_
              exact ih66 (x66_l3 + 1) x108_o_found x108_f_length x108_f_order z_119 H locs ls h hP hD hS (lv_sub hl [1, 2, 0] rfl)
            have L83 : ∀ (n : Nat), ∀ (x83_l4 : Int32) (x83_o_found : Int32) (x83_f_length : (Nat → Int32)) (x83_f_order : (Nat → Int32)) (H : Heap) (locs : List Loc) (ls : Array Slot), P_X1_measure_83 x66_l3 x66_f_start k108 n x83_l4 x83_o_found x83_f_length x83_f_order = some z → va_P D vwCl [(a_o, .inr (1, [.ref a_signs, .ref a_length, .ref a_order, .ref a_start, .int x83_o_found])), (a_signs, .inr (4, [.ref a_signs_tongue, .ref a_signs_kept])), (a_signs_tongue, .inr (7, [.ref a_signs_tongue_values, .ref a_signs_tongue_left, .int signs_tongue_choices, .int signs_tongue_worlds])), (a_signs_tongue_values, .inl (cI, 3, .inl f_signs_tongue_values)), (a_signs_tongue_left, .inl (cI, 30, .inl f_signs_tongue_left)), (a_signs_kept, .inr (0, [w_signs_kept_left, w_signs_kept_signs, .ref a_signs_kept_wordSets, .int signs_kept_sayings, .int signs_kept_words, .int signs_kept_filled])), (a_signs_kept_wordSets, .inl (cI, 3, .inl f_signs_kept_wordSets)), (a_length, .inl (cI, 512, .inl x83_f_length)), (a_order, .inl (cI, 512, .inl x83_f_order)), (a_start, .inl (cI, 34, .inl x66_f_start))] H → va_D A [(a_o, .inr (1, [.ref a_signs, .ref a_length, .ref a_order, .ref a_start, .int x83_o_found])), (a_signs, .inr (4, [.ref a_signs_tongue, .ref a_signs_kept])), (a_signs_tongue, .inr (7, [.ref a_signs_tongue_values, .ref a_signs_tongue_left, .int signs_tongue_choices, .int signs_tongue_worlds])), (a_signs_tongue_values, .inl (cI, 3, .inl f_signs_tongue_values)), (a_signs_tongue_left, .inl (cI, 30, .inl f_signs_tongue_left)), (a_signs_kept, .inr (0, [w_signs_kept_left, w_signs_kept_signs, .ref a_signs_kept_wordSets, .int signs_kept_sayings, .int signs_kept_words, .int signs_kept_filled])), (a_signs_kept_wordSets, .inl (cI, 3, .inl f_signs_kept_wordSets)), (a_length, .inl (cI, 512, .inl x83_f_length)), (a_order, .inl (cI, 512, .inl x83_f_order)), (a_start, .inl (cI, 34, .inl x66_f_start))] → va_S A s.heap H locs → lv_has ls 5 [(0, .ref a_o), (2, .int z_7), (3, .int x66_l3), (4, .int x83_l4)] → W p l e rmX1_measure s m args below meth c H locs 0 0 Q (F0 m 83 ls []) := by
              intro n
              induction n with
              | zero =>
                intro x83_l4 x83_o_found x83_f_length x83_f_order H locs ls h
                exact no_e h
              | succ n ih83 =>
                intro x83_l4 x83_o_found x83_f_length x83_f_order H locs ls h hP hD hS hl
                rw [P_X1_measure_83] at h
                refine lv_iload hx hb dX1_measure_83 (lv_at hl 3 rfl) ?_
                refine lv_iload_n hx hb dX1_measure_85 rfl (lv_at hl 2 rfl) ?_
                refine lv_iload hx hb dX1_measure_86 (lv_at hl 3 rfl) ?_
                refine lv_isub hx hb dX1_measure_88 ?_
                refine lv_icmp_gt (tgt := 108) hx hb dX1_measure_89 (by decide) (fun c_89 => ?_) (fun c_89 => ?_)
                · replace h := it_e c_89 h
                  exact Jk108 x83_o_found x83_f_length x83_f_order H locs ls h hP hD hS (lv_sub hl [0, 1, 2] rfl)
                · replace h := if_e c_89 h
                  refine lv_aload_n hx hb dX1_measure_92 rfl (lv_at hl 0 rfl) ?_
                  refine lv_iload hx hb dX1_measure_93 (lv_at hl 3 rfl) ?_
                  refine lv_iload_n hx hb dX1_measure_95 rfl (lv_at hl 2 rfl) ?_
                  refine lv_iload hx hb dX1_measure_96 (lv_at hl 3 rfl) ?_
                  refine lv_isub hx hb dX1_measure_98 ?_
                  obtain ⟨z_99, hc_99, h⟩ := bd_e h
                  refine q_vV (As := [.int x83_l4, .int (x66_l3 - x83_l4)]) (rest := []) (wF := [(a_signs, .inr (4, [.ref a_signs_tongue, .ref a_signs_kept])), (a_signs_tongue, .inr (7, [.ref a_signs_tongue_values, .ref a_signs_tongue_left, .int signs_tongue_choices, .int signs_tongue_worlds])), (a_signs_tongue_values, .inl (cI, 3, .inl f_signs_tongue_values)), (a_signs_tongue_left, .inl (cI, 30, .inl f_signs_tongue_left)), (a_signs_kept, .inr (0, [w_signs_kept_left, w_signs_kept_signs, .ref a_signs_kept_wordSets, .int signs_kept_sayings, .int signs_kept_words, .int signs_kept_filled])), (a_signs_kept_wordSets, .inl (cI, 3, .inl f_signs_kept_wordSets)), (a_o, .inr (1, [.ref a_signs, .ref a_length, .ref a_order, .ref a_start, .int z_99.1])), (a_length, .inl (cI, 512, .inl z_99.2.1)), (a_order, .inl (cI, 512, .inl z_99.2.2)), (a_start, .inl (cI, 34, .inl x66_f_start))]) hF hA hZ hK hP hD hS (c_X1_join l D cI cB cZ a_o (.ref a_signs) x83_o_found a_length x83_f_length a_order x83_f_order a_start x66_f_start x83_l4 (x66_l3 - x83_l4) z_99 hc_99) rfl gX1_measure_X1_join hdX1_join ⟨rfl, rfl⟩ (Nat.le_of_ble_eq_true rfl) (Nat.le_of_ble_eq_true rfl) 1 0 rfl rfl [0, 7, 8, 9] [1, 2, 3, 4, 5, 6] rfl rfl rfl rfl (by decide) rfl hl.1 rfl (Nat.le_of_ble_eq_true rfl) (Nat.zero_le _) (Nat.zero_le _) dX1_measure_99 (fun H locs hP hD hS => ?_)
                  refine lv_iinc (v := x83_l4 + 1) (lv' := [(4, .int (x83_l4 + 1)), (0, .ref a_o), (2, .int z_7), (3, .int x66_l3)]) hx hb dX1_measure_102 hl (k := 3) rfl (congrArg (x83_l4 + ·) ic_1) (by decide) rfl (fun ls hl => ?_)
                  refine lv_goto (tgt := 83) hx hb dX1_measure_105 (by decide) ?_
                  exact ih83 (x83_l4 + 1) z_99.1 z_99.2.1 z_99.2.2 H locs ls h (hP.sub [6, 0, 1, 2, 3, 4, 5, 7, 8, 9] rfl) (hD.sub [6, 0, 1, 2, 3, 4, 5, 7, 8, 9] (by decide) rfl) hS (lv_sub hl [1, 2, 3, 0] rfl)
            exact L83 QF 1 x66_o_found x66_f_length x66_f_order H locs ls h hP hD hS (lv_sub hl [1, 2, 3, 0] rfl)
    exact L66 QF 2 z_40.1 z_40.2.1 z_40.2.2 z_61 H locs ls h hP hD hS (lv_sub hl [1, 3, 0] rfl)
  have L13 : ∀ (n : Nat), ∀ (x13_l3 : Int32) (x13_f_length : (Nat → Int32)) (H : Heap) (locs : List Loc) (ls : Array Slot), P_X1_measure_13 z_7 k33 n x13_l3 x13_f_length = some z → va_P D vwCl [(a_o, .inr (1, [.ref a_signs, .ref a_length, .ref a_order, .ref a_start, .int o_found])), (a_signs_tongue_values, .inl (cI, 3, .inl f_signs_tongue_values)), (a_signs_tongue_left, .inl (cI, 30, .inl f_signs_tongue_left)), (a_signs_kept, .inr (0, [w_signs_kept_left, w_signs_kept_signs, .ref a_signs_kept_wordSets, .int signs_kept_sayings, .int signs_kept_words, .int signs_kept_filled])), (a_signs_kept_wordSets, .inl (cI, 3, .inl f_signs_kept_wordSets)), (a_length, .inl (cI, 512, .inl x13_f_length)), (a_order, .inl (cI, 512, .inl f_order)), (a_start, .inl (cI, 34, .inl f_start)), (a_signs, .inr (4, [.ref a_signs_tongue, .ref a_signs_kept])), (a_signs_tongue, .inr (7, [.ref a_signs_tongue_values, .ref a_signs_tongue_left, .int signs_tongue_choices, .int signs_tongue_worlds]))] H → va_D A [(a_o, .inr (1, [.ref a_signs, .ref a_length, .ref a_order, .ref a_start, .int o_found])), (a_signs_tongue_values, .inl (cI, 3, .inl f_signs_tongue_values)), (a_signs_tongue_left, .inl (cI, 30, .inl f_signs_tongue_left)), (a_signs_kept, .inr (0, [w_signs_kept_left, w_signs_kept_signs, .ref a_signs_kept_wordSets, .int signs_kept_sayings, .int signs_kept_words, .int signs_kept_filled])), (a_signs_kept_wordSets, .inl (cI, 3, .inl f_signs_kept_wordSets)), (a_length, .inl (cI, 512, .inl x13_f_length)), (a_order, .inl (cI, 512, .inl f_order)), (a_start, .inl (cI, 34, .inl f_start)), (a_signs, .inr (4, [.ref a_signs_tongue, .ref a_signs_kept])), (a_signs_tongue, .inr (7, [.ref a_signs_tongue_values, .ref a_signs_tongue_left, .int signs_tongue_choices, .int signs_tongue_worlds]))] → va_S A s.heap H locs → lv_has ls 5 [(0, .ref a_o), (1, .int p1), (2, .int z_7), (3, .int x13_l3)] → W p l e rmX1_measure s m args below meth c H locs 0 0 Q (F0 m 13 ls []) := by
    intro n
    induction n with
    | zero =>
      intro x13_l3 x13_f_length H locs ls h
      exact no_e h
    | succ n ih13 =>
      intro x13_l3 x13_f_length H locs ls h hP hD hS hl
      rw [P_X1_measure_13] at h
      refine lv_iload_n hx hb dX1_measure_13 rfl (lv_at hl 3 rfl) ?_
      refine lv_iload_n hx hb dX1_measure_14 rfl (lv_at hl 2 rfl) ?_
      refine lv_icmp_gt (tgt := 33) hx hb dX1_measure_15 (by decide) (fun c_15 => ?_) (fun c_15 => ?_)
      · replace h := it_e c_15 h
        exact Jk33 x13_f_length H locs ls h hP hD hS (lv_sub hl [0, 1, 2] rfl)
      · replace h := if_e c_15 h
        refine lv_aload_n hx hb dX1_measure_18 rfl (lv_at hl 0 rfl) ?_
        refine va_get (D := D) (ci := 1) (v := .ref a_length) (C := RX1) (T := TX1) (N := 5) hx hb hts u_X1 hown hK hP 0 rfl rfl 1 (by decide) k_f3 (fun _ h9 => h9) rfl dX1_measure_19 ?_
        refine lv_iload_n hx hb dX1_measure_22 rfl (lv_at hl 3 rfl) ?_
        refine lv_iconst (v := 0) hx hb dX1_measure_23 ic_0 ?_
        obtain ⟨z_24, hc_24, h⟩ := bd_e h
        refine q_vS (As := [.ref a_length, .int x13_l3, .int 0]) (rest := []) (wF := [(a_o, .inr (1, [.ref a_signs, .ref a_length, .ref a_order, .ref a_start, .int o_found])), (a_signs_tongue_values, .inl (cI, 3, .inl f_signs_tongue_values)), (a_signs_tongue_left, .inl (cI, 30, .inl f_signs_tongue_left)), (a_signs_kept, .inr (0, [w_signs_kept_left, w_signs_kept_signs, .ref a_signs_kept_wordSets, .int signs_kept_sayings, .int signs_kept_words, .int signs_kept_filled])), (a_signs_kept_wordSets, .inl (cI, 3, .inl f_signs_kept_wordSets)), (a_order, .inl (cI, 512, .inl f_order)), (a_start, .inl (cI, 34, .inl f_start)), (a_signs, .inr (4, [.ref a_signs_tongue, .ref a_signs_kept])), (a_signs_tongue, .inr (7, [.ref a_signs_tongue_values, .ref a_signs_tongue_left, .int signs_tongue_choices, .int signs_tongue_worlds])), (a_length, .inl (cI, 512, .inl z_24))]) hF hA hZ hK hP hD hS (c_X4_put l D cI cB cZ a_length 512 x13_f_length x13_l3 0 z_24 hc_24) rfl gX1_measure_X4_put hdX4_put ⟨rfl, rfl⟩ (Nat.le_of_ble_eq_true rfl) (Nat.le_of_ble_eq_true rfl) [5] [0, 1, 2, 3, 4, 6, 7, 8, 9] rfl rfl rfl rfl (by decide) rfl hl.1 rfl (Nat.le_of_ble_eq_true rfl) (Nat.zero_le _) (Nat.zero_le _) dX1_measure_24 (fun H locs hP hD hS => ?_)
        refine lv_iinc (v := x13_l3 + 1) (lv' := [(3, .int (x13_l3 + 1)), (0, .ref a_o), (1, .int p1), (2, .int z_7)]) hx hb dX1_measure_27 hl (k := 3) rfl (congrArg (x13_l3 + ·) ic_1) (by decide) rfl (fun ls hl => ?_)
        refine lv_goto (tgt := 13) hx hb dX1_measure_30 (by decide) ?_
        exact ih13 (x13_l3 + 1) z_24 H locs ls h (hP.sub [0, 1, 2, 3, 4, 9, 5, 6, 7, 8] rfl) (hD.sub [0, 1, 2, 3, 4, 9, 5, 6, 7, 8] (by decide) rfl) hS (lv_sub hl [1, 2, 3, 0] rfl)
  exact L13 QF 0 f_length H locs ls h hP hD hS (lv_sub hl [2, 3, 1, 0] rfl)
abbrev rmX10_lengthsNow : Room := { frames := 5, cells := 0, slots := 0, locals := 112 }
theorem hdX10_lengthsNow : yX10_lengthsNow.cls = RX10 ∧ yX10_lengthsNow.cls ≠ "java/lang/invoke/MethodHandle" ∧ yX10_lengthsNow.cls ≠ "java/lang/invoke/VarHandle" ∧ (parseMethodDescriptor yX10_lengthsNow.desc).map (fun d => d.parameters.length) = some 0 := by decide +kernel
set_option maxRecDepth 100000 in
set_option maxHeartbeats 4000000 in
theorem c_X10_lengthsNow (l : Launch) (D : va_G) (cI cB cZ : ClassId) (a_o : Nat) (w_o_text : Value) (w_o_image0 : Value) (w_o_image1 : Value) (w_o_reader : Value) (w_o_refusals : Value) (w_o_two : Value) (o_measured : Int32) (o_traced : Int64) (a_speech : Nat) (speech_choices : Int32) (speech_worlds : Int32) (a_speech_values : Nat) (f_speech_values : Nat → Int32) (a_speech_left : Nat) (f_speech_left : Nat → Int32) (a_now : Nat) (w_now_left : Value) (w_now_signs : Value) (now_sayings : Int32) (now_words : Int32) (now_filled : Int32) (a_now_wordSets : Nat) (f_now_wordSets : Nat → Int32) (a_signs : Nat) (a_lengths : Nat) (lengths_found : Int32) (a_lengths_length : Nat) (f_lengths_length : Nat → Int32) (a_lengths_order : Nat) (f_lengths_order : Nat → Int32) (a_lengths_start : Nat) (f_lengths_start : Nat → Int32) (z : Int32 × Int32 × (Nat → Int32) × (Nat → Int32) × (Nat → Int32)) (h : P_X10_lengthsNow o_measured speech_choices speech_worlds f_speech_values f_speech_left now_words f_now_wordSets lengths_found f_lengths_length f_lengths_order f_lengths_start = some z) : KR l yX10_lengthsNow wsX10_lengthsNow rmX10_lengthsNow D [(cI, .int), (cB, .byte), (cZ, .boolean)] [.ref a_o] [(a_o, .inr (9, [w_o_text, .ref a_speech, .ref a_now, w_o_image0, w_o_image1, .ref a_signs, w_o_reader, .ref a_lengths, w_o_refusals, w_o_two, .int o_measured, .long o_traced])), (a_speech, .inr (7, [.ref a_speech_values, .ref a_speech_left, .int speech_choices, .int speech_worlds])), (a_speech_values, .inl (cI, 3, .inl f_speech_values)), (a_speech_left, .inl (cI, 30, .inl f_speech_left)), (a_now, .inr (0, [w_now_left, w_now_signs, .ref a_now_wordSets, .int now_sayings, .int now_words, .int now_filled])), (a_now_wordSets, .inl (cI, 3, .inl f_now_wordSets)), (a_signs, .inr (4, [.ref a_speech, .ref a_now])), (a_lengths, .inr (1, [.ref a_signs, .ref a_lengths_length, .ref a_lengths_order, .ref a_lengths_start, .int lengths_found])), (a_lengths_length, .inl (cI, 512, .inl f_lengths_length)), (a_lengths_order, .inl (cI, 512, .inl f_lengths_order)), (a_lengths_start, .inl (cI, 34, .inl f_lengths_start))] [(a_o, .inr (9, [w_o_text, .ref a_speech, .ref a_now, w_o_image0, w_o_image1, .ref a_signs, w_o_reader, .ref a_lengths, w_o_refusals, w_o_two, .int z.1, .long o_traced])), (a_speech, .inr (7, [.ref a_speech_values, .ref a_speech_left, .int speech_choices, .int speech_worlds])), (a_speech_values, .inl (cI, 3, .inl f_speech_values)), (a_speech_left, .inl (cI, 30, .inl f_speech_left)), (a_now, .inr (0, [w_now_left, w_now_signs, .ref a_now_wordSets, .int now_sayings, .int now_words, .int now_filled])), (a_now_wordSets, .inl (cI, 3, .inl f_now_wordSets)), (a_signs, .inr (4, [.ref a_speech, .ref a_now])), (a_lengths, .inr (1, [.ref a_signs, .ref a_lengths_length, .ref a_lengths_order, .ref a_lengths_start, .int z.2.1])), (a_lengths_length, .inl (cI, 512, .inl z.2.2.1)), (a_lengths_order, .inl (cI, 512, .inl z.2.2.2.1)), (a_lengths_start, .inl (cI, 34, .inl z.2.2.2.2))] a_lengths := by
  refine KR_of (own := RX10) (cc := cX10_lengthsNow) (maxL := 1) (by decide) rfl rfl (Nat.le_of_ble_eq_true rfl) (Or.inl ⟨_, rfl⟩) ?_
  intro p e s m args below meth c A Q hx hb hml hown hts hA hZ hK hret H locs ls hP hD hS hl
  have hl : lv_has ls 1 [(0, .ref a_o)] := hl
  have hF : CallFix p m c cX10_lengthsNow 1 s args wsX10_lengthsNow RX10 := ⟨hx, hb, hml, hown, hts⟩
  have u_X10 : ∀ w ∈ u_ws RX10 TX10 12, w ∈ wsX10_lengthsNow := by decide +kernel
  have k_f0 := hts (.fieldLink RX10 81 "NoWordNo" "measured" "Z") (by decide +kernel)
  have k_f1 := hts (.fieldLink RX10 59 "NoWordNo" "lengths" "LNoWordNo$Lengths;") (by decide +kernel)
  unfold P_X10_lengthsNow at h
  refine lv_aload_n hx hb dX10_lengthsNow_0 rfl (lv_at hl 0 rfl) ?_
  refine va_get (D := D) (ci := 9) (v := .int o_measured) (C := RX10) (T := TX10) (N := 12) hx hb hts u_X10 hown hK hP 0 rfl rfl 10 (by decide) k_f0 (fun _ h9 => h9) rfl dX10_lengthsNow_1 ?_
  obtain ⟨j20, hj20, h⟩ := jn_e h
  have Jj20 : ∀ (x20_o_measured : Int32) (x20_lengths_found : Int32) (x20_f_lengths_length : (Nat → Int32)) (x20_f_lengths_order : (Nat → Int32)) (x20_f_lengths_start : (Nat → Int32)) (H : Heap) (locs : List Loc) (ls : Array Slot), j20 x20_o_measured x20_lengths_found x20_f_lengths_length x20_f_lengths_order x20_f_lengths_start = some z → va_P D vwCl [(a_o, .inr (9, [w_o_text, .ref a_speech, .ref a_now, w_o_image0, w_o_image1, .ref a_signs, w_o_reader, .ref a_lengths, w_o_refusals, w_o_two, .int x20_o_measured, .long o_traced])), (a_speech, .inr (7, [.ref a_speech_values, .ref a_speech_left, .int speech_choices, .int speech_worlds])), (a_speech_values, .inl (cI, 3, .inl f_speech_values)), (a_speech_left, .inl (cI, 30, .inl f_speech_left)), (a_now, .inr (0, [w_now_left, w_now_signs, .ref a_now_wordSets, .int now_sayings, .int now_words, .int now_filled])), (a_now_wordSets, .inl (cI, 3, .inl f_now_wordSets)), (a_signs, .inr (4, [.ref a_speech, .ref a_now])), (a_lengths, .inr (1, [.ref a_signs, .ref a_lengths_length, .ref a_lengths_order, .ref a_lengths_start, .int x20_lengths_found])), (a_lengths_length, .inl (cI, 512, .inl x20_f_lengths_length)), (a_lengths_order, .inl (cI, 512, .inl x20_f_lengths_order)), (a_lengths_start, .inl (cI, 34, .inl x20_f_lengths_start))] H → va_D A [(a_o, .inr (9, [w_o_text, .ref a_speech, .ref a_now, w_o_image0, w_o_image1, .ref a_signs, w_o_reader, .ref a_lengths, w_o_refusals, w_o_two, .int x20_o_measured, .long o_traced])), (a_speech, .inr (7, [.ref a_speech_values, .ref a_speech_left, .int speech_choices, .int speech_worlds])), (a_speech_values, .inl (cI, 3, .inl f_speech_values)), (a_speech_left, .inl (cI, 30, .inl f_speech_left)), (a_now, .inr (0, [w_now_left, w_now_signs, .ref a_now_wordSets, .int now_sayings, .int now_words, .int now_filled])), (a_now_wordSets, .inl (cI, 3, .inl f_now_wordSets)), (a_signs, .inr (4, [.ref a_speech, .ref a_now])), (a_lengths, .inr (1, [.ref a_signs, .ref a_lengths_length, .ref a_lengths_order, .ref a_lengths_start, .int x20_lengths_found])), (a_lengths_length, .inl (cI, 512, .inl x20_f_lengths_length)), (a_lengths_order, .inl (cI, 512, .inl x20_f_lengths_order)), (a_lengths_start, .inl (cI, 34, .inl x20_f_lengths_start))] → va_S A s.heap H locs → lv_has ls 1 [(0, .ref a_o)] → W p l e rmX10_lengthsNow s m args below meth c H locs 0 0 Q (F0 m 20 ls []) := by
    intro x20_o_measured x20_lengths_found x20_f_lengths_length x20_f_lengths_order x20_f_lengths_start H locs ls h hP hD hS hl
    rw [hj20] at h
    refine lv_aload_n hx hb dX10_lengthsNow_20 rfl (lv_at hl 0 rfl) ?_
    refine va_get (D := D) (ci := 9) (v := .ref a_lengths) (C := RX10) (T := TX10) (N := 12) hx hb hts u_X10 hown hK hP 0 rfl rfl 7 (by decide) k_f1 (fun _ h9 => h9) rfl dX10_lengthsNow_21 ?_
    have hz := Option.some.inj h
    subst hz
    exact hret H locs 24 ls hP hD hS dX10_lengthsNow_24
  refine lv_if_ne (tgt := 20) hx hb dX10_lengthsNow_4 (by decide) (fun c_4 => ?_) (fun c_4 => ?_)
  · replace h := if_e c_4 h
    exact Jj20 o_measured lengths_found f_lengths_length f_lengths_order f_lengths_start H locs ls h hP hD hS hl
  · replace h := it_e c_4 h
    refine lv_aload_n hx hb dX10_lengthsNow_7 rfl (lv_at hl 0 rfl) ?_
    refine va_get (D := D) (ci := 9) (v := .ref a_lengths) (C := RX10) (T := TX10) (N := 12) hx hb hts u_X10 hown hK hP 0 rfl rfl 7 (by decide) k_f1 (fun _ h9 => h9) rfl dX10_lengthsNow_8 ?_
    refine lv_iconst (v := (-1)) hx hb dX10_lengthsNow_11 ic_m1 ?_
    obtain ⟨z_12, hc_12, h⟩ := bd_e h
    refine q_vV (As := [.int (-1)]) (rest := []) (wF := [(a_o, .inr (9, [w_o_text, .ref a_speech, .ref a_now, w_o_image0, w_o_image1, .ref a_signs, w_o_reader, .ref a_lengths, w_o_refusals, w_o_two, .int o_measured, .long o_traced])), (a_lengths, .inr (1, [.ref a_signs, .ref a_lengths_length, .ref a_lengths_order, .ref a_lengths_start, .int z_12.1])), (a_signs, .inr (4, [.ref a_speech, .ref a_now])), (a_speech, .inr (7, [.ref a_speech_values, .ref a_speech_left, .int speech_choices, .int speech_worlds])), (a_speech_values, .inl (cI, 3, .inl f_speech_values)), (a_speech_left, .inl (cI, 30, .inl f_speech_left)), (a_now, .inr (0, [w_now_left, w_now_signs, .ref a_now_wordSets, .int now_sayings, .int now_words, .int now_filled])), (a_now_wordSets, .inl (cI, 3, .inl f_now_wordSets)), (a_lengths_length, .inl (cI, 512, .inl z_12.2.1)), (a_lengths_order, .inl (cI, 512, .inl z_12.2.2.1)), (a_lengths_start, .inl (cI, 34, .inl z_12.2.2.2))]) hF hA hZ hK hP hD hS (c_X1_measure l D cI cB cZ a_lengths lengths_found a_signs a_speech speech_choices speech_worlds a_speech_values f_speech_values a_speech_left f_speech_left a_now w_now_left w_now_signs now_sayings now_words now_filled a_now_wordSets f_now_wordSets a_lengths_length f_lengths_length a_lengths_order f_lengths_order a_lengths_start f_lengths_start (-1) z_12 hc_12) rfl gX10_lengthsNow_X1_measure hdX1_measure ⟨rfl, rfl⟩ (Nat.le_of_ble_eq_true rfl) (Nat.le_of_ble_eq_true rfl) 1 0 rfl rfl [7, 6, 1, 2, 3, 4, 5, 8, 9, 10] [0] rfl rfl rfl rfl (by decide) rfl hl.1 rfl (Nat.le_of_ble_eq_true rfl) (Nat.zero_le _) (Nat.zero_le _) dX10_lengthsNow_12 (fun H locs hP hD hS => ?_)
    refine lv_aload_n hx hb dX10_lengthsNow_15 rfl (lv_at hl 0 rfl) ?_
    refine lv_iconst (v := 1) hx hb dX10_lengthsNow_16 ic_1 ?_
    refine va_put (D := D) (ci := 9) (v := .int 1) (ty := .boolean) (C := RX10) (T := TX10) (N := 12) hx hb hts u_X10 tyX10 tyX10_ok nmX10 hown hK hP hD hS 0 rfl rfl 10 (by decide) k_f0 (fun _ h9 => h9) rfl (tyX10_ok 10 (by decide)) rfl rfl (Nat.le_of_ble_eq_true rfl) dX10_lengthsNow_17 (fun H locs hP hD hS => ?_)
    have hP : va_P D vwCl [(a_o, .inr (9, [w_o_text, .ref a_speech, .ref a_now, w_o_image0, w_o_image1, .ref a_signs, w_o_reader, .ref a_lengths, w_o_refusals, w_o_two, .int 1, .long o_traced])), (a_lengths, .inr (1, [.ref a_signs, .ref a_lengths_length, .ref a_lengths_order, .ref a_lengths_start, .int z_12.1])), (a_signs, .inr (4, [.ref a_speech, .ref a_now])), (a_speech, .inr (7, [.ref a_speech_values, .ref a_speech_left, .int speech_choices, .int speech_worlds])), (a_speech_values, .inl (cI, 3, .inl f_speech_values)), (a_speech_left, .inl (cI, 30, .inl f_speech_left)), (a_now, .inr (0, [w_now_left, w_now_signs, .ref a_now_wordSets, .int now_sayings, .int now_words, .int now_filled])), (a_now_wordSets, .inl (cI, 3, .inl f_now_wordSets)), (a_lengths_length, .inl (cI, 512, .inl z_12.2.1)), (a_lengths_order, .inl (cI, 512, .inl z_12.2.2.1)), (a_lengths_start, .inl (cI, 34, .inl z_12.2.2.2))] H := hP
    have hD : va_D A [(a_o, .inr (9, [w_o_text, .ref a_speech, .ref a_now, w_o_image0, w_o_image1, .ref a_signs, w_o_reader, .ref a_lengths, w_o_refusals, w_o_two, .int 1, .long o_traced])), (a_lengths, .inr (1, [.ref a_signs, .ref a_lengths_length, .ref a_lengths_order, .ref a_lengths_start, .int z_12.1])), (a_signs, .inr (4, [.ref a_speech, .ref a_now])), (a_speech, .inr (7, [.ref a_speech_values, .ref a_speech_left, .int speech_choices, .int speech_worlds])), (a_speech_values, .inl (cI, 3, .inl f_speech_values)), (a_speech_left, .inl (cI, 30, .inl f_speech_left)), (a_now, .inr (0, [w_now_left, w_now_signs, .ref a_now_wordSets, .int now_sayings, .int now_words, .int now_filled])), (a_now_wordSets, .inl (cI, 3, .inl f_now_wordSets)), (a_lengths_length, .inl (cI, 512, .inl z_12.2.1)), (a_lengths_order, .inl (cI, 512, .inl z_12.2.2.1)), (a_lengths_start, .inl (cI, 34, .inl z_12.2.2.2))] := hD
    exact Jj20 1 z_12.1 z_12.2.1 z_12.2.2.1 z_12.2.2.2 H locs ls h (hP.sub [0, 3, 4, 5, 6, 7, 2, 1, 8, 9, 10] rfl) (hD.sub [0, 3, 4, 5, 6, 7, 2, 1, 8, 9, 10] (by decide) rfl) hS hl
abbrev rmX1_of : Room := { frames := 1, cells := 0, slots := 0, locals := 21 }
theorem hdX1_of : yX1_of.cls = RX1 ∧ yX1_of.cls ≠ "java/lang/invoke/MethodHandle" ∧ yX1_of.cls ≠ "java/lang/invoke/VarHandle" ∧ (parseMethodDescriptor yX1_of.desc).map (fun d => d.parameters.length) = some 1 := by decide +kernel
set_option maxRecDepth 100000 in
set_option maxHeartbeats 4000000 in
theorem c_X1_of (l : Launch) (D : va_G) (cI cB cZ : ClassId) (a_o : Nat) (w_o_signs : Value) (w_o_order : Value) (w_o_start : Value) (o_found : Int32) (a_length : Nat) (f_length : Nat → Int32) (p1 : Int32) (z : Int32) (h : P_X1_of p1 f_length = some z) : KI l yX1_of wsX1_of rmX1_of D [(cI, .int), (cB, .byte), (cZ, .boolean)] [.ref a_o, .int p1] [(a_o, .inr (1, [w_o_signs, .ref a_length, w_o_order, w_o_start, .int o_found])), (a_length, .inl (cI, 512, .inl f_length))] [(a_o, .inr (1, [w_o_signs, .ref a_length, w_o_order, w_o_start, .int o_found])), (a_length, .inl (cI, 512, .inl f_length))] z := by
  refine KI_of (own := RX1) (cc := cX1_of) (maxL := 3) (ret := some .int) (by decide) rfl rfl (Nat.le_of_ble_eq_true rfl) (Or.inl rfl) ?_
  intro p e s m args below meth c A Q hx hb hml hown hts hA hZ hK hret H locs ls hP hD hS hl
  have hl : lv_has ls 3 [(0, .ref a_o), (1, .int p1)] := hl
  have hF : CallFix p m c cX1_of 3 s args wsX1_of RX1 := ⟨hx, hb, hml, hown, hts⟩
  have u_X1 : ∀ w ∈ u_ws RX1 TX1 5, w ∈ wsX1_of := by decide +kernel
  have k_f0 := hts (.fieldLink RX1 13 "NoWordNo$Lengths" "length" "[I") (by decide +kernel)
  unfold P_X1_of at h
  refine lv_aload_n hx hb dX1_of_0 rfl (lv_at hl 0 rfl) ?_
  refine va_get (D := D) (ci := 1) (v := .ref a_length) (C := RX1) (T := TX1) (N := 5) hx hb hts u_X1 hown hK hP 0 rfl rfl 1 (by decide) k_f0 (fun _ h9 => h9) rfl dX1_of_1 ?_
  refine lv_iload_n hx hb dX1_of_4 rfl (lv_at hl 1 rfl) ?_
  obtain ⟨z_5, hc_5, h⟩ := bd_e h
  refine q_iS (As := [.ref a_length, .int p1]) (rest := []) (wF := [(a_o, .inr (1, [w_o_signs, .ref a_length, w_o_order, w_o_start, .int o_found])), (a_length, .inl (cI, 512, .inl f_length))]) hF hA hZ hK hP hD hS (c_X4_at l D cI cB cZ a_length 512 f_length p1 z_5 hc_5) rfl gX1_of_X4_at hdX4_at ⟨rfl, rfl⟩ (Nat.le_of_ble_eq_true rfl) (Nat.le_of_ble_eq_true rfl) [1] [0] rfl rfl rfl rfl (by decide) rfl hl.1 rfl (Nat.le_of_ble_eq_true rfl) (Nat.zero_le _) (Nat.zero_le _) dX1_of_5 (fun H locs hP hD hS => ?_)
  refine lv_istore_n (lv' := [(2, .int z_5), (0, .ref a_o), (1, .int p1)]) hx hb dX1_of_8 rfl hl (by decide) rfl (fun ls hl => ?_)
  refine lv_iload_n hx hb dX1_of_9 rfl (lv_at hl 0 rfl) ?_
  refine lv_if_le (tgt := 17) hx hb dX1_of_10 (by decide) (fun c_10 => ?_) (fun c_10 => ?_)
  · replace h := it_e c_10 h
    refine lv_bipush (v := (-9)) hx hb dX1_of_17 bc_m9 ?_
    have hz := Option.some.inj h
    subst hz
    exact hret H locs 19 ls (fun ty h => by cases h; rfl) hP hD hS dX1_of_19
  · replace h := if_e c_10 h
    refine lv_iload_n hx hb dX1_of_13 rfl (lv_at hl 0 rfl) ?_
    refine lv_goto (tgt := 19) hx hb dX1_of_14 (by decide) ?_
    have hz := Option.some.inj h
    subst hz
    exact hret H locs 19 ls (fun ty h => by cases h; rfl) hP hD hS dX1_of_19
abbrev rmX10_shortest : Room := { frames := 6, cells := 0, slots := 0, locals := 132 }
theorem hdX10_shortest : yX10_shortest.cls = RX10 ∧ yX10_shortest.cls ≠ "java/lang/invoke/MethodHandle" ∧ yX10_shortest.cls ≠ "java/lang/invoke/VarHandle" ∧ (parseMethodDescriptor yX10_shortest.desc).map (fun d => d.parameters.length) = some 1 := by decide +kernel
set_option maxRecDepth 100000 in
set_option maxHeartbeats 4000000 in
theorem c_X10_shortest (l : Launch) (D : va_G) (cI cB cZ : ClassId) (a_o : Nat) (w_o_text : Value) (w_o_image0 : Value) (w_o_image1 : Value) (w_o_reader : Value) (w_o_refusals : Value) (w_o_two : Value) (o_measured : Int32) (o_traced : Int64) (a_speech : Nat) (speech_choices : Int32) (speech_worlds : Int32) (a_speech_values : Nat) (f_speech_values : Nat → Int32) (a_speech_left : Nat) (f_speech_left : Nat → Int32) (a_now : Nat) (w_now_left : Value) (w_now_signs : Value) (now_sayings : Int32) (now_words : Int32) (now_filled : Int32) (a_now_wordSets : Nat) (f_now_wordSets : Nat → Int32) (a_signs : Nat) (a_lengths : Nat) (lengths_found : Int32) (a_lengths_length : Nat) (f_lengths_length : Nat → Int32) (a_lengths_order : Nat) (f_lengths_order : Nat → Int32) (a_lengths_start : Nat) (f_lengths_start : Nat → Int32) (p1 : Int32) (z : Int32 × Int32 × Int32 × (Nat → Int32) × (Nat → Int32) × (Nat → Int32)) (h : P_X10_shortest p1 o_measured speech_choices speech_worlds f_speech_values f_speech_left now_words f_now_wordSets lengths_found f_lengths_length f_lengths_order f_lengths_start = some z) : KI l yX10_shortest wsX10_shortest rmX10_shortest D [(cI, .int), (cB, .byte), (cZ, .boolean)] [.ref a_o, .int p1] [(a_o, .inr (9, [w_o_text, .ref a_speech, .ref a_now, w_o_image0, w_o_image1, .ref a_signs, w_o_reader, .ref a_lengths, w_o_refusals, w_o_two, .int o_measured, .long o_traced])), (a_speech, .inr (7, [.ref a_speech_values, .ref a_speech_left, .int speech_choices, .int speech_worlds])), (a_speech_values, .inl (cI, 3, .inl f_speech_values)), (a_speech_left, .inl (cI, 30, .inl f_speech_left)), (a_now, .inr (0, [w_now_left, w_now_signs, .ref a_now_wordSets, .int now_sayings, .int now_words, .int now_filled])), (a_now_wordSets, .inl (cI, 3, .inl f_now_wordSets)), (a_signs, .inr (4, [.ref a_speech, .ref a_now])), (a_lengths, .inr (1, [.ref a_signs, .ref a_lengths_length, .ref a_lengths_order, .ref a_lengths_start, .int lengths_found])), (a_lengths_length, .inl (cI, 512, .inl f_lengths_length)), (a_lengths_order, .inl (cI, 512, .inl f_lengths_order)), (a_lengths_start, .inl (cI, 34, .inl f_lengths_start))] [(a_o, .inr (9, [w_o_text, .ref a_speech, .ref a_now, w_o_image0, w_o_image1, .ref a_signs, w_o_reader, .ref a_lengths, w_o_refusals, w_o_two, .int z.2.1, .long o_traced])), (a_speech, .inr (7, [.ref a_speech_values, .ref a_speech_left, .int speech_choices, .int speech_worlds])), (a_speech_values, .inl (cI, 3, .inl f_speech_values)), (a_speech_left, .inl (cI, 30, .inl f_speech_left)), (a_now, .inr (0, [w_now_left, w_now_signs, .ref a_now_wordSets, .int now_sayings, .int now_words, .int now_filled])), (a_now_wordSets, .inl (cI, 3, .inl f_now_wordSets)), (a_signs, .inr (4, [.ref a_speech, .ref a_now])), (a_lengths, .inr (1, [.ref a_signs, .ref a_lengths_length, .ref a_lengths_order, .ref a_lengths_start, .int z.2.2.1])), (a_lengths_length, .inl (cI, 512, .inl z.2.2.2.1)), (a_lengths_order, .inl (cI, 512, .inl z.2.2.2.2.1)), (a_lengths_start, .inl (cI, 34, .inl z.2.2.2.2.2))] z.1 := by
  refine KI_of (own := RX10) (cc := cX10_shortest) (maxL := 2) (ret := some .int) (by decide) rfl rfl (Nat.le_of_ble_eq_true rfl) (Or.inl rfl) ?_
  intro p e s m args below meth c A Q hx hb hml hown hts hA hZ hK hret H locs ls hP hD hS hl
  have hl : lv_has ls 2 [(0, .ref a_o), (1, .int p1)] := hl
  have hF : CallFix p m c cX10_shortest 2 s args wsX10_shortest RX10 := ⟨hx, hb, hml, hown, hts⟩
  have u_X10 : ∀ w ∈ u_ws RX10 TX10 12, w ∈ wsX10_shortest := by decide +kernel
  have k_f0 := hts (.fieldLink RX10 19 "NoWordNo" "speech" "LNoWordNo$Tongue;") (by decide +kernel)
  unfold P_X10_shortest at h
  refine lv_aload_n hx hb dX10_shortest_0 rfl (lv_at hl 0 rfl) ?_
  refine va_get (D := D) (ci := 9) (v := .ref a_speech) (C := RX10) (T := TX10) (N := 12) hx hb hts u_X10 hown hK hP 0 rfl rfl 1 (by decide) k_f0 (fun _ h9 => h9) rfl dX10_shortest_1 ?_
  refine lv_iload_n hx hb dX10_shortest_4 rfl (lv_at hl 1 rfl) ?_
  obtain ⟨z_5, hc_5, h⟩ := bd_e h
  refine q_iV (As := [.int p1]) (rest := []) (wF := [(a_o, .inr (9, [w_o_text, .ref a_speech, .ref a_now, w_o_image0, w_o_image1, .ref a_signs, w_o_reader, .ref a_lengths, w_o_refusals, w_o_two, .int o_measured, .long o_traced])), (a_speech_values, .inl (cI, 3, .inl f_speech_values)), (a_speech_left, .inl (cI, 30, .inl f_speech_left)), (a_now, .inr (0, [w_now_left, w_now_signs, .ref a_now_wordSets, .int now_sayings, .int now_words, .int now_filled])), (a_now_wordSets, .inl (cI, 3, .inl f_now_wordSets)), (a_signs, .inr (4, [.ref a_speech, .ref a_now])), (a_lengths, .inr (1, [.ref a_signs, .ref a_lengths_length, .ref a_lengths_order, .ref a_lengths_start, .int lengths_found])), (a_lengths_length, .inl (cI, 512, .inl f_lengths_length)), (a_lengths_order, .inl (cI, 512, .inl f_lengths_order)), (a_lengths_start, .inl (cI, 34, .inl f_lengths_start)), (a_speech, .inr (7, [.ref a_speech_values, .ref a_speech_left, .int speech_choices, .int speech_worlds]))]) hF hA hZ hK hP hD hS (c_X8_isSet l D cI cB cZ a_speech (.ref a_speech_values) (.ref a_speech_left) speech_choices speech_worlds p1 z_5 hc_5) rfl gX10_shortest_X8_isSet hdX8_isSet ⟨rfl, rfl⟩ (Nat.le_of_ble_eq_true rfl) (Nat.le_of_ble_eq_true rfl) 7 0 rfl rfl [1] [0, 2, 3, 4, 5, 6, 7, 8, 9, 10] rfl rfl rfl rfl (by decide) rfl hl.1 rfl (Nat.le_of_ble_eq_true rfl) (Nat.zero_le _) (Nat.zero_le _) dX10_shortest_5 (fun H locs hP hD hS => ?_)
  refine lv_if_eq (tgt := 22) hx hb dX10_shortest_8 (by decide) (fun c_8 => ?_) (fun c_8 => ?_)
  · replace h := it_e c_8 h
    refine lv_iconst (v := (-1)) hx hb dX10_shortest_22 ic_m1 ?_
    have hz := Option.some.inj h
    subst hz
    exact hret H locs 23 ls (fun ty h => by cases h; rfl) (hP.sub [0, 10, 1, 2, 3, 4, 5, 6, 7, 8, 9] rfl) (hD.sub [0, 10, 1, 2, 3, 4, 5, 6, 7, 8, 9] (by decide) rfl) hS dX10_shortest_23
  · replace h := if_e c_8 h
    refine lv_aload_n hx hb dX10_shortest_11 rfl (lv_at hl 0 rfl) ?_
    obtain ⟨z_12, hc_12, h⟩ := bd_e h
    refine q_rV (As := []) (rest := []) (wF := [(a_o, .inr (9, [w_o_text, .ref a_speech, .ref a_now, w_o_image0, w_o_image1, .ref a_signs, w_o_reader, .ref a_lengths, w_o_refusals, w_o_two, .int z_12.1, .long o_traced])), (a_speech, .inr (7, [.ref a_speech_values, .ref a_speech_left, .int speech_choices, .int speech_worlds])), (a_speech_values, .inl (cI, 3, .inl f_speech_values)), (a_speech_left, .inl (cI, 30, .inl f_speech_left)), (a_now, .inr (0, [w_now_left, w_now_signs, .ref a_now_wordSets, .int now_sayings, .int now_words, .int now_filled])), (a_now_wordSets, .inl (cI, 3, .inl f_now_wordSets)), (a_signs, .inr (4, [.ref a_speech, .ref a_now])), (a_lengths, .inr (1, [.ref a_signs, .ref a_lengths_length, .ref a_lengths_order, .ref a_lengths_start, .int z_12.2.1])), (a_lengths_length, .inl (cI, 512, .inl z_12.2.2.1)), (a_lengths_order, .inl (cI, 512, .inl z_12.2.2.2.1)), (a_lengths_start, .inl (cI, 34, .inl z_12.2.2.2.2))]) hF hA hZ hK hP hD hS (c_X10_lengthsNow l D cI cB cZ a_o w_o_text w_o_image0 w_o_image1 w_o_reader w_o_refusals w_o_two o_measured o_traced a_speech speech_choices speech_worlds a_speech_values f_speech_values a_speech_left f_speech_left a_now w_now_left w_now_signs now_sayings now_words now_filled a_now_wordSets f_now_wordSets a_signs a_lengths lengths_found a_lengths_length f_lengths_length a_lengths_order f_lengths_order a_lengths_start f_lengths_start z_12 hc_12) rfl gX10_shortest_X10_lengthsNow hdX10_lengthsNow ⟨rfl, rfl⟩ (Nat.le_of_ble_eq_true rfl) (Nat.le_of_ble_eq_true rfl) 9 0 rfl rfl [0, 10, 1, 2, 3, 4, 5, 6, 7, 8, 9] [] rfl rfl rfl rfl (by decide) rfl hl.1 rfl (Nat.le_of_ble_eq_true rfl) (Nat.zero_le _) (Nat.zero_le _) dX10_shortest_12 (fun H locs hP hD hS => ?_)
    refine lv_iload_n hx hb dX10_shortest_15 rfl (lv_at hl 1 rfl) ?_
    obtain ⟨z_16, hc_16, h⟩ := bd_e h
    refine q_iV (As := [.int p1]) (rest := []) (wF := [(a_o, .inr (9, [w_o_text, .ref a_speech, .ref a_now, w_o_image0, w_o_image1, .ref a_signs, w_o_reader, .ref a_lengths, w_o_refusals, w_o_two, .int z_12.1, .long o_traced])), (a_speech, .inr (7, [.ref a_speech_values, .ref a_speech_left, .int speech_choices, .int speech_worlds])), (a_speech_values, .inl (cI, 3, .inl f_speech_values)), (a_speech_left, .inl (cI, 30, .inl f_speech_left)), (a_now, .inr (0, [w_now_left, w_now_signs, .ref a_now_wordSets, .int now_sayings, .int now_words, .int now_filled])), (a_now_wordSets, .inl (cI, 3, .inl f_now_wordSets)), (a_signs, .inr (4, [.ref a_speech, .ref a_now])), (a_lengths_order, .inl (cI, 512, .inl z_12.2.2.2.1)), (a_lengths_start, .inl (cI, 34, .inl z_12.2.2.2.2)), (a_lengths, .inr (1, [.ref a_signs, .ref a_lengths_length, .ref a_lengths_order, .ref a_lengths_start, .int z_12.2.1])), (a_lengths_length, .inl (cI, 512, .inl z_12.2.2.1))]) hF hA hZ hK hP hD hS (c_X1_of l D cI cB cZ a_lengths (.ref a_signs) (.ref a_lengths_order) (.ref a_lengths_start) z_12.2.1 a_lengths_length z_12.2.2.1 p1 z_16 hc_16) rfl gX10_shortest_X1_of hdX1_of ⟨rfl, rfl⟩ (Nat.le_of_ble_eq_true rfl) (Nat.le_of_ble_eq_true rfl) 1 0 rfl rfl [7, 8] [0, 1, 2, 3, 4, 5, 6, 9, 10] rfl rfl rfl rfl (by decide) rfl hl.1 rfl (Nat.le_of_ble_eq_true rfl) (Nat.zero_le _) (Nat.zero_le _) dX10_shortest_16 (fun H locs hP hD hS => ?_)
    refine lv_goto (tgt := 23) hx hb dX10_shortest_19 (by decide) ?_
    have hz := Option.some.inj h
    subst hz
    exact hret H locs 23 ls (fun ty h => by cases h; rfl) (hP.sub [0, 1, 2, 3, 4, 5, 6, 9, 10, 7, 8] rfl) (hD.sub [0, 1, 2, 3, 4, 5, 6, 9, 10, 7, 8] (by decide) rfl) hS dX10_shortest_23
abbrev rmX5_firstFor : Room := { frames := 3, cells := 0, slots := 0, locals := 65 }
theorem hdX5_firstFor : yX5_firstFor.cls = RX5 ∧ yX5_firstFor.cls ≠ "java/lang/invoke/MethodHandle" ∧ yX5_firstFor.cls ≠ "java/lang/invoke/VarHandle" ∧ (parseMethodDescriptor yX5_firstFor.desc).map (fun d => d.parameters.length) = some 1 := by decide +kernel
set_option maxRecDepth 100000 in
set_option maxHeartbeats 4000000 in
theorem c_X5_firstFor (l : Launch) (D : va_G) (cI cB cZ : ClassId) (a_o : Nat) (a_tongue : Nat) (tongue_choices : Int32) (tongue_worlds : Int32) (a_tongue_values : Nat) (f_tongue_values : Nat → Int32) (a_tongue_left : Nat) (f_tongue_left : Nat → Int32) (a_kept : Nat) (w_kept_left : Value) (w_kept_signs : Value) (kept_sayings : Int32) (kept_words : Int32) (kept_filled : Int32) (a_kept_wordSets : Nat) (f_kept_wordSets : Nat → Int32) (p1 : Int32) (z : Int32) (h : P_X5_firstFor p1 tongue_choices f_tongue_values f_tongue_left kept_words f_kept_wordSets = some z) : KI l yX5_firstFor wsX5_firstFor rmX5_firstFor D [(cI, .int), (cB, .byte), (cZ, .boolean)] [.ref a_o, .int p1] [(a_o, .inr (4, [.ref a_tongue, .ref a_kept])), (a_tongue, .inr (7, [.ref a_tongue_values, .ref a_tongue_left, .int tongue_choices, .int tongue_worlds])), (a_tongue_values, .inl (cI, 3, .inl f_tongue_values)), (a_tongue_left, .inl (cI, 30, .inl f_tongue_left)), (a_kept, .inr (0, [w_kept_left, w_kept_signs, .ref a_kept_wordSets, .int kept_sayings, .int kept_words, .int kept_filled])), (a_kept_wordSets, .inl (cI, 3, .inl f_kept_wordSets))] [(a_o, .inr (4, [.ref a_tongue, .ref a_kept])), (a_tongue, .inr (7, [.ref a_tongue_values, .ref a_tongue_left, .int tongue_choices, .int tongue_worlds])), (a_tongue_values, .inl (cI, 3, .inl f_tongue_values)), (a_tongue_left, .inl (cI, 30, .inl f_tongue_left)), (a_kept, .inr (0, [w_kept_left, w_kept_signs, .ref a_kept_wordSets, .int kept_sayings, .int kept_words, .int kept_filled])), (a_kept_wordSets, .inl (cI, 3, .inl f_kept_wordSets))] z := by
  refine KI_of (own := RX5) (cc := cX5_firstFor) (maxL := 4) (ret := some .int) (by decide) rfl rfl (Nat.le_of_ble_eq_true rfl) (Or.inl rfl) ?_
  intro p e s m args below meth c A Q hx hb hml hown hts hA hZ hK hret H locs ls hP hD hS hl
  have hl : lv_has ls 4 [(0, .ref a_o), (1, .int p1)] := hl
  have hF : CallFix p m c cX5_firstFor 4 s args wsX5_firstFor RX5 := ⟨hx, hb, hml, hown, hts⟩
  unfold P_X5_firstFor at h
  refine lv_iconst (v := 0) hx hb dX5_firstFor_0 ic_0 ?_
  refine lv_istore_n (lv' := [(2, .int 0), (0, .ref a_o), (1, .int p1)]) hx hb dX5_firstFor_1 rfl hl (by decide) rfl (fun ls hl => ?_)
  obtain ⟨k28, hk28, h⟩ := jn_e h
  have Jk28 : ∀ (x28_l2 : Int32) (x28_l3 : Int32) (H : Heap) (locs : List Loc) (ls : Array Slot), k28 x28_l2 x28_l3 = some z → va_P D vwCl [(a_o, .inr (4, [.ref a_tongue, .ref a_kept])), (a_tongue, .inr (7, [.ref a_tongue_values, .ref a_tongue_left, .int tongue_choices, .int tongue_worlds])), (a_tongue_values, .inl (cI, 3, .inl f_tongue_values)), (a_tongue_left, .inl (cI, 30, .inl f_tongue_left)), (a_kept, .inr (0, [w_kept_left, w_kept_signs, .ref a_kept_wordSets, .int kept_sayings, .int kept_words, .int kept_filled])), (a_kept_wordSets, .inl (cI, 3, .inl f_kept_wordSets))] H → va_D A [(a_o, .inr (4, [.ref a_tongue, .ref a_kept])), (a_tongue, .inr (7, [.ref a_tongue_values, .ref a_tongue_left, .int tongue_choices, .int tongue_worlds])), (a_tongue_values, .inl (cI, 3, .inl f_tongue_values)), (a_tongue_left, .inl (cI, 30, .inl f_tongue_left)), (a_kept, .inr (0, [w_kept_left, w_kept_signs, .ref a_kept_wordSets, .int kept_sayings, .int kept_words, .int kept_filled])), (a_kept_wordSets, .inl (cI, 3, .inl f_kept_wordSets))] → va_S A s.heap H locs → lv_has ls 4 [(2, .int x28_l2), (3, .int x28_l3)] → W p l e rmX5_firstFor s m args below meth c H locs 0 0 Q (F0 m 28 ls []) := by
    intro x28_l2 x28_l3 H locs ls h hP hD hS hl
    rw [hk28] at h
    refine lv_bipush (v := 10) hx hb dX5_firstFor_28 bc_10 ?_
    refine lv_iload_n hx hb dX5_firstFor_30 rfl (lv_at hl 0 rfl) ?_
    refine lv_imul hx hb dX5_firstFor_31 ?_
    refine lv_iload_n hx hb dX5_firstFor_32 rfl (lv_at hl 1 rfl) ?_
    refine lv_iadd hx hb dX5_firstFor_33 ?_
    have hz := Option.some.inj h
    subst hz
    exact hret H locs 34 ls (fun ty h => by cases h; rfl) hP hD hS dX5_firstFor_34
  have L2 : ∀ (n : Nat), ∀ (x2_l2 : Int32) (H : Heap) (locs : List Loc) (ls : Array Slot), P_X5_firstFor_2 p1 tongue_choices f_tongue_values f_tongue_left kept_words f_kept_wordSets k28 n x2_l2 = some z → va_P D vwCl [(a_o, .inr (4, [.ref a_tongue, .ref a_kept])), (a_tongue, .inr (7, [.ref a_tongue_values, .ref a_tongue_left, .int tongue_choices, .int tongue_worlds])), (a_tongue_values, .inl (cI, 3, .inl f_tongue_values)), (a_tongue_left, .inl (cI, 30, .inl f_tongue_left)), (a_kept, .inr (0, [w_kept_left, w_kept_signs, .ref a_kept_wordSets, .int kept_sayings, .int kept_words, .int kept_filled])), (a_kept_wordSets, .inl (cI, 3, .inl f_kept_wordSets))] H → va_D A [(a_o, .inr (4, [.ref a_tongue, .ref a_kept])), (a_tongue, .inr (7, [.ref a_tongue_values, .ref a_tongue_left, .int tongue_choices, .int tongue_worlds])), (a_tongue_values, .inl (cI, 3, .inl f_tongue_values)), (a_tongue_left, .inl (cI, 30, .inl f_tongue_left)), (a_kept, .inr (0, [w_kept_left, w_kept_signs, .ref a_kept_wordSets, .int kept_sayings, .int kept_words, .int kept_filled])), (a_kept_wordSets, .inl (cI, 3, .inl f_kept_wordSets))] → va_S A s.heap H locs → lv_has ls 4 [(0, .ref a_o), (1, .int p1), (2, .int x2_l2)] → W p l e rmX5_firstFor s m args below meth c H locs 0 0 Q (F0 m 2 ls []) := by
    intro n
    induction n with
    | zero =>
      intro x2_l2 H locs ls h
      exact no_e h
    | succ n ih2 =>
      intro x2_l2 H locs ls h hP hD hS hl
      rw [P_X5_firstFor_2] at h
      refine lv_iload_n hx hb dX5_firstFor_2 rfl (lv_at hl 2 rfl) ?_
      refine lv_iconst (v := 3) hx hb dX5_firstFor_3 ic_3 ?_
      refine lv_icmp_gt (tgt := 47) hx hb dX5_firstFor_4 (by decide) (fun c_4 => ?_) (fun c_4 => ?_)
      · replace h := it_e c_4 h
        refine lv_bipush (v := (-9)) hx hb dX5_firstFor_47 bc_m9 ?_
        have hz := Option.some.inj h
        subst hz
        exact hret H locs 49 ls (fun ty h => by cases h; rfl) hP hD hS dX5_firstFor_49
      · replace h := if_e c_4 h
        refine lv_iconst (v := 0) hx hb dX5_firstFor_7 ic_0 ?_
        refine lv_istore_n (lv' := [(3, .int 0), (0, .ref a_o), (1, .int p1), (2, .int x2_l2)]) hx hb dX5_firstFor_8 rfl hl (by decide) rfl (fun ls hl => ?_)
        obtain ⟨k41, hk41, h⟩ := jn_e h
        have Jk41 : ∀ (H : Heap) (locs : List Loc) (ls : Array Slot), k41 () = some z → va_P D vwCl [(a_o, .inr (4, [.ref a_tongue, .ref a_kept])), (a_tongue, .inr (7, [.ref a_tongue_values, .ref a_tongue_left, .int tongue_choices, .int tongue_worlds])), (a_tongue_values, .inl (cI, 3, .inl f_tongue_values)), (a_tongue_left, .inl (cI, 30, .inl f_tongue_left)), (a_kept, .inr (0, [w_kept_left, w_kept_signs, .ref a_kept_wordSets, .int kept_sayings, .int kept_words, .int kept_filled])), (a_kept_wordSets, .inl (cI, 3, .inl f_kept_wordSets))] H → va_D A [(a_o, .inr (4, [.ref a_tongue, .ref a_kept])), (a_tongue, .inr (7, [.ref a_tongue_values, .ref a_tongue_left, .int tongue_choices, .int tongue_worlds])), (a_tongue_values, .inl (cI, 3, .inl f_tongue_values)), (a_tongue_left, .inl (cI, 30, .inl f_tongue_left)), (a_kept, .inr (0, [w_kept_left, w_kept_signs, .ref a_kept_wordSets, .int kept_sayings, .int kept_words, .int kept_filled])), (a_kept_wordSets, .inl (cI, 3, .inl f_kept_wordSets))] → va_S A s.heap H locs → lv_has ls 4 [(0, .ref a_o), (1, .int p1), (2, .int x2_l2)] → W p l e rmX5_firstFor s m args below meth c H locs 0 0 Q (F0 m 41 ls []) := by
          intro H locs ls h hP hD hS hl
          rw [hk41] at h
          refine lv_iinc (v := x2_l2 + 1) (lv' := [(2, .int (x2_l2 + 1)), (0, .ref a_o), (1, .int p1)]) hx hb dX5_firstFor_41 hl (k := 2) rfl (congrArg (x2_l2 + ·) ic_1) (by decide) rfl (fun ls hl => ?_)
          refine lv_goto (tgt := 2) hx hb dX5_firstFor_44 (by decide) ?_
          exact ih2 (x2_l2 + 1) H locs ls h hP hD hS (lv_sub hl [1, 2, 0] rfl)
        have L9 : ∀ (n : Nat), ∀ (x9_l3 : Int32) (H : Heap) (locs : List Loc) (ls : Array Slot), P_X5_firstFor_9 p1 tongue_choices f_tongue_values f_tongue_left kept_words f_kept_wordSets k28 x2_l2 k41 n x9_l3 = some z → va_P D vwCl [(a_o, .inr (4, [.ref a_tongue, .ref a_kept])), (a_tongue, .inr (7, [.ref a_tongue_values, .ref a_tongue_left, .int tongue_choices, .int tongue_worlds])), (a_tongue_values, .inl (cI, 3, .inl f_tongue_values)), (a_tongue_left, .inl (cI, 30, .inl f_tongue_left)), (a_kept, .inr (0, [w_kept_left, w_kept_signs, .ref a_kept_wordSets, .int kept_sayings, .int kept_words, .int kept_filled])), (a_kept_wordSets, .inl (cI, 3, .inl f_kept_wordSets))] H → va_D A [(a_o, .inr (4, [.ref a_tongue, .ref a_kept])), (a_tongue, .inr (7, [.ref a_tongue_values, .ref a_tongue_left, .int tongue_choices, .int tongue_worlds])), (a_tongue_values, .inl (cI, 3, .inl f_tongue_values)), (a_tongue_left, .inl (cI, 30, .inl f_tongue_left)), (a_kept, .inr (0, [w_kept_left, w_kept_signs, .ref a_kept_wordSets, .int kept_sayings, .int kept_words, .int kept_filled])), (a_kept_wordSets, .inl (cI, 3, .inl f_kept_wordSets))] → va_S A s.heap H locs → lv_has ls 4 [(0, .ref a_o), (1, .int p1), (2, .int x2_l2), (3, .int x9_l3)] → W p l e rmX5_firstFor s m args below meth c H locs 0 0 Q (F0 m 9 ls []) := by
          intro n
          induction n with
          | zero =>
            intro x9_l3 H locs ls h
            exact no_e h
          | succ n ih9 =>
            intro x9_l3 H locs ls h hP hD hS hl
            rw [P_X5_firstFor_9] at h
            refine lv_iload_n hx hb dX5_firstFor_9 rfl (lv_at hl 3 rfl) ?_
            refine lv_aload_n hx hb dX5_firstFor_10 rfl (lv_at hl 0 rfl) ?_
            refine lv_iload_n hx hb dX5_firstFor_11 rfl (lv_at hl 2 rfl) ?_
            obtain ⟨z_12, hc_12, h⟩ := bd_e h
            refine q_iV (As := [.int x2_l2]) (rest := [.int x9_l3]) (wF := [(a_tongue_left, .inl (cI, 30, .inl f_tongue_left)), (a_kept_wordSets, .inl (cI, 3, .inl f_kept_wordSets)), (a_o, .inr (4, [.ref a_tongue, .ref a_kept])), (a_tongue, .inr (7, [.ref a_tongue_values, .ref a_tongue_left, .int tongue_choices, .int tongue_worlds])), (a_tongue_values, .inl (cI, 3, .inl f_tongue_values)), (a_kept, .inr (0, [w_kept_left, w_kept_signs, .ref a_kept_wordSets, .int kept_sayings, .int kept_words, .int kept_filled]))]) hF hA hZ hK hP hD hS (c_X5_many l D cI cB cZ a_o a_tongue (.ref a_tongue_left) tongue_choices tongue_worlds a_tongue_values f_tongue_values a_kept w_kept_left w_kept_signs (.ref a_kept_wordSets) kept_sayings kept_words kept_filled x2_l2 z_12 hc_12) rfl gX5_firstFor_X5_many hdX5_many ⟨rfl, rfl⟩ (Nat.le_of_ble_eq_true rfl) (Nat.le_of_ble_eq_true rfl) 4 0 rfl rfl [0, 1, 2, 4] [3, 5] rfl rfl rfl rfl (by decide) rfl hl.1 rfl (Nat.le_of_ble_eq_true rfl) (Nat.zero_le _) (Nat.zero_le _) dX5_firstFor_12 (fun H locs hP hD hS => ?_)
            refine lv_icmp_ge (tgt := 41) hx hb dX5_firstFor_15 (by decide) (fun c_15 => ?_) (fun c_15 => ?_)
            · replace h := it_e c_15 h
              exact Jk41  H locs ls h (hP.sub [2, 3, 4, 0, 5, 1] rfl) (hD.sub [2, 3, 4, 0, 5, 1] (by decide) rfl) hS (lv_sub hl [0, 1, 2] rfl)
            · replace h := if_e c_15 h
              refine lv_aload_n hx hb dX5_firstFor_18 rfl (lv_at hl 0 rfl) ?_
              refine lv_iload_n hx hb dX5_firstFor_19 rfl (lv_at hl 2 rfl) ?_
              refine lv_iload_n hx hb dX5_firstFor_20 rfl (lv_at hl 3 rfl) ?_
              obtain ⟨z_21, hc_21, h⟩ := bd_e h
              refine q_iV (As := [.int x2_l2, .int x9_l3]) (rest := []) (wF := [(a_tongue_values, .inl (cI, 3, .inl f_tongue_values)), (a_o, .inr (4, [.ref a_tongue, .ref a_kept])), (a_tongue, .inr (7, [.ref a_tongue_values, .ref a_tongue_left, .int tongue_choices, .int tongue_worlds])), (a_tongue_left, .inl (cI, 30, .inl f_tongue_left)), (a_kept, .inr (0, [w_kept_left, w_kept_signs, .ref a_kept_wordSets, .int kept_sayings, .int kept_words, .int kept_filled])), (a_kept_wordSets, .inl (cI, 3, .inl f_kept_wordSets))]) hF hA hZ hK hP hD hS (c_X5_leftBy l D cI cB cZ a_o a_tongue (.ref a_tongue_values) tongue_choices tongue_worlds a_tongue_left f_tongue_left a_kept w_kept_left w_kept_signs kept_sayings kept_words kept_filled a_kept_wordSets f_kept_wordSets x2_l2 x9_l3 z_21 hc_21) rfl gX5_firstFor_X5_leftBy hdX5_leftBy ⟨rfl, rfl⟩ (Nat.le_of_ble_eq_true rfl) (Nat.le_of_ble_eq_true rfl) 4 0 rfl rfl [2, 3, 0, 5, 1] [4] rfl rfl rfl rfl (by decide) rfl hl.1 rfl (Nat.le_of_ble_eq_true rfl) (Nat.zero_le _) (Nat.zero_le _) dX5_firstFor_21 (fun H locs hP hD hS => ?_)
              refine lv_iload_n hx hb dX5_firstFor_24 rfl (lv_at hl 1 rfl) ?_
              refine lv_icmp_ne (tgt := 35) hx hb dX5_firstFor_25 (by decide) (fun c_25 => ?_) (fun c_25 => ?_)
              · replace h := if_e c_25 h
                refine lv_iinc (v := x9_l3 + 1) (lv' := [(3, .int (x9_l3 + 1)), (0, .ref a_o), (1, .int p1), (2, .int x2_l2)]) hx hb dX5_firstFor_35 hl (k := 3) rfl (congrArg (x9_l3 + ·) ic_1) (by decide) rfl (fun ls hl => ?_)
                refine lv_goto (tgt := 9) hx hb dX5_firstFor_38 (by decide) ?_
                exact ih9 (x9_l3 + 1) H locs ls h (hP.sub [1, 2, 0, 3, 4, 5] rfl) (hD.sub [1, 2, 0, 3, 4, 5] (by decide) rfl) hS (lv_sub hl [1, 2, 3, 0] rfl)
              · replace h := it_e c_25 h
                exact Jk28 x2_l2 x9_l3 H locs ls h (hP.sub [1, 2, 0, 3, 4, 5] rfl) (hD.sub [1, 2, 0, 3, 4, 5] (by decide) rfl) hS (lv_sub hl [2, 3] rfl)
        exact L9 QF 0 H locs ls h hP hD hS (lv_sub hl [1, 2, 3, 0] rfl)
  exact L2 QF 0 H locs ls h hP hD hS (lv_sub hl [1, 2, 0] rfl)
abbrev rmX1_canStep : Room := { frames := 2, cells := 0, slots := 0, locals := 43 }
theorem hdX1_canStep : yX1_canStep.cls = RX1 ∧ yX1_canStep.cls ≠ "java/lang/invoke/MethodHandle" ∧ yX1_canStep.cls ≠ "java/lang/invoke/VarHandle" ∧ (parseMethodDescriptor yX1_canStep.desc).map (fun d => d.parameters.length) = some 3 := by decide +kernel
set_option maxRecDepth 100000 in
set_option maxHeartbeats 4000000 in
theorem c_X1_canStep (l : Launch) (D : va_G) (cI cB cZ : ClassId) (a_o : Nat) (w_o_signs : Value) (w_o_order : Value) (w_o_start : Value) (o_found : Int32) (a_length : Nat) (f_length : Nat → Int32) (p1 : Int32) (p2 : Int32) (p3 : Int32) (z : Int32) (h : P_X1_canStep p1 p2 p3 f_length = some z) : KI l yX1_canStep wsX1_canStep rmX1_canStep D [(cI, .int), (cB, .byte), (cZ, .boolean)] [.ref a_o, .int p1, .int p2, .int p3] [(a_o, .inr (1, [w_o_signs, .ref a_length, w_o_order, w_o_start, .int o_found])), (a_length, .inl (cI, 512, .inl f_length))] [(a_o, .inr (1, [w_o_signs, .ref a_length, w_o_order, w_o_start, .int o_found])), (a_length, .inl (cI, 512, .inl f_length))] z := by
  refine KI_of (own := RX1) (cc := cX1_canStep) (maxL := 4) (ret := some .boolean) (by decide) rfl rfl (Nat.le_of_ble_eq_true rfl) (Or.inr rfl) ?_
  intro p e s m args below meth c A Q hx hb hml hown hts hA hZ hK hret H locs ls hP hD hS hl
  have hl : lv_has ls 4 [(0, .ref a_o), (1, .int p1), (2, .int p2), (3, .int p3)] := hl
  have hF : CallFix p m c cX1_canStep 4 s args wsX1_canStep RX1 := ⟨hx, hb, hml, hown, hts⟩
  unfold P_X1_canStep at h
  refine lv_iload_n hx hb dX1_canStep_0 rfl (lv_at hl 3 rfl) ?_
  obtain ⟨j13, hj13, h⟩ := jn_e h
  have Jj13 : ∀ (x13_s0 : Int32) (H : Heap) (locs : List Loc) (ls : Array Slot), j13 x13_s0 = some z → va_P D vwCl [(a_o, .inr (1, [w_o_signs, .ref a_length, w_o_order, w_o_start, .int o_found])), (a_length, .inl (cI, 512, .inl f_length))] H → va_D A [(a_o, .inr (1, [w_o_signs, .ref a_length, w_o_order, w_o_start, .int o_found])), (a_length, .inl (cI, 512, .inl f_length))] → va_S A s.heap H locs → lv_has ls 4 [(0, .ref a_o), (1, .int p1), (2, .int p2)] → W p l e rmX1_canStep s m args below meth c H locs 0 0 Q (F0 m 13 ls [.int x13_s0]) := by
    intro x13_s0 H locs ls h hP hD hS hl
    rw [hj13] at h
    refine lv_iload_n hx hb dX1_canStep_13 rfl (lv_at hl 2 rfl) ?_
    refine lv_icmp_ne (tgt := 31) hx hb dX1_canStep_14 (by decide) (fun c_14 => ?_) (fun c_14 => ?_)
    · replace h := if_e c_14 h
      refine lv_iconst (v := 0) hx hb dX1_canStep_31 ic_0 ?_
      have hz := Option.some.inj h
      subst hz
      exact hret H locs 32 ls (fun ty h => by cases h; exact nar_0) hP hD hS dX1_canStep_32
    · replace h := it_e c_14 h
      refine lv_aload_n hx hb dX1_canStep_17 rfl (lv_at hl 0 rfl) ?_
      refine lv_iload_n hx hb dX1_canStep_18 rfl (lv_at hl 1 rfl) ?_
      obtain ⟨z_19, hc_19, h⟩ := bd_e h
      refine q_iV (As := [.int p1]) (rest := []) (wF := [(a_o, .inr (1, [w_o_signs, .ref a_length, w_o_order, w_o_start, .int o_found])), (a_length, .inl (cI, 512, .inl f_length))]) hF hA hZ hK hP hD hS (c_X1_of l D cI cB cZ a_o w_o_signs w_o_order w_o_start o_found a_length f_length p1 z_19 hc_19) rfl gX1_canStep_X1_of hdX1_of ⟨rfl, rfl⟩ (Nat.le_of_ble_eq_true rfl) (Nat.le_of_ble_eq_true rfl) 1 0 rfl rfl [0, 1] [] rfl rfl rfl rfl (by decide) rfl hl.1 rfl (Nat.le_of_ble_eq_true rfl) (Nat.zero_le _) (Nat.zero_le _) dX1_canStep_19 (fun H locs hP hD hS => ?_)
      refine lv_bipush (v := (-9)) hx hb dX1_canStep_22 bc_m9 ?_
      refine lv_icmp_eq (tgt := 31) hx hb dX1_canStep_24 (by decide) (fun c_24 => ?_) (fun c_24 => ?_)
      · replace h := it_e c_24 h
        refine lv_iconst (v := 0) hx hb dX1_canStep_31 ic_0 ?_
        have hz := Option.some.inj h
        subst hz
        exact hret H locs 32 ls (fun ty h => by cases h; exact nar_0) hP hD hS dX1_canStep_32
      · replace h := if_e c_24 h
        refine lv_iconst (v := 1) hx hb dX1_canStep_27 ic_1 ?_
        refine lv_goto (tgt := 32) hx hb dX1_canStep_28 (by decide) ?_
        have hz := Option.some.inj h
        subst hz
        exact hret H locs 32 ls (fun ty h => by cases h; exact nar_1) hP hD hS dX1_canStep_32
  refine lv_if_eq (tgt := 10) hx hb dX1_canStep_1 (by decide) (fun c_1 => ?_) (fun c_1 => ?_)
  · replace h := it_e c_1 h
    refine lv_iload_n hx hb dX1_canStep_10 rfl (lv_at hl 1 rfl) ?_
    refine lv_iload_n hx hb dX1_canStep_11 rfl (lv_at hl 2 rfl) ?_
    refine lv_ior hx hb dX1_canStep_12 ?_
    exact Jj13 (p1 ||| p2) H locs ls h hP hD hS (lv_sub hl [0, 1, 2] rfl)
  · replace h := if_e c_1 h
    refine lv_iload_n hx hb dX1_canStep_4 rfl (lv_at hl 1 rfl) ?_
    refine lv_iload_n hx hb dX1_canStep_5 rfl (lv_at hl 2 rfl) ?_
    refine lv_iand hx hb dX1_canStep_6 ?_
    refine lv_goto (tgt := 13) hx hb dX1_canStep_7 (by decide) ?_
    exact Jj13 (p1 &&& p2) H locs ls h hP hD hS (lv_sub hl [0, 1, 2] rfl)
abbrev rmX1_firstPartner : Room := { frames := 2, cells := 0, slots := 0, locals := 43 }
theorem hdX1_firstPartner : yX1_firstPartner.cls = RX1 ∧ yX1_firstPartner.cls ≠ "java/lang/invoke/MethodHandle" ∧ yX1_firstPartner.cls ≠ "java/lang/invoke/VarHandle" ∧ (parseMethodDescriptor yX1_firstPartner.desc).map (fun d => d.parameters.length) = some 4 := by decide +kernel
set_option maxRecDepth 100000 in
set_option maxHeartbeats 4000000 in
theorem c_X1_firstPartner (l : Launch) (D : va_G) (cI cB cZ : ClassId) (a_o : Nat) (w_o_order : Value) (w_o_start : Value) (o_found : Int32) (a_signs : Nat) (w_signs_kept : Value) (a_signs_tongue : Nat) (w_signs_tongue_values : Value) (w_signs_tongue_left : Value) (signs_tongue_choices : Int32) (signs_tongue_worlds : Int32) (a_length : Nat) (f_length : Nat → Int32) (p1 : Int32) (p2 : Int32) (p3 : Int32) (p4 : Int32) (z : Int32) (h : P_X1_firstPartner p1 p2 p3 p4 signs_tongue_worlds f_length = some z) : KI l yX1_firstPartner wsX1_firstPartner rmX1_firstPartner D [(cI, .int), (cB, .byte), (cZ, .boolean)] [.ref a_o, .int p1, .int p2, .int p3, .int p4] [(a_o, .inr (1, [.ref a_signs, .ref a_length, w_o_order, w_o_start, .int o_found])), (a_signs, .inr (4, [.ref a_signs_tongue, w_signs_kept])), (a_signs_tongue, .inr (7, [w_signs_tongue_values, w_signs_tongue_left, .int signs_tongue_choices, .int signs_tongue_worlds])), (a_length, .inl (cI, 512, .inl f_length))] [(a_o, .inr (1, [.ref a_signs, .ref a_length, w_o_order, w_o_start, .int o_found])), (a_signs, .inr (4, [.ref a_signs_tongue, w_signs_kept])), (a_signs_tongue, .inr (7, [w_signs_tongue_values, w_signs_tongue_left, .int signs_tongue_choices, .int signs_tongue_worlds])), (a_length, .inl (cI, 512, .inl f_length))] z := by
  refine KI_of (own := RX1) (cc := cX1_firstPartner) (maxL := 7) (ret := some .int) (by decide) rfl rfl (Nat.le_of_ble_eq_true rfl) (Or.inl rfl) ?_
  intro p e s m args below meth c A Q hx hb hml hown hts hA hZ hK hret H locs ls hP hD hS hl
  have hl : lv_has ls 7 [(0, .ref a_o), (1, .int p1), (2, .int p2), (3, .int p3), (4, .int p4)] := hl
  have hF : CallFix p m c cX1_firstPartner 7 s args wsX1_firstPartner RX1 := ⟨hx, hb, hml, hown, hts⟩
  have u_X1 : ∀ w ∈ u_ws RX1 TX1 5, w ∈ wsX1_firstPartner := by decide +kernel
  have k_f0 := hts (.fieldLink RX1 27 "NoWordNo$Lengths" "signs" "LNoWordNo$Signs;") (by decide +kernel)
  unfold P_X1_firstPartner at h
  refine lv_aload_n hx hb dX1_firstPartner_0 rfl (lv_at hl 0 rfl) ?_
  refine va_get (D := D) (ci := 1) (v := .ref a_signs) (C := RX1) (T := TX1) (N := 5) hx hb hts u_X1 hown hK hP 0 rfl rfl 0 (by decide) k_f0 (fun _ h9 => h9) rfl dX1_firstPartner_1 ?_
  refine q_rV (As := []) (rest := []) (wF := [(a_o, .inr (1, [.ref a_signs, .ref a_length, w_o_order, w_o_start, .int o_found])), (a_length, .inl (cI, 512, .inl f_length)), (a_signs, .inr (4, [.ref a_signs_tongue, w_signs_kept])), (a_signs_tongue, .inr (7, [w_signs_tongue_values, w_signs_tongue_left, .int signs_tongue_choices, .int signs_tongue_worlds]))]) hF hA hZ hK hP hD hS (c_X5_speech l D cI cB cZ a_signs w_signs_kept a_signs_tongue w_signs_tongue_values w_signs_tongue_left signs_tongue_choices signs_tongue_worlds) rfl gX1_firstPartner_X5_speech hdX5_speech ⟨rfl, rfl⟩ (Nat.le_of_ble_eq_true rfl) (Nat.le_of_ble_eq_true rfl) 4 0 rfl rfl [1, 2] [0, 3] rfl rfl rfl rfl (by decide) rfl hl.1 rfl (Nat.le_of_ble_eq_true rfl) (Nat.zero_le _) (Nat.zero_le _) dX1_firstPartner_4 (fun H locs hP hD hS => ?_)
  obtain ⟨z_7, hc_7, h⟩ := bd_e h
  refine q_iV (As := []) (rest := []) (wF := [(a_o, .inr (1, [.ref a_signs, .ref a_length, w_o_order, w_o_start, .int o_found])), (a_length, .inl (cI, 512, .inl f_length)), (a_signs, .inr (4, [.ref a_signs_tongue, w_signs_kept])), (a_signs_tongue, .inr (7, [w_signs_tongue_values, w_signs_tongue_left, .int signs_tongue_choices, .int signs_tongue_worlds]))]) hF hA hZ hK hP hD hS (c_X8_all l D cI cB cZ a_signs_tongue w_signs_tongue_values w_signs_tongue_left signs_tongue_choices signs_tongue_worlds z_7 hc_7) rfl gX1_firstPartner_X8_all hdX8_all ⟨rfl, rfl⟩ (Nat.le_of_ble_eq_true rfl) (Nat.le_of_ble_eq_true rfl) 7 0 rfl rfl [3] [0, 1, 2] rfl rfl rfl rfl (by decide) rfl hl.1 rfl (Nat.le_of_ble_eq_true rfl) (Nat.zero_le _) (Nat.zero_le _) dX1_firstPartner_7 (fun H locs hP hD hS => ?_)
  refine lv_istore (lv' := [(5, .int z_7), (0, .ref a_o), (1, .int p1), (2, .int p2), (3, .int p3), (4, .int p4)]) hx hb dX1_firstPartner_10 hl (by decide) rfl (fun ls hl => ?_)
  refine lv_iconst (v := 0) hx hb dX1_firstPartner_12 ic_0 ?_
  refine lv_istore (lv' := [(6, .int 0), (5, .int z_7), (0, .ref a_o), (1, .int p1), (2, .int p2), (3, .int p3), (4, .int p4)]) hx hb dX1_firstPartner_13 hl (by decide) rfl (fun ls hl => ?_)
  have L15 : ∀ (n : Nat), ∀ (x15_l6 : Int32) (H : Heap) (locs : List Loc) (ls : Array Slot), P_X1_firstPartner_15 p1 p2 p3 p4 f_length z_7 n x15_l6 = some z → va_P D vwCl [(a_o, .inr (1, [.ref a_signs, .ref a_length, w_o_order, w_o_start, .int o_found])), (a_length, .inl (cI, 512, .inl f_length)), (a_signs, .inr (4, [.ref a_signs_tongue, w_signs_kept])), (a_signs_tongue, .inr (7, [w_signs_tongue_values, w_signs_tongue_left, .int signs_tongue_choices, .int signs_tongue_worlds]))] H → va_D A [(a_o, .inr (1, [.ref a_signs, .ref a_length, w_o_order, w_o_start, .int o_found])), (a_length, .inl (cI, 512, .inl f_length)), (a_signs, .inr (4, [.ref a_signs_tongue, w_signs_kept])), (a_signs_tongue, .inr (7, [w_signs_tongue_values, w_signs_tongue_left, .int signs_tongue_choices, .int signs_tongue_worlds]))] → va_S A s.heap H locs → lv_has ls 7 [(0, .ref a_o), (1, .int p1), (2, .int p2), (3, .int p3), (4, .int p4), (5, .int z_7), (6, .int x15_l6)] → W p l e rmX1_firstPartner s m args below meth c H locs 0 0 Q (F0 m 15 ls []) := by
    intro n
    induction n with
    | zero =>
      intro x15_l6 H locs ls h
      exact no_e h
    | succ n ih15 =>
      intro x15_l6 H locs ls h hP hD hS hl
      rw [P_X1_firstPartner_15] at h
      refine lv_iload hx hb dX1_firstPartner_15 (lv_at hl 6 rfl) ?_
      refine lv_iload hx hb dX1_firstPartner_17 (lv_at hl 5 rfl) ?_
      refine lv_icmp_gt (tgt := 61) hx hb dX1_firstPartner_19 (by decide) (fun c_19 => ?_) (fun c_19 => ?_)
      · replace h := it_e c_19 h
        refine lv_bipush (v := (-9)) hx hb dX1_firstPartner_61 bc_m9 ?_
        have hz := Option.some.inj h
        subst hz
        exact hret H locs 63 ls (fun ty h => by cases h; rfl) (hP.sub [0, 2, 3, 1] rfl) (hD.sub [0, 2, 3, 1] (by decide) rfl) hS dX1_firstPartner_63
      · replace h := if_e c_19 h
        refine lv_iload hx hb dX1_firstPartner_22 (lv_at hl 4 rfl) ?_
        obtain ⟨j38, hj38, h⟩ := jn_e h
        have Jj38 : ∀ (x38_s0 : Int32) (H : Heap) (locs : List Loc) (ls : Array Slot), j38 x38_s0 = some z → va_P D vwCl [(a_o, .inr (1, [.ref a_signs, .ref a_length, w_o_order, w_o_start, .int o_found])), (a_length, .inl (cI, 512, .inl f_length)), (a_signs, .inr (4, [.ref a_signs_tongue, w_signs_kept])), (a_signs_tongue, .inr (7, [w_signs_tongue_values, w_signs_tongue_left, .int signs_tongue_choices, .int signs_tongue_worlds]))] H → va_D A [(a_o, .inr (1, [.ref a_signs, .ref a_length, w_o_order, w_o_start, .int o_found])), (a_length, .inl (cI, 512, .inl f_length)), (a_signs, .inr (4, [.ref a_signs_tongue, w_signs_kept])), (a_signs_tongue, .inr (7, [w_signs_tongue_values, w_signs_tongue_left, .int signs_tongue_choices, .int signs_tongue_worlds]))] → va_S A s.heap H locs → lv_has ls 7 [(0, .ref a_o), (1, .int p1), (2, .int p2), (3, .int p3), (4, .int p4), (5, .int z_7), (6, .int x15_l6)] → W p l e rmX1_firstPartner s m args below meth c H locs 0 0 Q (F0 m 38 ls [.int x38_s0]) := by
          intro x38_s0 H locs ls h hP hD hS hl
          rw [hj38] at h
          refine lv_iload_n hx hb dX1_firstPartner_38 rfl (lv_at hl 3 rfl) ?_
          obtain ⟨j55, hj55, h⟩ := jn_e h
          have Jj55 : ∀ (H : Heap) (locs : List Loc) (ls : Array Slot), j55 () = some z → va_P D vwCl [(a_o, .inr (1, [.ref a_signs, .ref a_length, w_o_order, w_o_start, .int o_found])), (a_length, .inl (cI, 512, .inl f_length)), (a_signs, .inr (4, [.ref a_signs_tongue, w_signs_kept])), (a_signs_tongue, .inr (7, [w_signs_tongue_values, w_signs_tongue_left, .int signs_tongue_choices, .int signs_tongue_worlds]))] H → va_D A [(a_o, .inr (1, [.ref a_signs, .ref a_length, w_o_order, w_o_start, .int o_found])), (a_length, .inl (cI, 512, .inl f_length)), (a_signs, .inr (4, [.ref a_signs_tongue, w_signs_kept])), (a_signs_tongue, .inr (7, [w_signs_tongue_values, w_signs_tongue_left, .int signs_tongue_choices, .int signs_tongue_worlds]))] → va_S A s.heap H locs → lv_has ls 7 [(0, .ref a_o), (1, .int p1), (2, .int p2), (3, .int p3), (4, .int p4), (5, .int z_7), (6, .int x15_l6)] → W p l e rmX1_firstPartner s m args below meth c H locs 0 0 Q (F0 m 55 ls []) := by
            intro H locs ls h hP hD hS hl
            rw [hj55] at h
            refine lv_iinc (v := x15_l6 + 1) (lv' := [(6, .int (x15_l6 + 1)), (0, .ref a_o), (1, .int p1), (2, .int p2), (3, .int p3), (4, .int p4), (5, .int z_7)]) hx hb dX1_firstPartner_55 hl (k := 6) rfl (congrArg (x15_l6 + ·) ic_1) (by decide) rfl (fun ls hl => ?_)
            refine lv_goto (tgt := 15) hx hb dX1_firstPartner_58 (by decide) ?_
            exact ih15 (x15_l6 + 1) H locs ls h hP hD hS (lv_sub hl [1, 2, 3, 4, 5, 6, 0] rfl)
          refine lv_icmp_ne (tgt := 55) hx hb dX1_firstPartner_39 (by decide) (fun c_39 => ?_) (fun c_39 => ?_)
          · replace h := if_e c_39 h
            exact Jj55  H locs ls h hP hD hS hl
          · replace h := it_e c_39 h
            refine lv_aload_n hx hb dX1_firstPartner_42 rfl (lv_at hl 0 rfl) ?_
            refine lv_iload hx hb dX1_firstPartner_43 (lv_at hl 6 rfl) ?_
            obtain ⟨z_45, hc_45, h⟩ := bd_e h
            refine q_iV (As := [.int x15_l6]) (rest := []) (wF := [(a_signs, .inr (4, [.ref a_signs_tongue, w_signs_kept])), (a_signs_tongue, .inr (7, [w_signs_tongue_values, w_signs_tongue_left, .int signs_tongue_choices, .int signs_tongue_worlds])), (a_o, .inr (1, [.ref a_signs, .ref a_length, w_o_order, w_o_start, .int o_found])), (a_length, .inl (cI, 512, .inl f_length))]) hF hA hZ hK hP hD hS (c_X1_of l D cI cB cZ a_o (.ref a_signs) w_o_order w_o_start o_found a_length f_length x15_l6 z_45 hc_45) rfl gX1_firstPartner_X1_of hdX1_of ⟨rfl, rfl⟩ (Nat.le_of_ble_eq_true rfl) (Nat.le_of_ble_eq_true rfl) 1 0 rfl rfl [0, 1] [2, 3] rfl rfl rfl rfl (by decide) rfl hl.1 rfl (Nat.le_of_ble_eq_true rfl) (Nat.zero_le _) (Nat.zero_le _) dX1_firstPartner_45 (fun H locs hP hD hS => ?_)
            refine lv_iload_n hx hb dX1_firstPartner_48 rfl (lv_at hl 2 rfl) ?_
            refine lv_icmp_ne (tgt := 55) hx hb dX1_firstPartner_49 (by decide) (fun c_49 => ?_) (fun c_49 => ?_)
            · replace h := if_e c_49 h
              exact Jj55  H locs ls h (hP.sub [2, 3, 0, 1] rfl) (hD.sub [2, 3, 0, 1] (by decide) rfl) hS hl
            · replace h := it_e c_49 h
              refine lv_iload hx hb dX1_firstPartner_52 (lv_at hl 6 rfl) ?_
              have hz := Option.some.inj h
              subst hz
              exact hret H locs 54 ls (fun ty h => by cases h; rfl) (hP.sub [2, 0, 1, 3] rfl) (hD.sub [2, 0, 1, 3] (by decide) rfl) hS dX1_firstPartner_54
        refine lv_if_eq (tgt := 34) hx hb dX1_firstPartner_24 (by decide) (fun c_24 => ?_) (fun c_24 => ?_)
        · replace h := it_e c_24 h
          refine lv_iload_n hx hb dX1_firstPartner_34 rfl (lv_at hl 1 rfl) ?_
          refine lv_iload hx hb dX1_firstPartner_35 (lv_at hl 6 rfl) ?_
          refine lv_ior hx hb dX1_firstPartner_37 ?_
          exact Jj38 (p1 ||| x15_l6) H locs ls h hP hD hS hl
        · replace h := if_e c_24 h
          refine lv_iload_n hx hb dX1_firstPartner_27 rfl (lv_at hl 1 rfl) ?_
          refine lv_iload hx hb dX1_firstPartner_28 (lv_at hl 6 rfl) ?_
          refine lv_iand hx hb dX1_firstPartner_30 ?_
          refine lv_goto (tgt := 38) hx hb dX1_firstPartner_31 (by decide) ?_
          exact Jj38 (p1 &&& x15_l6) H locs ls h hP hD hS hl
  exact L15 QF 0 H locs ls h hP hD hS (lv_sub hl [2, 3, 4, 5, 6, 1, 0] rfl)
abbrev rmX1_firstPair : Room := { frames := 3, cells := 0, slots := 0, locals := 69 }
theorem hdX1_firstPair : yX1_firstPair.cls = RX1 ∧ yX1_firstPair.cls ≠ "java/lang/invoke/MethodHandle" ∧ yX1_firstPair.cls ≠ "java/lang/invoke/VarHandle" ∧ (parseMethodDescriptor yX1_firstPair.desc).map (fun d => d.parameters.length) = some 2 := by decide +kernel
set_option maxRecDepth 100000 in
set_option maxHeartbeats 4000000 in
theorem c_X1_firstPair (l : Launch) (D : va_G) (cI cB cZ : ClassId) (a_o : Nat) (w_o_order : Value) (w_o_start : Value) (o_found : Int32) (a_signs : Nat) (w_signs_kept : Value) (a_signs_tongue : Nat) (w_signs_tongue_values : Value) (w_signs_tongue_left : Value) (signs_tongue_choices : Int32) (signs_tongue_worlds : Int32) (a_length : Nat) (f_length : Nat → Int32) (p1 : Int32) (p2 : Int32) (z : Int32) (h : P_X1_firstPair p1 p2 signs_tongue_worlds f_length = some z) : KI l yX1_firstPair wsX1_firstPair rmX1_firstPair D [(cI, .int), (cB, .byte), (cZ, .boolean)] [.ref a_o, .int p1, .int p2] [(a_o, .inr (1, [.ref a_signs, .ref a_length, w_o_order, w_o_start, .int o_found])), (a_signs, .inr (4, [.ref a_signs_tongue, w_signs_kept])), (a_signs_tongue, .inr (7, [w_signs_tongue_values, w_signs_tongue_left, .int signs_tongue_choices, .int signs_tongue_worlds])), (a_length, .inl (cI, 512, .inl f_length))] [(a_o, .inr (1, [.ref a_signs, .ref a_length, w_o_order, w_o_start, .int o_found])), (a_signs, .inr (4, [.ref a_signs_tongue, w_signs_kept])), (a_signs_tongue, .inr (7, [w_signs_tongue_values, w_signs_tongue_left, .int signs_tongue_choices, .int signs_tongue_worlds])), (a_length, .inl (cI, 512, .inl f_length))] z := by
  refine KI_of (own := RX1) (cc := cX1_firstPair) (maxL := 8) (ret := some .int) (by decide) rfl rfl (Nat.le_of_ble_eq_true rfl) (Or.inl rfl) ?_
  intro p e s m args below meth c A Q hx hb hml hown hts hA hZ hK hret H locs ls hP hD hS hl
  have hl : lv_has ls 8 [(0, .ref a_o), (1, .int p1), (2, .int p2)] := hl
  have hF : CallFix p m c cX1_firstPair 8 s args wsX1_firstPair RX1 := ⟨hx, hb, hml, hown, hts⟩
  have u_X1 : ∀ w ∈ u_ws RX1 TX1 5, w ∈ wsX1_firstPair := by decide +kernel
  have k_f0 := hts (.fieldLink RX1 27 "NoWordNo$Lengths" "signs" "LNoWordNo$Signs;") (by decide +kernel)
  unfold P_X1_firstPair at h
  refine lv_aload_n hx hb dX1_firstPair_0 rfl (lv_at hl 0 rfl) ?_
  refine lv_iload_n hx hb dX1_firstPair_1 rfl (lv_at hl 1 rfl) ?_
  obtain ⟨z_2, hc_2, h⟩ := bd_e h
  refine q_iV (As := [.int p1]) (rest := []) (wF := [(a_signs, .inr (4, [.ref a_signs_tongue, w_signs_kept])), (a_signs_tongue, .inr (7, [w_signs_tongue_values, w_signs_tongue_left, .int signs_tongue_choices, .int signs_tongue_worlds])), (a_o, .inr (1, [.ref a_signs, .ref a_length, w_o_order, w_o_start, .int o_found])), (a_length, .inl (cI, 512, .inl f_length))]) hF hA hZ hK hP hD hS (c_X1_of l D cI cB cZ a_o (.ref a_signs) w_o_order w_o_start o_found a_length f_length p1 z_2 hc_2) rfl gX1_firstPair_X1_of hdX1_of ⟨rfl, rfl⟩ (Nat.le_of_ble_eq_true rfl) (Nat.le_of_ble_eq_true rfl) 1 0 rfl rfl [0, 3] [1, 2] rfl rfl rfl rfl (by decide) rfl hl.1 rfl (Nat.le_of_ble_eq_true rfl) (Nat.zero_le _) (Nat.zero_le _) dX1_firstPair_2 (fun H locs hP hD hS => ?_)
  refine lv_istore_n (lv' := [(3, .int z_2), (0, .ref a_o), (1, .int p1), (2, .int p2)]) hx hb dX1_firstPair_5 rfl hl (by decide) rfl (fun ls hl => ?_)
  refine lv_aload_n hx hb dX1_firstPair_6 rfl (lv_at hl 1 rfl) ?_
  refine va_get (D := D) (ci := 1) (v := .ref a_signs) (C := RX1) (T := TX1) (N := 5) hx hb hts u_X1 hown hK hP 2 rfl rfl 0 (by decide) k_f0 (fun _ h9 => h9) rfl dX1_firstPair_7 ?_
  refine q_rV (As := []) (rest := []) (wF := [(a_o, .inr (1, [.ref a_signs, .ref a_length, w_o_order, w_o_start, .int o_found])), (a_length, .inl (cI, 512, .inl f_length)), (a_signs, .inr (4, [.ref a_signs_tongue, w_signs_kept])), (a_signs_tongue, .inr (7, [w_signs_tongue_values, w_signs_tongue_left, .int signs_tongue_choices, .int signs_tongue_worlds]))]) hF hA hZ hK hP hD hS (c_X5_speech l D cI cB cZ a_signs w_signs_kept a_signs_tongue w_signs_tongue_values w_signs_tongue_left signs_tongue_choices signs_tongue_worlds) rfl gX1_firstPair_X5_speech hdX5_speech ⟨rfl, rfl⟩ (Nat.le_of_ble_eq_true rfl) (Nat.le_of_ble_eq_true rfl) 4 0 rfl rfl [0, 1] [2, 3] rfl rfl rfl rfl (by decide) rfl hl.1 rfl (Nat.le_of_ble_eq_true rfl) (Nat.zero_le _) (Nat.zero_le _) dX1_firstPair_10 (fun H locs hP hD hS => ?_)
  obtain ⟨z_13, hc_13, h⟩ := bd_e h
  refine q_iV (As := []) (rest := []) (wF := [(a_o, .inr (1, [.ref a_signs, .ref a_length, w_o_order, w_o_start, .int o_found])), (a_length, .inl (cI, 512, .inl f_length)), (a_signs, .inr (4, [.ref a_signs_tongue, w_signs_kept])), (a_signs_tongue, .inr (7, [w_signs_tongue_values, w_signs_tongue_left, .int signs_tongue_choices, .int signs_tongue_worlds]))]) hF hA hZ hK hP hD hS (c_X8_all l D cI cB cZ a_signs_tongue w_signs_tongue_values w_signs_tongue_left signs_tongue_choices signs_tongue_worlds z_13 hc_13) rfl gX1_firstPair_X8_all hdX8_all ⟨rfl, rfl⟩ (Nat.le_of_ble_eq_true rfl) (Nat.le_of_ble_eq_true rfl) 7 0 rfl rfl [3] [0, 1, 2] rfl rfl rfl rfl (by decide) rfl hl.1 rfl (Nat.le_of_ble_eq_true rfl) (Nat.zero_le _) (Nat.zero_le _) dX1_firstPair_13 (fun H locs hP hD hS => ?_)
  refine lv_istore (lv' := [(4, .int z_13), (3, .int z_2), (0, .ref a_o), (1, .int p1), (2, .int p2)]) hx hb dX1_firstPair_16 hl (by decide) rfl (fun ls hl => ?_)
  refine lv_iconst (v := 0) hx hb dX1_firstPair_18 ic_0 ?_
  refine lv_istore (lv' := [(5, .int 0), (4, .int z_13), (3, .int z_2), (0, .ref a_o), (1, .int p1), (2, .int p2)]) hx hb dX1_firstPair_19 hl (by decide) rfl (fun ls hl => ?_)
  obtain ⟨k77, hk77, h⟩ := jn_e h
  have Jk77 : ∀ (x77_l5 : Int32) (x77_l7 : Int32) (H : Heap) (locs : List Loc) (ls : Array Slot), k77 x77_l5 x77_l7 = some z → va_P D vwCl [(a_o, .inr (1, [.ref a_signs, .ref a_length, w_o_order, w_o_start, .int o_found])), (a_length, .inl (cI, 512, .inl f_length)), (a_signs, .inr (4, [.ref a_signs_tongue, w_signs_kept])), (a_signs_tongue, .inr (7, [w_signs_tongue_values, w_signs_tongue_left, .int signs_tongue_choices, .int signs_tongue_worlds]))] H → va_D A [(a_o, .inr (1, [.ref a_signs, .ref a_length, w_o_order, w_o_start, .int o_found])), (a_length, .inl (cI, 512, .inl f_length)), (a_signs, .inr (4, [.ref a_signs_tongue, w_signs_kept])), (a_signs_tongue, .inr (7, [w_signs_tongue_values, w_signs_tongue_left, .int signs_tongue_choices, .int signs_tongue_worlds]))] → va_S A s.heap H locs → lv_has ls 8 [(5, .int x77_l5), (7, .int x77_l7)] → W p l e rmX1_firstPair s m args below meth c H locs 0 0 Q (F0 m 77 ls []) := by
    intro x77_l5 x77_l7 H locs ls h hP hD hS hl
    rw [hk77] at h
    refine lv_iload hx hb dX1_firstPair_77 (lv_at hl 0 rfl) ?_
    refine lv_sipush (v := 512) hx hb dX1_firstPair_79 sc_512 ?_
    refine lv_imul hx hb dX1_firstPair_82 ?_
    refine lv_iload hx hb dX1_firstPair_83 (lv_at hl 1 rfl) ?_
    refine lv_iadd hx hb dX1_firstPair_85 ?_
    have hz := Option.some.inj h
    subst hz
    exact hret H locs 86 ls (fun ty h => by cases h; rfl) (hP.sub [0, 2, 3, 1] rfl) (hD.sub [0, 2, 3, 1] (by decide) rfl) hS dX1_firstPair_86
  have L21 : ∀ (n : Nat), ∀ (x21_l5 : Int32) (H : Heap) (locs : List Loc) (ls : Array Slot), P_X1_firstPair_21 p1 p2 signs_tongue_worlds f_length z_2 z_13 k77 n x21_l5 = some z → va_P D vwCl [(a_o, .inr (1, [.ref a_signs, .ref a_length, w_o_order, w_o_start, .int o_found])), (a_length, .inl (cI, 512, .inl f_length)), (a_signs, .inr (4, [.ref a_signs_tongue, w_signs_kept])), (a_signs_tongue, .inr (7, [w_signs_tongue_values, w_signs_tongue_left, .int signs_tongue_choices, .int signs_tongue_worlds]))] H → va_D A [(a_o, .inr (1, [.ref a_signs, .ref a_length, w_o_order, w_o_start, .int o_found])), (a_length, .inl (cI, 512, .inl f_length)), (a_signs, .inr (4, [.ref a_signs_tongue, w_signs_kept])), (a_signs_tongue, .inr (7, [w_signs_tongue_values, w_signs_tongue_left, .int signs_tongue_choices, .int signs_tongue_worlds]))] → va_S A s.heap H locs → lv_has ls 8 [(0, .ref a_o), (1, .int p1), (2, .int p2), (3, .int z_2), (4, .int z_13), (5, .int x21_l5)] → W p l e rmX1_firstPair s m args below meth c H locs 0 0 Q (F0 m 21 ls []) := by
    intro n
    induction n with
    | zero =>
      intro x21_l5 H locs ls h
      exact no_e h
    | succ n ih21 =>
      intro x21_l5 H locs ls h hP hD hS hl
      rw [P_X1_firstPair_21] at h
      refine lv_iload hx hb dX1_firstPair_21 (lv_at hl 5 rfl) ?_
      refine lv_iload hx hb dX1_firstPair_23 (lv_at hl 4 rfl) ?_
      refine lv_icmp_gt (tgt := 93) hx hb dX1_firstPair_25 (by decide) (fun c_25 => ?_) (fun c_25 => ?_)
      · replace h := it_e c_25 h
        refine lv_bipush (v := (-9)) hx hb dX1_firstPair_93 bc_m9 ?_
        have hz := Option.some.inj h
        subst hz
        exact hret H locs 95 ls (fun ty h => by cases h; rfl) (hP.sub [0, 2, 3, 1] rfl) (hD.sub [0, 2, 3, 1] (by decide) rfl) hS dX1_firstPair_95
      · replace h := if_e c_25 h
        refine lv_aload_n hx hb dX1_firstPair_28 rfl (lv_at hl 0 rfl) ?_
        refine lv_iload hx hb dX1_firstPair_29 (lv_at hl 5 rfl) ?_
        refine lv_iload_n hx hb dX1_firstPair_31 rfl (lv_at hl 1 rfl) ?_
        refine lv_iload_n hx hb dX1_firstPair_32 rfl (lv_at hl 2 rfl) ?_
        obtain ⟨z_33, hc_33, h⟩ := bd_e h
        refine q_iV (As := [.int x21_l5, .int p1, .int p2]) (rest := []) (wF := [(a_signs, .inr (4, [.ref a_signs_tongue, w_signs_kept])), (a_signs_tongue, .inr (7, [w_signs_tongue_values, w_signs_tongue_left, .int signs_tongue_choices, .int signs_tongue_worlds])), (a_o, .inr (1, [.ref a_signs, .ref a_length, w_o_order, w_o_start, .int o_found])), (a_length, .inl (cI, 512, .inl f_length))]) hF hA hZ hK hP hD hS (c_X1_canStep l D cI cB cZ a_o (.ref a_signs) w_o_order w_o_start o_found a_length f_length x21_l5 p1 p2 z_33 hc_33) rfl gX1_firstPair_X1_canStep hdX1_canStep ⟨rfl, rfl⟩ (Nat.le_of_ble_eq_true rfl) (Nat.le_of_ble_eq_true rfl) 1 0 rfl rfl [0, 1] [2, 3] rfl rfl rfl rfl (by decide) rfl hl.1 rfl (Nat.le_of_ble_eq_true rfl) (Nat.zero_le _) (Nat.zero_le _) dX1_firstPair_33 (fun H locs hP hD hS => ?_)
        obtain ⟨j51, hj51, h⟩ := jn_e h
        have Jj51 : ∀ (x51_s0 : Int32) (H : Heap) (locs : List Loc) (ls : Array Slot), j51 x51_s0 = some z → va_P D vwCl [(a_signs, .inr (4, [.ref a_signs_tongue, w_signs_kept])), (a_signs_tongue, .inr (7, [w_signs_tongue_values, w_signs_tongue_left, .int signs_tongue_choices, .int signs_tongue_worlds])), (a_o, .inr (1, [.ref a_signs, .ref a_length, w_o_order, w_o_start, .int o_found])), (a_length, .inl (cI, 512, .inl f_length))] H → va_D A [(a_signs, .inr (4, [.ref a_signs_tongue, w_signs_kept])), (a_signs_tongue, .inr (7, [w_signs_tongue_values, w_signs_tongue_left, .int signs_tongue_choices, .int signs_tongue_worlds])), (a_o, .inr (1, [.ref a_signs, .ref a_length, w_o_order, w_o_start, .int o_found])), (a_length, .inl (cI, 512, .inl f_length))] → va_S A s.heap H locs → lv_has ls 8 [(0, .ref a_o), (1, .int p1), (2, .int p2), (3, .int z_2), (4, .int z_13), (5, .int x21_l5)] → W p l e rmX1_firstPair s m args below meth c H locs 0 0 Q (F0 m 51 ls [.int x51_s0]) := by
          intro x51_s0 H locs ls h hP hD hS hl
          rw [hj51] at h
          refine lv_istore (lv' := [(6, .int x51_s0), (0, .ref a_o), (1, .int p1), (2, .int p2), (3, .int z_2), (4, .int z_13), (5, .int x21_l5)]) hx hb dX1_firstPair_51 hl (by decide) rfl (fun ls hl => ?_)
          refine lv_iload hx hb dX1_firstPair_53 (lv_at hl 0 rfl) ?_
          obtain ⟨j87, hj87, h⟩ := jn_e h
          have Jj87 : ∀ (H : Heap) (locs : List Loc) (ls : Array Slot), j87 () = some z → va_P D vwCl [(a_signs, .inr (4, [.ref a_signs_tongue, w_signs_kept])), (a_signs_tongue, .inr (7, [w_signs_tongue_values, w_signs_tongue_left, .int signs_tongue_choices, .int signs_tongue_worlds])), (a_o, .inr (1, [.ref a_signs, .ref a_length, w_o_order, w_o_start, .int o_found])), (a_length, .inl (cI, 512, .inl f_length))] H → va_D A [(a_signs, .inr (4, [.ref a_signs_tongue, w_signs_kept])), (a_signs_tongue, .inr (7, [w_signs_tongue_values, w_signs_tongue_left, .int signs_tongue_choices, .int signs_tongue_worlds])), (a_o, .inr (1, [.ref a_signs, .ref a_length, w_o_order, w_o_start, .int o_found])), (a_length, .inl (cI, 512, .inl f_length))] → va_S A s.heap H locs → lv_has ls 8 [(0, .ref a_o), (1, .int p1), (2, .int p2), (3, .int z_2), (4, .int z_13), (5, .int x21_l5)] → W p l e rmX1_firstPair s m args below meth c H locs 0 0 Q (F0 m 87 ls []) := by
            intro H locs ls h hP hD hS hl
            rw [hj87] at h
            refine lv_iinc (v := x21_l5 + 1) (lv' := [(5, .int (x21_l5 + 1)), (0, .ref a_o), (1, .int p1), (2, .int p2), (3, .int z_2), (4, .int z_13)]) hx hb dX1_firstPair_87 hl (k := 5) rfl (congrArg (x21_l5 + ·) ic_1) (by decide) rfl (fun ls hl => ?_)
            refine lv_goto (tgt := 21) hx hb dX1_firstPair_90 (by decide) ?_
            exact ih21 (x21_l5 + 1) H locs ls h (hP.sub [2, 3, 0, 1] rfl) (hD.sub [2, 3, 0, 1] (by decide) rfl) hS (lv_sub hl [1, 2, 3, 4, 5, 0] rfl)
          refine lv_if_le (tgt := 87) hx hb dX1_firstPair_55 (by decide) (fun c_55 => ?_) (fun c_55 => ?_)
          · replace h := it_e c_55 h
            exact Jj87  H locs ls h hP hD hS (lv_sub hl [1, 2, 3, 4, 5, 6] rfl)
          · replace h := if_e c_55 h
            refine lv_aload_n hx hb dX1_firstPair_58 rfl (lv_at hl 1 rfl) ?_
            refine lv_iload hx hb dX1_firstPair_59 (lv_at hl 6 rfl) ?_
            refine lv_iload hx hb dX1_firstPair_61 (lv_at hl 0 rfl) ?_
            refine lv_iload_n hx hb dX1_firstPair_63 rfl (lv_at hl 2 rfl) ?_
            refine lv_iload_n hx hb dX1_firstPair_64 rfl (lv_at hl 3 rfl) ?_
            obtain ⟨z_65, hc_65, h⟩ := bd_e h
            refine q_iV (As := [.int x21_l5, .int x51_s0, .int p1, .int p2]) (rest := []) (wF := [(a_o, .inr (1, [.ref a_signs, .ref a_length, w_o_order, w_o_start, .int o_found])), (a_signs, .inr (4, [.ref a_signs_tongue, w_signs_kept])), (a_signs_tongue, .inr (7, [w_signs_tongue_values, w_signs_tongue_left, .int signs_tongue_choices, .int signs_tongue_worlds])), (a_length, .inl (cI, 512, .inl f_length))]) hF hA hZ hK hP hD hS (c_X1_firstPartner l D cI cB cZ a_o w_o_order w_o_start o_found a_signs w_signs_kept a_signs_tongue w_signs_tongue_values w_signs_tongue_left signs_tongue_choices signs_tongue_worlds a_length f_length x21_l5 x51_s0 p1 p2 z_65 hc_65) rfl gX1_firstPair_X1_firstPartner hdX1_firstPartner ⟨rfl, rfl⟩ (Nat.le_of_ble_eq_true rfl) (Nat.le_of_ble_eq_true rfl) 1 0 rfl rfl [2, 0, 1, 3] [] rfl rfl rfl rfl (by decide) rfl hl.1 rfl (Nat.le_of_ble_eq_true rfl) (Nat.zero_le _) (Nat.zero_le _) dX1_firstPair_65 (fun H locs hP hD hS => ?_)
            refine lv_istore (lv' := [(7, .int z_65), (6, .int x51_s0), (0, .ref a_o), (1, .int p1), (2, .int p2), (3, .int z_2), (4, .int z_13), (5, .int x21_l5)]) hx hb dX1_firstPair_68 hl (by decide) rfl (fun ls hl => ?_)
            refine lv_iload hx hb dX1_firstPair_70 (lv_at hl 0 rfl) ?_
            refine lv_bipush (v := (-9)) hx hb dX1_firstPair_72 bc_m9 ?_
            refine lv_icmp_eq (tgt := 87) hx hb dX1_firstPair_74 (by decide) (fun c_74 => ?_) (fun c_74 => ?_)
            · replace h := it_e c_74 h
              exact Jj87  H locs ls h (hP.sub [1, 2, 0, 3] rfl) (hD.sub [1, 2, 0, 3] (by decide) rfl) hS (lv_sub hl [2, 3, 4, 5, 6, 7] rfl)
            · replace h := if_e c_74 h
              exact Jk77 x21_l5 z_65 H locs ls h (hP.sub [0, 3, 1, 2] rfl) (hD.sub [0, 3, 1, 2] (by decide) rfl) hS (lv_sub hl [7, 0] rfl)
        refine lv_if_eq (tgt := 50) hx hb dX1_firstPair_36 (by decide) (fun c_36 => ?_) (fun c_36 => ?_)
        · replace h := it_e c_36 h
          refine lv_iconst (v := 0) hx hb dX1_firstPair_50 ic_0 ?_
          exact Jj51 0 H locs ls h hP hD hS hl
        · replace h := if_e c_36 h
          refine lv_iload_n hx hb dX1_firstPair_39 rfl (lv_at hl 3 rfl) ?_
          refine lv_aload_n hx hb dX1_firstPair_40 rfl (lv_at hl 0 rfl) ?_
          refine lv_iload hx hb dX1_firstPair_41 (lv_at hl 5 rfl) ?_
          obtain ⟨z_43, hc_43, h⟩ := bd_e h
          refine q_iV (As := [.int x21_l5]) (rest := [.int z_2]) (wF := [(a_signs, .inr (4, [.ref a_signs_tongue, w_signs_kept])), (a_signs_tongue, .inr (7, [w_signs_tongue_values, w_signs_tongue_left, .int signs_tongue_choices, .int signs_tongue_worlds])), (a_o, .inr (1, [.ref a_signs, .ref a_length, w_o_order, w_o_start, .int o_found])), (a_length, .inl (cI, 512, .inl f_length))]) hF hA hZ hK hP hD hS (c_X1_of l D cI cB cZ a_o (.ref a_signs) w_o_order w_o_start o_found a_length f_length x21_l5 z_43 hc_43) rfl gX1_firstPair_X1_of hdX1_of ⟨rfl, rfl⟩ (Nat.le_of_ble_eq_true rfl) (Nat.le_of_ble_eq_true rfl) 1 0 rfl rfl [2, 3] [0, 1] rfl rfl rfl rfl (by decide) rfl hl.1 rfl (Nat.le_of_ble_eq_true rfl) (Nat.zero_le _) (Nat.zero_le _) dX1_firstPair_43 (fun H locs hP hD hS => ?_)
          refine lv_isub hx hb dX1_firstPair_46 ?_
          refine lv_goto (tgt := 51) hx hb dX1_firstPair_47 (by decide) ?_
          exact Jj51 (z_2 - z_43) H locs ls h hP hD hS hl
  exact L21 QF 0 H locs ls h hP hD hS (lv_sub hl [3, 4, 5, 2, 1, 0] rfl)
abbrev rmX1_firstOf : Room := { frames := 0, cells := 0, slots := 0, locals := 0 }
theorem hdX1_firstOf : yX1_firstOf.cls ≠ "java/lang/invoke/MethodHandle" ∧ yX1_firstOf.cls ≠ "java/lang/invoke/VarHandle" ∧ (parseMethodDescriptor yX1_firstOf.desc).map (fun d => d.parameters.length) = some 1 := by decide +kernel
set_option maxRecDepth 100000 in
set_option maxHeartbeats 4000000 in
theorem c_X1_firstOf (l : Launch) (D : va_G) (cI cB cZ : ClassId) (p0 : Int32) (z : Int32) (h : P_X1_firstOf p0 = some z) : KI l yX1_firstOf wsX1_firstOf rmX1_firstOf D [(cI, .int), (cB, .byte), (cZ, .boolean)] [.int p0] [] [] z := by
  refine KI_of (own := RX1) (cc := cX1_firstOf) (maxL := 1) (ret := some .int) (by decide) rfl rfl (Nat.le_of_ble_eq_true rfl) (Or.inl rfl) ?_
  intro p e s m args below meth c A Q hx hb hml hown hts hA hZ hK hret H locs ls hP hD hS hl
  have hl : lv_has ls 1 [(0, .int p0)] := hl
  have hF : CallFix p m c cX1_firstOf 1 s args wsX1_firstOf RX1 := ⟨hx, hb, hml, hown, hts⟩
  unfold P_X1_firstOf at h
  refine lv_iload_n hx hb dX1_firstOf_0 rfl (lv_at hl 0 rfl) ?_
  refine lv_sipush (v := 512) hx hb dX1_firstOf_1 sc_512 ?_
  refine lv_idiv hx hb dX1_firstOf_4 (by decide) ?_
  have hz := Option.some.inj h
  subst hz
  exact hret H locs 5 ls (fun ty h => by cases h; rfl) hP hD hS dX1_firstOf_5
abbrev rmX1_secondOf : Room := { frames := 0, cells := 0, slots := 0, locals := 0 }
theorem hdX1_secondOf : yX1_secondOf.cls ≠ "java/lang/invoke/MethodHandle" ∧ yX1_secondOf.cls ≠ "java/lang/invoke/VarHandle" ∧ (parseMethodDescriptor yX1_secondOf.desc).map (fun d => d.parameters.length) = some 1 := by decide +kernel
set_option maxRecDepth 100000 in
set_option maxHeartbeats 4000000 in
theorem c_X1_secondOf (l : Launch) (D : va_G) (cI cB cZ : ClassId) (p0 : Int32) (z : Int32) (h : P_X1_secondOf p0 = some z) : KI l yX1_secondOf wsX1_secondOf rmX1_secondOf D [(cI, .int), (cB, .byte), (cZ, .boolean)] [.int p0] [] [] z := by
  refine KI_of (own := RX1) (cc := cX1_secondOf) (maxL := 1) (ret := some .int) (by decide) rfl rfl (Nat.le_of_ble_eq_true rfl) (Or.inl rfl) ?_
  intro p e s m args below meth c A Q hx hb hml hown hts hA hZ hK hret H locs ls hP hD hS hl
  have hl : lv_has ls 1 [(0, .int p0)] := hl
  have hF : CallFix p m c cX1_secondOf 1 s args wsX1_secondOf RX1 := ⟨hx, hb, hml, hown, hts⟩
  unfold P_X1_secondOf at h
  refine lv_iload_n hx hb dX1_secondOf_0 rfl (lv_at hl 0 rfl) ?_
  refine lv_sipush (v := 512) hx hb dX1_secondOf_1 sc_512 ?_
  refine lv_irem hx hb dX1_secondOf_4 (by decide) ?_
  have hz := Option.some.inj h
  subst hz
  exact hret H locs 5 ls (fun ty h => by cases h; rfl) hP hD hS dX1_secondOf_5
abbrev rmX10_pairPart : Room := { frames := 1, cells := 0, slots := 0, locals := 20 }
theorem hdX10_pairPart : yX10_pairPart.cls ≠ "java/lang/invoke/MethodHandle" ∧ yX10_pairPart.cls ≠ "java/lang/invoke/VarHandle" ∧ (parseMethodDescriptor yX10_pairPart.desc).map (fun d => d.parameters.length) = some 3 := by decide +kernel
set_option maxRecDepth 100000 in
set_option maxHeartbeats 4000000 in
theorem c_X10_pairPart (l : Launch) (D : va_G) (cI cB cZ : ClassId) (p0 : Int32) (p1 : Int32) (p2 : Int32) (z : Int32) (h : P_X10_pairPart p0 p1 p2 = some z) : KI l yX10_pairPart wsX10_pairPart rmX10_pairPart D [(cI, .int), (cB, .byte), (cZ, .boolean)] [.int p0, .int p1, .int p2] [] [] z := by
  refine KI_of (own := RX10) (cc := cX10_pairPart) (maxL := 3) (ret := some .int) (by decide) rfl rfl (Nat.le_of_ble_eq_true rfl) (Or.inl rfl) ?_
  intro p e s m args below meth c A Q hx hb hml hown hts hA hZ hK hret H locs ls hP hD hS hl
  have hl : lv_has ls 3 [(0, .int p0), (1, .int p1), (2, .int p2)] := hl
  have hF : CallFix p m c cX10_pairPart 3 s args wsX10_pairPart RX10 := ⟨hx, hb, hml, hown, hts⟩
  unfold P_X10_pairPart at h
  refine lv_iload_n hx hb dX10_pairPart_0 rfl (lv_at hl 2 rfl) ?_
  refine lv_if_ne (tgt := 6) hx hb dX10_pairPart_1 (by decide) (fun c_1 => ?_) (fun c_1 => ?_)
  · replace h := if_e c_1 h
    refine lv_iload_n hx hb dX10_pairPart_6 rfl (lv_at hl 2 rfl) ?_
    refine lv_iconst (v := 1) hx hb dX10_pairPart_7 ic_1 ?_
    refine lv_icmp_ne (tgt := 18) hx hb dX10_pairPart_8 (by decide) (fun c_8 => ?_) (fun c_8 => ?_)
    · replace h := if_e c_8 h
      refine lv_iload_n hx hb dX10_pairPart_18 rfl (lv_at hl 1 rfl) ?_
      obtain ⟨z_19, hc_19, h⟩ := bd_e h
      refine q_iS (As := [.int p1]) (rest := []) (wF := []) hF hA hZ hK hP hD hS (c_X1_secondOf l D cI cB cZ p1 z_19 hc_19) rfl gX10_pairPart_X1_secondOf hdX1_secondOf ⟨rfl, rfl⟩ (Nat.le_of_ble_eq_true rfl) (Nat.le_of_ble_eq_true rfl) [] [] rfl rfl rfl rfl (by decide) rfl hl.1 rfl (Nat.le_of_ble_eq_true rfl) (Nat.zero_le _) (Nat.zero_le _) dX10_pairPart_19 (fun H locs hP hD hS => ?_)
      have hz := Option.some.inj h
      subst hz
      exact hret H locs 22 ls (fun ty h => by cases h; rfl) hP hD hS dX10_pairPart_22
    · replace h := it_e c_8 h
      refine lv_iload_n hx hb dX10_pairPart_11 rfl (lv_at hl 1 rfl) ?_
      obtain ⟨z_12, hc_12, h⟩ := bd_e h
      refine q_iS (As := [.int p1]) (rest := []) (wF := []) hF hA hZ hK hP hD hS (c_X1_firstOf l D cI cB cZ p1 z_12 hc_12) rfl gX10_pairPart_X1_firstOf hdX1_firstOf ⟨rfl, rfl⟩ (Nat.le_of_ble_eq_true rfl) (Nat.le_of_ble_eq_true rfl) [] [] rfl rfl rfl rfl (by decide) rfl hl.1 rfl (Nat.le_of_ble_eq_true rfl) (Nat.zero_le _) (Nat.zero_le _) dX10_pairPart_12 (fun H locs hP hD hS => ?_)
      refine lv_goto (tgt := 22) hx hb dX10_pairPart_15 (by decide) ?_
      have hz := Option.some.inj h
      subst hz
      exact hret H locs 22 ls (fun ty h => by cases h; rfl) hP hD hS dX10_pairPart_22
  · replace h := it_e c_1 h
    refine lv_iload_n hx hb dX10_pairPart_4 rfl (lv_at hl 0 rfl) ?_
    have hz := Option.some.inj h
    subst hz
    exact hret H locs 5 ls (fun ty h => by cases h; rfl) hP hD hS dX10_pairPart_5
abbrev rmX10_made : Room := { frames := 6, cells := 0, slots := 0, locals := 132 }
theorem hdX10_made : yX10_made.cls = RX10 ∧ yX10_made.cls ≠ "java/lang/invoke/MethodHandle" ∧ yX10_made.cls ≠ "java/lang/invoke/VarHandle" ∧ (parseMethodDescriptor yX10_made.desc).map (fun d => d.parameters.length) = some 2 := by decide +kernel
set_option maxRecDepth 100000 in
set_option maxHeartbeats 4000000 in
theorem c_X10_made (l : Launch) (D : va_G) (cI cB cZ : ClassId) (a_o : Nat) (w_o_text : Value) (w_o_image0 : Value) (w_o_image1 : Value) (w_o_reader : Value) (w_o_refusals : Value) (w_o_two : Value) (o_measured : Int32) (o_traced : Int64) (a_speech : Nat) (speech_choices : Int32) (speech_worlds : Int32) (a_speech_values : Nat) (f_speech_values : Nat → Int32) (a_speech_left : Nat) (f_speech_left : Nat → Int32) (a_now : Nat) (w_now_left : Value) (w_now_signs : Value) (now_sayings : Int32) (now_words : Int32) (now_filled : Int32) (a_now_wordSets : Nat) (f_now_wordSets : Nat → Int32) (a_signs : Nat) (a_lengths : Nat) (lengths_found : Int32) (a_lengths_length : Nat) (f_lengths_length : Nat → Int32) (a_lengths_order : Nat) (f_lengths_order : Nat → Int32) (a_lengths_start : Nat) (f_lengths_start : Nat → Int32) (p1 : Int32) (p2 : Int32) (z : Int32 × Int32 × Int32 × (Nat → Int32) × (Nat → Int32) × (Nat → Int32)) (h : P_X10_made p1 p2 o_measured speech_choices speech_worlds f_speech_values f_speech_left now_words f_now_wordSets lengths_found f_lengths_length f_lengths_order f_lengths_start = some z) : KI l yX10_made wsX10_made rmX10_made D [(cI, .int), (cB, .byte), (cZ, .boolean)] [.ref a_o, .int p1, .int p2] [(a_o, .inr (9, [w_o_text, .ref a_speech, .ref a_now, w_o_image0, w_o_image1, .ref a_signs, w_o_reader, .ref a_lengths, w_o_refusals, w_o_two, .int o_measured, .long o_traced])), (a_speech, .inr (7, [.ref a_speech_values, .ref a_speech_left, .int speech_choices, .int speech_worlds])), (a_speech_values, .inl (cI, 3, .inl f_speech_values)), (a_speech_left, .inl (cI, 30, .inl f_speech_left)), (a_now, .inr (0, [w_now_left, w_now_signs, .ref a_now_wordSets, .int now_sayings, .int now_words, .int now_filled])), (a_now_wordSets, .inl (cI, 3, .inl f_now_wordSets)), (a_signs, .inr (4, [.ref a_speech, .ref a_now])), (a_lengths, .inr (1, [.ref a_signs, .ref a_lengths_length, .ref a_lengths_order, .ref a_lengths_start, .int lengths_found])), (a_lengths_length, .inl (cI, 512, .inl f_lengths_length)), (a_lengths_order, .inl (cI, 512, .inl f_lengths_order)), (a_lengths_start, .inl (cI, 34, .inl f_lengths_start))] [(a_o, .inr (9, [w_o_text, .ref a_speech, .ref a_now, w_o_image0, w_o_image1, .ref a_signs, w_o_reader, .ref a_lengths, w_o_refusals, w_o_two, .int z.2.1, .long o_traced])), (a_speech, .inr (7, [.ref a_speech_values, .ref a_speech_left, .int speech_choices, .int speech_worlds])), (a_speech_values, .inl (cI, 3, .inl f_speech_values)), (a_speech_left, .inl (cI, 30, .inl f_speech_left)), (a_now, .inr (0, [w_now_left, w_now_signs, .ref a_now_wordSets, .int now_sayings, .int now_words, .int now_filled])), (a_now_wordSets, .inl (cI, 3, .inl f_now_wordSets)), (a_signs, .inr (4, [.ref a_speech, .ref a_now])), (a_lengths, .inr (1, [.ref a_signs, .ref a_lengths_length, .ref a_lengths_order, .ref a_lengths_start, .int z.2.2.1])), (a_lengths_length, .inl (cI, 512, .inl z.2.2.2.1)), (a_lengths_order, .inl (cI, 512, .inl z.2.2.2.2.1)), (a_lengths_start, .inl (cI, 34, .inl z.2.2.2.2.2))] z.1 := by
  refine KI_of (own := RX10) (cc := cX10_made) (maxL := 6) (ret := some .int) (by decide) rfl rfl (Nat.le_of_ble_eq_true rfl) (Or.inl rfl) ?_
  intro p e s m args below meth c A Q hx hb hml hown hts hA hZ hK hret H locs ls hP hD hS hl
  have hl : lv_has ls 6 [(0, .ref a_o), (1, .int p1), (2, .int p2)] := hl
  have hF : CallFix p m c cX10_made 6 s args wsX10_made RX10 := ⟨hx, hb, hml, hown, hts⟩
  have u_X10 : ∀ w ∈ u_ws RX10 TX10 12, w ∈ wsX10_made := by decide +kernel
  have k_f0 := hts (.fieldLink RX10 19 "NoWordNo" "speech" "LNoWordNo$Tongue;") (by decide +kernel)
  have k_f1 := hts (.fieldLink RX10 41 "NoWordNo" "signs" "LNoWordNo$Signs;") (by decide +kernel)
  have k_f2 := hts (.fieldLink RX10 59 "NoWordNo" "lengths" "LNoWordNo$Lengths;") (by decide +kernel)
  unfold P_X10_made at h
  refine lv_aload_n hx hb dX10_made_0 rfl (lv_at hl 0 rfl) ?_
  refine va_get (D := D) (ci := 9) (v := .ref a_speech) (C := RX10) (T := TX10) (N := 12) hx hb hts u_X10 hown hK hP 0 rfl rfl 1 (by decide) k_f0 (fun _ h9 => h9) rfl dX10_made_1 ?_
  refine lv_iload_n hx hb dX10_made_4 rfl (lv_at hl 1 rfl) ?_
  obtain ⟨z_5, hc_5, h⟩ := bd_e h
  refine q_iV (As := [.int p1]) (rest := []) (wF := [(a_o, .inr (9, [w_o_text, .ref a_speech, .ref a_now, w_o_image0, w_o_image1, .ref a_signs, w_o_reader, .ref a_lengths, w_o_refusals, w_o_two, .int o_measured, .long o_traced])), (a_speech_values, .inl (cI, 3, .inl f_speech_values)), (a_speech_left, .inl (cI, 30, .inl f_speech_left)), (a_now, .inr (0, [w_now_left, w_now_signs, .ref a_now_wordSets, .int now_sayings, .int now_words, .int now_filled])), (a_now_wordSets, .inl (cI, 3, .inl f_now_wordSets)), (a_signs, .inr (4, [.ref a_speech, .ref a_now])), (a_lengths, .inr (1, [.ref a_signs, .ref a_lengths_length, .ref a_lengths_order, .ref a_lengths_start, .int lengths_found])), (a_lengths_length, .inl (cI, 512, .inl f_lengths_length)), (a_lengths_order, .inl (cI, 512, .inl f_lengths_order)), (a_lengths_start, .inl (cI, 34, .inl f_lengths_start)), (a_speech, .inr (7, [.ref a_speech_values, .ref a_speech_left, .int speech_choices, .int speech_worlds]))]) hF hA hZ hK hP hD hS (c_X8_isSet l D cI cB cZ a_speech (.ref a_speech_values) (.ref a_speech_left) speech_choices speech_worlds p1 z_5 hc_5) rfl gX10_made_X8_isSet hdX8_isSet ⟨rfl, rfl⟩ (Nat.le_of_ble_eq_true rfl) (Nat.le_of_ble_eq_true rfl) 7 0 rfl rfl [1] [0, 2, 3, 4, 5, 6, 7, 8, 9, 10] rfl rfl rfl rfl (by decide) rfl hl.1 rfl (Nat.le_of_ble_eq_true rfl) (Nat.zero_le _) (Nat.zero_le _) dX10_made_5 (fun H locs hP hD hS => ?_)
  refine lv_if_eq (tgt := 20) hx hb dX10_made_8 (by decide) (fun c_8 => ?_) (fun c_8 => ?_)
  · replace h := it_e c_8 h
    refine lv_iconst (v := (-1)) hx hb dX10_made_20 ic_m1 ?_
    have hz := Option.some.inj h
    subst hz
    exact hret H locs 21 ls (fun ty h => by cases h; rfl) (hP.sub [0, 10, 1, 2, 3, 4, 5, 6, 7, 8, 9] rfl) (hD.sub [0, 10, 1, 2, 3, 4, 5, 6, 7, 8, 9] (by decide) rfl) hS dX10_made_21
  · replace h := if_e c_8 h
    refine lv_iload_n hx hb dX10_made_11 rfl (lv_at hl 2 rfl) ?_
    refine lv_if_lt (tgt := 20) hx hb dX10_made_12 (by decide) (fun c_12 => ?_) (fun c_12 => ?_)
    · replace h := it_e c_12 h
      refine lv_iconst (v := (-1)) hx hb dX10_made_20 ic_m1 ?_
      have hz := Option.some.inj h
      subst hz
      exact hret H locs 21 ls (fun ty h => by cases h; rfl) (hP.sub [0, 10, 1, 2, 3, 4, 5, 6, 7, 8, 9] rfl) (hD.sub [0, 10, 1, 2, 3, 4, 5, 6, 7, 8, 9] (by decide) rfl) hS dX10_made_21
    · replace h := if_e c_12 h
      refine lv_iload_n hx hb dX10_made_15 rfl (lv_at hl 2 rfl) ?_
      refine lv_iconst (v := 2) hx hb dX10_made_16 ic_2 ?_
      refine lv_icmp_le (tgt := 22) hx hb dX10_made_17 (by decide) (fun c_17 => ?_) (fun c_17 => ?_)
      · replace h := it_e c_17 h
        refine lv_aload_n hx hb dX10_made_22 rfl (lv_at hl 0 rfl) ?_
        refine va_get (D := D) (ci := 9) (v := .ref a_signs) (C := RX10) (T := TX10) (N := 12) hx hb hts u_X10 hown hK hP 0 rfl rfl 5 (by decide) k_f1 (fun _ h9 => h9) rfl dX10_made_23 ?_
        refine lv_iload_n hx hb dX10_made_26 rfl (lv_at hl 1 rfl) ?_
        obtain ⟨z_27, hc_27, h⟩ := bd_e h
        refine q_iV (As := [.int p1]) (rest := []) (wF := [(a_o, .inr (9, [w_o_text, .ref a_speech, .ref a_now, w_o_image0, w_o_image1, .ref a_signs, w_o_reader, .ref a_lengths, w_o_refusals, w_o_two, .int o_measured, .long o_traced])), (a_lengths, .inr (1, [.ref a_signs, .ref a_lengths_length, .ref a_lengths_order, .ref a_lengths_start, .int lengths_found])), (a_lengths_length, .inl (cI, 512, .inl f_lengths_length)), (a_lengths_order, .inl (cI, 512, .inl f_lengths_order)), (a_lengths_start, .inl (cI, 34, .inl f_lengths_start)), (a_signs, .inr (4, [.ref a_speech, .ref a_now])), (a_speech, .inr (7, [.ref a_speech_values, .ref a_speech_left, .int speech_choices, .int speech_worlds])), (a_speech_values, .inl (cI, 3, .inl f_speech_values)), (a_speech_left, .inl (cI, 30, .inl f_speech_left)), (a_now, .inr (0, [w_now_left, w_now_signs, .ref a_now_wordSets, .int now_sayings, .int now_words, .int now_filled])), (a_now_wordSets, .inl (cI, 3, .inl f_now_wordSets))]) hF hA hZ hK hP hD hS (c_X5_firstFor l D cI cB cZ a_signs a_speech speech_choices speech_worlds a_speech_values f_speech_values a_speech_left f_speech_left a_now w_now_left w_now_signs now_sayings now_words now_filled a_now_wordSets f_now_wordSets p1 z_27 hc_27) rfl gX10_made_X5_firstFor hdX5_firstFor ⟨rfl, rfl⟩ (Nat.le_of_ble_eq_true rfl) (Nat.le_of_ble_eq_true rfl) 4 0 rfl rfl [5, 10, 1, 2, 3, 4] [0, 6, 7, 8, 9] rfl rfl rfl rfl (by decide) rfl hl.1 rfl (Nat.le_of_ble_eq_true rfl) (Nat.zero_le _) (Nat.zero_le _) dX10_made_27 (fun H locs hP hD hS => ?_)
        refine lv_istore_n (lv' := [(3, .int z_27), (0, .ref a_o), (1, .int p1), (2, .int p2)]) hx hb dX10_made_30 rfl hl (by decide) rfl (fun ls hl => ?_)
        refine lv_iload_n hx hb dX10_made_31 rfl (lv_at hl 0 rfl) ?_
        refine lv_bipush (v := (-9)) hx hb dX10_made_32 bc_m9 ?_
        refine lv_icmp_eq (tgt := 48) hx hb dX10_made_34 (by decide) (fun c_34 => ?_) (fun c_34 => ?_)
        · replace h := it_e c_34 h
          refine lv_aload_n hx hb dX10_made_48 rfl (lv_at hl 1 rfl) ?_
          obtain ⟨z_49, hc_49, h⟩ := bd_e h
          refine q_rV (As := []) (rest := []) (wF := [(a_o, .inr (9, [w_o_text, .ref a_speech, .ref a_now, w_o_image0, w_o_image1, .ref a_signs, w_o_reader, .ref a_lengths, w_o_refusals, w_o_two, .int z_49.1, .long o_traced])), (a_speech, .inr (7, [.ref a_speech_values, .ref a_speech_left, .int speech_choices, .int speech_worlds])), (a_speech_values, .inl (cI, 3, .inl f_speech_values)), (a_speech_left, .inl (cI, 30, .inl f_speech_left)), (a_now, .inr (0, [w_now_left, w_now_signs, .ref a_now_wordSets, .int now_sayings, .int now_words, .int now_filled])), (a_now_wordSets, .inl (cI, 3, .inl f_now_wordSets)), (a_signs, .inr (4, [.ref a_speech, .ref a_now])), (a_lengths, .inr (1, [.ref a_signs, .ref a_lengths_length, .ref a_lengths_order, .ref a_lengths_start, .int z_49.2.1])), (a_lengths_length, .inl (cI, 512, .inl z_49.2.2.1)), (a_lengths_order, .inl (cI, 512, .inl z_49.2.2.2.1)), (a_lengths_start, .inl (cI, 34, .inl z_49.2.2.2.2))]) hF hA hZ hK hP hD hS (c_X10_lengthsNow l D cI cB cZ a_o w_o_text w_o_image0 w_o_image1 w_o_reader w_o_refusals w_o_two o_measured o_traced a_speech speech_choices speech_worlds a_speech_values f_speech_values a_speech_left f_speech_left a_now w_now_left w_now_signs now_sayings now_words now_filled a_now_wordSets f_now_wordSets a_signs a_lengths lengths_found a_lengths_length f_lengths_length a_lengths_order f_lengths_order a_lengths_start f_lengths_start z_49 hc_49) rfl gX10_made_X10_lengthsNow hdX10_lengthsNow ⟨rfl, rfl⟩ (Nat.le_of_ble_eq_true rfl) (Nat.le_of_ble_eq_true rfl) 9 0 rfl rfl [0, 6, 7, 8, 9, 10, 5, 1, 2, 3, 4] [] rfl rfl rfl rfl (by decide) rfl hl.1 rfl (Nat.le_of_ble_eq_true rfl) (Nat.zero_le _) (Nat.zero_le _) dX10_made_49 (fun H locs hP hD hS => ?_)
          refine lv_iload_n hx hb dX10_made_52 rfl (lv_at hl 2 rfl) ?_
          refine lv_iconst (v := 1) hx hb dX10_made_53 ic_1 ?_
          obtain ⟨z_54, hc_54, h⟩ := bd_e h
          refine q_iV (As := [.int p1, .int 1]) (rest := []) (wF := [(a_o, .inr (9, [w_o_text, .ref a_speech, .ref a_now, w_o_image0, w_o_image1, .ref a_signs, w_o_reader, .ref a_lengths, w_o_refusals, w_o_two, .int z_49.1, .long o_traced])), (a_speech_values, .inl (cI, 3, .inl f_speech_values)), (a_speech_left, .inl (cI, 30, .inl f_speech_left)), (a_now, .inr (0, [w_now_left, w_now_signs, .ref a_now_wordSets, .int now_sayings, .int now_words, .int now_filled])), (a_now_wordSets, .inl (cI, 3, .inl f_now_wordSets)), (a_lengths_order, .inl (cI, 512, .inl z_49.2.2.2.1)), (a_lengths_start, .inl (cI, 34, .inl z_49.2.2.2.2)), (a_lengths, .inr (1, [.ref a_signs, .ref a_lengths_length, .ref a_lengths_order, .ref a_lengths_start, .int z_49.2.1])), (a_signs, .inr (4, [.ref a_speech, .ref a_now])), (a_speech, .inr (7, [.ref a_speech_values, .ref a_speech_left, .int speech_choices, .int speech_worlds])), (a_lengths_length, .inl (cI, 512, .inl z_49.2.2.1))]) hF hA hZ hK hP hD hS (c_X1_firstPair l D cI cB cZ a_lengths (.ref a_lengths_order) (.ref a_lengths_start) z_49.2.1 a_signs (.ref a_now) a_speech (.ref a_speech_values) (.ref a_speech_left) speech_choices speech_worlds a_lengths_length z_49.2.2.1 p1 1 z_54 hc_54) rfl gX10_made_X1_firstPair hdX1_firstPair ⟨rfl, rfl⟩ (Nat.le_of_ble_eq_true rfl) (Nat.le_of_ble_eq_true rfl) 1 0 rfl rfl [7, 6, 1, 8] [0, 2, 3, 4, 5, 9, 10] rfl rfl rfl rfl (by decide) rfl hl.1 rfl (Nat.le_of_ble_eq_true rfl) (Nat.zero_le _) (Nat.zero_le _) dX10_made_54 (fun H locs hP hD hS => ?_)
          refine lv_istore (lv' := [(4, .int z_54), (3, .int z_27), (0, .ref a_o), (1, .int p1), (2, .int p2)]) hx hb dX10_made_57 hl (by decide) rfl (fun ls hl => ?_)
          refine lv_iload hx hb dX10_made_59 (lv_at hl 0 rfl) ?_
          refine lv_bipush (v := (-9)) hx hb dX10_made_61 bc_m9 ?_
          refine lv_icmp_eq (tgt := 74) hx hb dX10_made_63 (by decide) (fun c_63 => ?_) (fun c_63 => ?_)
          · replace h := it_e c_63 h
            refine lv_aload_n hx hb dX10_made_74 rfl (lv_at hl 2 rfl) ?_
            refine va_get (D := D) (ci := 9) (v := .ref a_lengths) (C := RX10) (T := TX10) (N := 12) hx hb hts u_X10 hown hK hP 0 rfl rfl 7 (by decide) k_f2 (fun _ h9 => h9) rfl dX10_made_75 ?_
            refine lv_iload_n hx hb dX10_made_78 rfl (lv_at hl 3 rfl) ?_
            refine lv_iconst (v := 0) hx hb dX10_made_79 ic_0 ?_
            obtain ⟨z_80, hc_80, h⟩ := bd_e h
            refine q_iV (As := [.int p1, .int 0]) (rest := []) (wF := [(a_o, .inr (9, [w_o_text, .ref a_speech, .ref a_now, w_o_image0, w_o_image1, .ref a_signs, w_o_reader, .ref a_lengths, w_o_refusals, w_o_two, .int z_49.1, .long o_traced])), (a_speech_values, .inl (cI, 3, .inl f_speech_values)), (a_speech_left, .inl (cI, 30, .inl f_speech_left)), (a_now, .inr (0, [w_now_left, w_now_signs, .ref a_now_wordSets, .int now_sayings, .int now_words, .int now_filled])), (a_now_wordSets, .inl (cI, 3, .inl f_now_wordSets)), (a_lengths_order, .inl (cI, 512, .inl z_49.2.2.2.1)), (a_lengths_start, .inl (cI, 34, .inl z_49.2.2.2.2)), (a_lengths, .inr (1, [.ref a_signs, .ref a_lengths_length, .ref a_lengths_order, .ref a_lengths_start, .int z_49.2.1])), (a_signs, .inr (4, [.ref a_speech, .ref a_now])), (a_speech, .inr (7, [.ref a_speech_values, .ref a_speech_left, .int speech_choices, .int speech_worlds])), (a_lengths_length, .inl (cI, 512, .inl z_49.2.2.1))]) hF hA hZ hK hP hD hS (c_X1_firstPair l D cI cB cZ a_lengths (.ref a_lengths_order) (.ref a_lengths_start) z_49.2.1 a_signs (.ref a_now) a_speech (.ref a_speech_values) (.ref a_speech_left) speech_choices speech_worlds a_lengths_length z_49.2.2.1 p1 0 z_80 hc_80) rfl gX10_made_X1_firstPair hdX1_firstPair ⟨rfl, rfl⟩ (Nat.le_of_ble_eq_true rfl) (Nat.le_of_ble_eq_true rfl) 1 0 rfl rfl [7, 8, 9, 10] [0, 1, 2, 3, 4, 5, 6] rfl rfl rfl rfl (by decide) rfl hl.1 rfl (Nat.le_of_ble_eq_true rfl) (Nat.zero_le _) (Nat.zero_le _) dX10_made_80 (fun H locs hP hD hS => ?_)
            refine lv_istore (lv' := [(5, .int z_80), (4, .int z_54), (3, .int z_27), (0, .ref a_o), (1, .int p1), (2, .int p2)]) hx hb dX10_made_83 hl (by decide) rfl (fun ls hl => ?_)
            refine lv_iload hx hb dX10_made_85 (lv_at hl 0 rfl) ?_
            refine lv_bipush (v := (-9)) hx hb dX10_made_87 bc_m9 ?_
            refine lv_icmp_ne (tgt := 97) hx hb dX10_made_89 (by decide) (fun c_89 => ?_) (fun c_89 => ?_)
            · replace h := if_e c_89 h
              refine lv_iconst (v := 2) hx hb dX10_made_97 ic_2 ?_
              refine lv_iload hx hb dX10_made_98 (lv_at hl 0 rfl) ?_
              refine lv_iload_n hx hb dX10_made_100 rfl (lv_at hl 5 rfl) ?_
              obtain ⟨z_101, hc_101, h⟩ := bd_e h
              refine q_iS (As := [.int 2, .int z_80, .int p2]) (rest := []) (wF := [(a_o, .inr (9, [w_o_text, .ref a_speech, .ref a_now, w_o_image0, w_o_image1, .ref a_signs, w_o_reader, .ref a_lengths, w_o_refusals, w_o_two, .int z_49.1, .long o_traced])), (a_speech_values, .inl (cI, 3, .inl f_speech_values)), (a_speech_left, .inl (cI, 30, .inl f_speech_left)), (a_now, .inr (0, [w_now_left, w_now_signs, .ref a_now_wordSets, .int now_sayings, .int now_words, .int now_filled])), (a_now_wordSets, .inl (cI, 3, .inl f_now_wordSets)), (a_lengths_order, .inl (cI, 512, .inl z_49.2.2.2.1)), (a_lengths_start, .inl (cI, 34, .inl z_49.2.2.2.2)), (a_lengths, .inr (1, [.ref a_signs, .ref a_lengths_length, .ref a_lengths_order, .ref a_lengths_start, .int z_49.2.1])), (a_signs, .inr (4, [.ref a_speech, .ref a_now])), (a_speech, .inr (7, [.ref a_speech_values, .ref a_speech_left, .int speech_choices, .int speech_worlds])), (a_lengths_length, .inl (cI, 512, .inl z_49.2.2.1))]) hF hA hZ hK hP hD hS (c_X10_pairPart l D cI cB cZ 2 z_80 p2 z_101 hc_101) rfl gX10_made_X10_pairPart hdX10_pairPart ⟨rfl, rfl⟩ (Nat.le_of_ble_eq_true rfl) (Nat.le_of_ble_eq_true rfl) [] [0, 1, 2, 3, 4, 5, 6, 7, 8, 9, 10] rfl rfl rfl rfl (by decide) rfl hl.1 rfl (Nat.le_of_ble_eq_true rfl) (Nat.zero_le _) (Nat.zero_le _) dX10_made_101 (fun H locs hP hD hS => ?_)
              have hz := Option.some.inj h
              subst hz
              exact hret H locs 104 ls (fun ty h => by cases h; rfl) (hP.sub [0, 9, 1, 2, 3, 4, 8, 7, 10, 5, 6] rfl) (hD.sub [0, 9, 1, 2, 3, 4, 8, 7, 10, 5, 6] (by decide) rfl) hS dX10_made_104
            · replace h := it_e c_89 h
              refine lv_bipush (v := (-9)) hx hb dX10_made_92 bc_m9 ?_
              refine lv_goto (tgt := 104) hx hb dX10_made_94 (by decide) ?_
              have hz := Option.some.inj h
              subst hz
              exact hret H locs 104 ls (fun ty h => by cases h; rfl) (hP.sub [0, 9, 1, 2, 3, 4, 8, 7, 10, 5, 6] rfl) (hD.sub [0, 9, 1, 2, 3, 4, 8, 7, 10, 5, 6] (by decide) rfl) hS dX10_made_104
          · replace h := if_e c_63 h
            refine lv_iconst (v := 1) hx hb dX10_made_66 ic_1 ?_
            refine lv_iload hx hb dX10_made_67 (lv_at hl 0 rfl) ?_
            refine lv_iload_n hx hb dX10_made_69 rfl (lv_at hl 4 rfl) ?_
            obtain ⟨z_70, hc_70, h⟩ := bd_e h
            refine q_iS (As := [.int 1, .int z_54, .int p2]) (rest := []) (wF := [(a_o, .inr (9, [w_o_text, .ref a_speech, .ref a_now, w_o_image0, w_o_image1, .ref a_signs, w_o_reader, .ref a_lengths, w_o_refusals, w_o_two, .int z_49.1, .long o_traced])), (a_speech_values, .inl (cI, 3, .inl f_speech_values)), (a_speech_left, .inl (cI, 30, .inl f_speech_left)), (a_now, .inr (0, [w_now_left, w_now_signs, .ref a_now_wordSets, .int now_sayings, .int now_words, .int now_filled])), (a_now_wordSets, .inl (cI, 3, .inl f_now_wordSets)), (a_lengths_order, .inl (cI, 512, .inl z_49.2.2.2.1)), (a_lengths_start, .inl (cI, 34, .inl z_49.2.2.2.2)), (a_lengths, .inr (1, [.ref a_signs, .ref a_lengths_length, .ref a_lengths_order, .ref a_lengths_start, .int z_49.2.1])), (a_signs, .inr (4, [.ref a_speech, .ref a_now])), (a_speech, .inr (7, [.ref a_speech_values, .ref a_speech_left, .int speech_choices, .int speech_worlds])), (a_lengths_length, .inl (cI, 512, .inl z_49.2.2.1))]) hF hA hZ hK hP hD hS (c_X10_pairPart l D cI cB cZ 1 z_54 p2 z_70 hc_70) rfl gX10_made_X10_pairPart hdX10_pairPart ⟨rfl, rfl⟩ (Nat.le_of_ble_eq_true rfl) (Nat.le_of_ble_eq_true rfl) [] [0, 1, 2, 3, 4, 5, 6, 7, 8, 9, 10] rfl rfl rfl rfl (by decide) rfl hl.1 rfl (Nat.le_of_ble_eq_true rfl) (Nat.zero_le _) (Nat.zero_le _) dX10_made_70 (fun H locs hP hD hS => ?_)
            have hz := Option.some.inj h
            subst hz
            exact hret H locs 73 ls (fun ty h => by cases h; rfl) (hP.sub [0, 9, 1, 2, 3, 4, 8, 7, 10, 5, 6] rfl) (hD.sub [0, 9, 1, 2, 3, 4, 8, 7, 10, 5, 6] (by decide) rfl) hS dX10_made_73
        · replace h := if_e c_34 h
          refine lv_iload_n hx hb dX10_made_37 rfl (lv_at hl 3 rfl) ?_
          refine lv_iconst (v := 1) hx hb dX10_made_38 ic_1 ?_
          refine lv_icmp_ne (tgt := 46) hx hb dX10_made_39 (by decide) (fun c_39 => ?_) (fun c_39 => ?_)
          · replace h := if_e c_39 h
            refine lv_iconst (v := 0) hx hb dX10_made_46 ic_0 ?_
            have hz := Option.some.inj h
            subst hz
            exact hret H locs 47 ls (fun ty h => by cases h; rfl) (hP.sub [0, 6, 7, 8, 9, 10, 5, 1, 2, 3, 4] rfl) (hD.sub [0, 6, 7, 8, 9, 10, 5, 1, 2, 3, 4] (by decide) rfl) hS dX10_made_47
          · replace h := it_e c_39 h
            refine lv_iload_n hx hb dX10_made_42 rfl (lv_at hl 0 rfl) ?_
            refine lv_goto (tgt := 47) hx hb dX10_made_43 (by decide) ?_
            have hz := Option.some.inj h
            subst hz
            exact hret H locs 47 ls (fun ty h => by cases h; rfl) (hP.sub [0, 6, 7, 8, 9, 10, 5, 1, 2, 3, 4] rfl) (hD.sub [0, 6, 7, 8, 9, 10, 5, 1, 2, 3, 4] (by decide) rfl) hS dX10_made_47
      · replace h := if_e c_17 h
        refine lv_iconst (v := (-1)) hx hb dX10_made_20 ic_m1 ?_
        have hz := Option.some.inj h
        subst hz
        exact hret H locs 21 ls (fun ty h => by cases h; rfl) (hP.sub [0, 10, 1, 2, 3, 4, 5, 6, 7, 8, 9] rfl) (hD.sub [0, 10, 1, 2, 3, 4, 5, 6, 7, 8, 9] (by decide) rfl) hS dX10_made_21
abbrev rmX8_fixedLike : Room := { frames := 3, cells := 0, slots := 0, locals := 66 }
theorem hdX8_fixedLike : yX8_fixedLike.cls = RX8 ∧ yX8_fixedLike.cls ≠ "java/lang/invoke/MethodHandle" ∧ yX8_fixedLike.cls ≠ "java/lang/invoke/VarHandle" ∧ (parseMethodDescriptor yX8_fixedLike.desc).map (fun d => d.parameters.length) = some 2 := by decide +kernel
set_option maxRecDepth 100000 in
set_option maxHeartbeats 4000000 in
theorem c_X8_fixedLike (l : Launch) (D : va_G) (cI cB cZ : ClassId) (a_o : Nat) (o_choices : Int32) (o_worlds : Int32) (a_values : Nat) (f_values : Nat → Int32) (a_left : Nat) (f_left : Nat → Int32) (p1 : Int32) (p2 : Int32) (z : Int32) (h : P_X8_fixedLike p1 p2 o_choices o_worlds f_values f_left = some z) : KI l yX8_fixedLike wsX8_fixedLike rmX8_fixedLike D [(cI, .int), (cB, .byte), (cZ, .boolean)] [.ref a_o, .int p1, .int p2] [(a_o, .inr (7, [.ref a_values, .ref a_left, .int o_choices, .int o_worlds])), (a_values, .inl (cI, 3, .inl f_values)), (a_left, .inl (cI, 30, .inl f_left))] [(a_o, .inr (7, [.ref a_values, .ref a_left, .int o_choices, .int o_worlds])), (a_values, .inl (cI, 3, .inl f_values)), (a_left, .inl (cI, 30, .inl f_left))] z := by
  refine KI_of (own := RX8) (cc := cX8_fixedLike) (maxL := 6) (ret := some .int) (by decide) rfl rfl (Nat.le_of_ble_eq_true rfl) (Or.inl rfl) ?_
  intro p e s m args below meth c A Q hx hb hml hown hts hA hZ hK hret H locs ls hP hD hS hl
  have hl : lv_has ls 6 [(0, .ref a_o), (1, .int p1), (2, .int p2)] := hl
  have hF : CallFix p m c cX8_fixedLike 6 s args wsX8_fixedLike RX8 := ⟨hx, hb, hml, hown, hts⟩
  have u_X8 : ∀ w ∈ u_ws RX8 TX8 4, w ∈ wsX8_fixedLike := by decide +kernel
  have k_f0 := hts (.fieldLink RX8 16 "NoWordNo$Tongue" "choices" "I") (by decide +kernel)
  unfold P_X8_fixedLike at h
  refine lv_aload_n hx hb dX8_fixedLike_0 rfl (lv_at hl 0 rfl) ?_
  obtain ⟨z_1, hc_1, h⟩ := bd_e h
  refine q_iV (As := []) (rest := []) (wF := [(a_values, .inl (cI, 3, .inl f_values)), (a_left, .inl (cI, 30, .inl f_left)), (a_o, .inr (7, [.ref a_values, .ref a_left, .int o_choices, .int o_worlds]))]) hF hA hZ hK hP hD hS (c_X8_all l D cI cB cZ a_o (.ref a_values) (.ref a_left) o_choices o_worlds z_1 hc_1) rfl gX8_fixedLike_X8_all hdX8_all ⟨rfl, rfl⟩ (Nat.le_of_ble_eq_true rfl) (Nat.le_of_ble_eq_true rfl) 7 0 rfl rfl [0] [1, 2] rfl rfl rfl rfl (by decide) rfl hl.1 rfl (Nat.le_of_ble_eq_true rfl) (Nat.zero_le _) (Nat.zero_le _) dX8_fixedLike_1 (fun H locs hP hD hS => ?_)
  refine lv_istore_n (lv' := [(3, .int z_1), (0, .ref a_o), (1, .int p1), (2, .int p2)]) hx hb dX8_fixedLike_4 rfl hl (by decide) rfl (fun ls hl => ?_)
  refine lv_iconst (v := 0) hx hb dX8_fixedLike_5 ic_0 ?_
  refine lv_istore (lv' := [(4, .int 0), (3, .int z_1), (0, .ref a_o), (1, .int p1), (2, .int p2)]) hx hb dX8_fixedLike_6 hl (by decide) rfl (fun ls hl => ?_)
  have L8 : ∀ (n : Nat), ∀ (x8_l3 : Int32) (x8_l4 : Int32) (H : Heap) (locs : List Loc) (ls : Array Slot), P_X8_fixedLike_8 p1 p2 o_choices f_values f_left n x8_l3 x8_l4 = some z → va_P D vwCl [(a_values, .inl (cI, 3, .inl f_values)), (a_left, .inl (cI, 30, .inl f_left)), (a_o, .inr (7, [.ref a_values, .ref a_left, .int o_choices, .int o_worlds]))] H → va_D A [(a_values, .inl (cI, 3, .inl f_values)), (a_left, .inl (cI, 30, .inl f_left)), (a_o, .inr (7, [.ref a_values, .ref a_left, .int o_choices, .int o_worlds]))] → va_S A s.heap H locs → lv_has ls 6 [(0, .ref a_o), (1, .int p1), (2, .int p2), (3, .int x8_l3), (4, .int x8_l4)] → W p l e rmX8_fixedLike s m args below meth c H locs 0 0 Q (F0 m 8 ls []) := by
    intro n
    induction n with
    | zero =>
      intro x8_l3 x8_l4 H locs ls h
      exact no_e h
    | succ n ih8 =>
      intro x8_l3 x8_l4 H locs ls h hP hD hS hl
      rw [P_X8_fixedLike_8] at h
      refine lv_iload hx hb dX8_fixedLike_8 (lv_at hl 4 rfl) ?_
      refine lv_aload_n hx hb dX8_fixedLike_10 rfl (lv_at hl 0 rfl) ?_
      refine va_get (D := D) (ci := 7) (v := .int o_choices) (C := RX8) (T := TX8) (N := 4) hx hb hts u_X8 hown hK hP 2 rfl rfl 2 (by decide) k_f0 (fun _ h9 => h9) rfl dX8_fixedLike_11 ?_
      refine lv_icmp_ge (tgt := 59) hx hb dX8_fixedLike_14 (by decide) (fun c_14 => ?_) (fun c_14 => ?_)
      · replace h := it_e c_14 h
        refine lv_iload_n hx hb dX8_fixedLike_59 rfl (lv_at hl 3 rfl) ?_
        have hz := Option.some.inj h
        subst hz
        exact hret H locs 60 ls (fun ty h => by cases h; rfl) (hP.sub [2, 0, 1] rfl) (hD.sub [2, 0, 1] (by decide) rfl) hS dX8_fixedLike_60
      · replace h := if_e c_14 h
        refine lv_iload hx hb dX8_fixedLike_17 (lv_at hl 4 rfl) ?_
        refine lv_iload_n hx hb dX8_fixedLike_19 rfl (lv_at hl 2 rfl) ?_
        obtain ⟨j34, hj34, h⟩ := jn_e h
        have Jj34 : ∀ (x34_s0 : Int32) (H : Heap) (locs : List Loc) (ls : Array Slot), j34 x34_s0 = some z → va_P D vwCl [(a_values, .inl (cI, 3, .inl f_values)), (a_left, .inl (cI, 30, .inl f_left)), (a_o, .inr (7, [.ref a_values, .ref a_left, .int o_choices, .int o_worlds]))] H → va_D A [(a_values, .inl (cI, 3, .inl f_values)), (a_left, .inl (cI, 30, .inl f_left)), (a_o, .inr (7, [.ref a_values, .ref a_left, .int o_choices, .int o_worlds]))] → va_S A s.heap H locs → lv_has ls 6 [(0, .ref a_o), (1, .int p1), (2, .int p2), (3, .int x8_l3), (4, .int x8_l4)] → W p l e rmX8_fixedLike s m args below meth c H locs 0 0 Q (F0 m 34 ls [.int x34_s0]) := by
          intro x34_s0 H locs ls h hP hD hS hl
          rw [hj34] at h
          refine lv_istore (lv' := [(5, .int x34_s0), (0, .ref a_o), (1, .int p1), (2, .int p2), (3, .int x8_l3), (4, .int x8_l4)]) hx hb dX8_fixedLike_34 hl (by decide) rfl (fun ls hl => ?_)
          refine lv_iload hx hb dX8_fixedLike_36 (lv_at hl 0 rfl) ?_
          refine lv_iconst (v := (-1)) hx hb dX8_fixedLike_38 ic_m1 ?_
          obtain ⟨j53, hj53, h⟩ := jn_e h
          have Jj53 : ∀ (x53_l3 : Int32) (H : Heap) (locs : List Loc) (ls : Array Slot), j53 x53_l3 = some z → va_P D vwCl [(a_values, .inl (cI, 3, .inl f_values)), (a_left, .inl (cI, 30, .inl f_left)), (a_o, .inr (7, [.ref a_values, .ref a_left, .int o_choices, .int o_worlds]))] H → va_D A [(a_values, .inl (cI, 3, .inl f_values)), (a_left, .inl (cI, 30, .inl f_left)), (a_o, .inr (7, [.ref a_values, .ref a_left, .int o_choices, .int o_worlds]))] → va_S A s.heap H locs → lv_has ls 6 [(0, .ref a_o), (1, .int p1), (2, .int p2), (3, .int x53_l3), (4, .int x8_l4)] → W p l e rmX8_fixedLike s m args below meth c H locs 0 0 Q (F0 m 53 ls []) := by
            intro x53_l3 H locs ls h hP hD hS hl
            rw [hj53] at h
            refine lv_iinc (v := x8_l4 + 1) (lv' := [(4, .int (x8_l4 + 1)), (0, .ref a_o), (1, .int p1), (2, .int p2), (3, .int x53_l3)]) hx hb dX8_fixedLike_53 hl (k := 4) rfl (congrArg (x8_l4 + ·) ic_1) (by decide) rfl (fun ls hl => ?_)
            refine lv_goto (tgt := 8) hx hb dX8_fixedLike_56 (by decide) ?_
            exact ih8 x53_l3 (x8_l4 + 1) H locs ls h hP hD hS (lv_sub hl [1, 2, 3, 4, 0] rfl)
          refine lv_icmp_eq (tgt := 53) hx hb dX8_fixedLike_39 (by decide) (fun c_39 => ?_) (fun c_39 => ?_)
          · replace h := it_e c_39 h
            exact Jj53 x8_l3 H locs ls h hP hD hS (lv_sub hl [1, 2, 3, 4, 5] rfl)
          · replace h := if_e c_39 h
            refine lv_iload_n hx hb dX8_fixedLike_42 rfl (lv_at hl 4 rfl) ?_
            refine lv_aload_n hx hb dX8_fixedLike_43 rfl (lv_at hl 1 rfl) ?_
            refine lv_iload hx hb dX8_fixedLike_44 (lv_at hl 5 rfl) ?_
            refine lv_iload hx hb dX8_fixedLike_46 (lv_at hl 0 rfl) ?_
            obtain ⟨z_48, hc_48, h⟩ := bd_e h
            refine q_iV (As := [.int x8_l4, .int x34_s0]) (rest := [.int x8_l3]) (wF := [(a_values, .inl (cI, 3, .inl f_values)), (a_o, .inr (7, [.ref a_values, .ref a_left, .int o_choices, .int o_worlds])), (a_left, .inl (cI, 30, .inl f_left))]) hF hA hZ hK hP hD hS (c_X8_leftBy l D cI cB cZ a_o (.ref a_values) o_choices o_worlds a_left f_left x8_l4 x34_s0 z_48 hc_48) rfl gX8_fixedLike_X8_leftBy hdX8_leftBy ⟨rfl, rfl⟩ (Nat.le_of_ble_eq_true rfl) (Nat.le_of_ble_eq_true rfl) 7 0 rfl rfl [2, 1] [0] rfl rfl rfl rfl (by decide) rfl hl.1 rfl (Nat.le_of_ble_eq_true rfl) (Nat.zero_le _) (Nat.zero_le _) dX8_fixedLike_48 (fun H locs hP hD hS => ?_)
            refine lv_iand hx hb dX8_fixedLike_51 ?_
            refine lv_istore_n (lv' := [(3, .int (x8_l3 &&& z_48)), (5, .int x34_s0), (0, .ref a_o), (1, .int p1), (2, .int p2), (4, .int x8_l4)]) hx hb dX8_fixedLike_52 rfl hl (by decide) rfl (fun ls hl => ?_)
            exact Jj53 (x8_l3 &&& z_48) H locs ls h (hP.sub [0, 2, 1] rfl) (hD.sub [0, 2, 1] (by decide) rfl) hS (lv_sub hl [2, 3, 4, 0, 5] rfl)
        refine lv_icmp_ne (tgt := 27) hx hb dX8_fixedLike_20 (by decide) (fun c_20 => ?_) (fun c_20 => ?_)
        · replace h := if_e c_20 h
          refine lv_aload_n hx hb dX8_fixedLike_27 rfl (lv_at hl 0 rfl) ?_
          refine lv_iload_n hx hb dX8_fixedLike_28 rfl (lv_at hl 1 rfl) ?_
          refine lv_iload hx hb dX8_fixedLike_29 (lv_at hl 4 rfl) ?_
          obtain ⟨z_31, hc_31, h⟩ := bd_e h
          refine q_iV (As := [.int p1, .int x8_l4]) (rest := []) (wF := [(a_o, .inr (7, [.ref a_values, .ref a_left, .int o_choices, .int o_worlds])), (a_values, .inl (cI, 3, .inl f_values)), (a_left, .inl (cI, 30, .inl f_left))]) hF hA hZ hK hP hD hS (c_X8_fixedIn l D cI cB cZ a_o o_choices o_worlds a_values f_values a_left f_left p1 x8_l4 z_31 hc_31) rfl gX8_fixedLike_X8_fixedIn hdX8_fixedIn ⟨rfl, rfl⟩ (Nat.le_of_ble_eq_true rfl) (Nat.le_of_ble_eq_true rfl) 7 0 rfl rfl [2, 0, 1] [] rfl rfl rfl rfl (by decide) rfl hl.1 rfl (Nat.le_of_ble_eq_true rfl) (Nat.zero_le _) (Nat.zero_le _) dX8_fixedLike_31 (fun H locs hP hD hS => ?_)
          exact Jj34 z_31 H locs ls h (hP.sub [1, 2, 0] rfl) (hD.sub [1, 2, 0] (by decide) rfl) hS hl
        · replace h := it_e c_20 h
          refine lv_iconst (v := (-1)) hx hb dX8_fixedLike_23 ic_m1 ?_
          refine lv_goto (tgt := 34) hx hb dX8_fixedLike_24 (by decide) ?_
          exact Jj34 (-1) H locs ls h hP hD hS hl
  exact L8 QF z_1 0 H locs ls h hP hD hS (lv_sub hl [2, 3, 4, 1, 0] rfl)
abbrev rmX8_isTerm : Room := { frames := 4, cells := 0, slots := 0, locals := 91 }
theorem hdX8_isTerm : yX8_isTerm.cls = RX8 ∧ yX8_isTerm.cls ≠ "java/lang/invoke/MethodHandle" ∧ yX8_isTerm.cls ≠ "java/lang/invoke/VarHandle" ∧ (parseMethodDescriptor yX8_isTerm.desc).map (fun d => d.parameters.length) = some 2 := by decide +kernel
set_option maxRecDepth 100000 in
set_option maxHeartbeats 4000000 in
theorem c_X8_isTerm (l : Launch) (D : va_G) (cI cB cZ : ClassId) (a_o : Nat) (o_choices : Int32) (o_worlds : Int32) (a_values : Nat) (f_values : Nat → Int32) (a_left : Nat) (f_left : Nat → Int32) (p1 : Int32) (p2 : Int32) (z : Int32) (h : P_X8_isTerm p1 p2 o_choices o_worlds f_values f_left = some z) : KI l yX8_isTerm wsX8_isTerm rmX8_isTerm D [(cI, .int), (cB, .byte), (cZ, .boolean)] [.ref a_o, .int p1, .int p2] [(a_o, .inr (7, [.ref a_values, .ref a_left, .int o_choices, .int o_worlds])), (a_values, .inl (cI, 3, .inl f_values)), (a_left, .inl (cI, 30, .inl f_left))] [(a_o, .inr (7, [.ref a_values, .ref a_left, .int o_choices, .int o_worlds])), (a_values, .inl (cI, 3, .inl f_values)), (a_left, .inl (cI, 30, .inl f_left))] z := by
  refine KI_of (own := RX8) (cc := cX8_isTerm) (maxL := 4) (ret := some .boolean) (by decide) rfl rfl (Nat.le_of_ble_eq_true rfl) (Or.inr rfl) ?_
  intro p e s m args below meth c A Q hx hb hml hown hts hA hZ hK hret H locs ls hP hD hS hl
  have hl : lv_has ls 4 [(0, .ref a_o), (1, .int p1), (2, .int p2)] := hl
  have hF : CallFix p m c cX8_isTerm 4 s args wsX8_isTerm RX8 := ⟨hx, hb, hml, hown, hts⟩
  have u_X8 : ∀ w ∈ u_ws RX8 TX8 4, w ∈ wsX8_isTerm := by decide +kernel
  have k_f0 := hts (.fieldLink RX8 16 "NoWordNo$Tongue" "choices" "I") (by decide +kernel)
  unfold P_X8_isTerm at h
  refine lv_iload_n hx hb dX8_isTerm_0 rfl (lv_at hl 1 rfl) ?_
  refine lv_if_eq (tgt := 22) hx hb dX8_isTerm_1 (by decide) (fun c_1 => ?_) (fun c_1 => ?_)
  · replace h := it_e c_1 h
    refine lv_iconst (v := 0) hx hb dX8_isTerm_22 ic_0 ?_
    have hz := Option.some.inj h
    subst hz
    exact hret H locs 23 ls (fun ty h => by cases h; exact nar_0) hP hD hS dX8_isTerm_23
  · replace h := if_e c_1 h
    refine lv_iload_n hx hb dX8_isTerm_4 rfl (lv_at hl 1 rfl) ?_
    refine lv_iload_n hx hb dX8_isTerm_5 rfl (lv_at hl 2 rfl) ?_
    refine lv_iconst (v := (-1)) hx hb dX8_isTerm_6 ic_m1 ?_
    refine lv_ixor hx hb dX8_isTerm_7 ?_
    refine lv_iand hx hb dX8_isTerm_8 ?_
    refine lv_if_ne (tgt := 22) hx hb dX8_isTerm_9 (by decide) (fun c_9 => ?_) (fun c_9 => ?_)
    · replace h := if_e c_9 h
      refine lv_iconst (v := 0) hx hb dX8_isTerm_22 ic_0 ?_
      have hz := Option.some.inj h
      subst hz
      exact hret H locs 23 ls (fun ty h => by cases h; exact nar_0) hP hD hS dX8_isTerm_23
    · replace h := it_e c_9 h
      refine lv_aload_n hx hb dX8_isTerm_12 rfl (lv_at hl 0 rfl) ?_
      refine lv_iload_n hx hb dX8_isTerm_13 rfl (lv_at hl 1 rfl) ?_
      refine lv_iconst (v := (-1)) hx hb dX8_isTerm_14 ic_m1 ?_
      obtain ⟨z_15, hc_15, h⟩ := bd_e h
      refine q_iV (As := [.int p1, .int (-1)]) (rest := []) (wF := [(a_o, .inr (7, [.ref a_values, .ref a_left, .int o_choices, .int o_worlds])), (a_values, .inl (cI, 3, .inl f_values)), (a_left, .inl (cI, 30, .inl f_left))]) hF hA hZ hK hP hD hS (c_X8_fixedLike l D cI cB cZ a_o o_choices o_worlds a_values f_values a_left f_left p1 (-1) z_15 hc_15) rfl gX8_isTerm_X8_fixedLike hdX8_fixedLike ⟨rfl, rfl⟩ (Nat.le_of_ble_eq_true rfl) (Nat.le_of_ble_eq_true rfl) 7 0 rfl rfl [0, 1, 2] [] rfl rfl rfl rfl (by decide) rfl hl.1 rfl (Nat.le_of_ble_eq_true rfl) (Nat.zero_le _) (Nat.zero_le _) dX8_isTerm_15 (fun H locs hP hD hS => ?_)
      refine lv_iload_n hx hb dX8_isTerm_18 rfl (lv_at hl 1 rfl) ?_
      refine lv_icmp_eq (tgt := 24) hx hb dX8_isTerm_19 (by decide) (fun c_19 => ?_) (fun c_19 => ?_)
      · replace h := it_e c_19 h
        refine lv_iconst (v := 0) hx hb dX8_isTerm_24 ic_0 ?_
        refine lv_istore_n (lv' := [(3, .int 0), (0, .ref a_o), (1, .int p1), (2, .int p2)]) hx hb dX8_isTerm_25 rfl hl (by decide) rfl (fun ls hl => ?_)
        have L26 : ∀ (n : Nat), ∀ (x26_l3 : Int32) (H : Heap) (locs : List Loc) (ls : Array Slot), P_X8_isTerm_26 p1 p2 o_choices o_worlds f_values f_left n x26_l3 = some z → va_P D vwCl [(a_o, .inr (7, [.ref a_values, .ref a_left, .int o_choices, .int o_worlds])), (a_values, .inl (cI, 3, .inl f_values)), (a_left, .inl (cI, 30, .inl f_left))] H → va_D A [(a_o, .inr (7, [.ref a_values, .ref a_left, .int o_choices, .int o_worlds])), (a_values, .inl (cI, 3, .inl f_values)), (a_left, .inl (cI, 30, .inl f_left))] → va_S A s.heap H locs → lv_has ls 4 [(0, .ref a_o), (1, .int p1), (2, .int p2), (3, .int x26_l3)] → W p l e rmX8_isTerm s m args below meth c H locs 0 0 Q (F0 m 26 ls []) := by
          intro n
          induction n with
          | zero =>
            intro x26_l3 H locs ls h
            exact no_e h
          | succ n ih26 =>
            intro x26_l3 H locs ls h hP hD hS hl
            rw [P_X8_isTerm_26] at h
            refine lv_iload_n hx hb dX8_isTerm_26 rfl (lv_at hl 3 rfl) ?_
            refine lv_aload_n hx hb dX8_isTerm_27 rfl (lv_at hl 0 rfl) ?_
            refine va_get (D := D) (ci := 7) (v := .int o_choices) (C := RX8) (T := TX8) (N := 4) hx hb hts u_X8 hown hK hP 0 rfl rfl 2 (by decide) k_f0 (fun _ h9 => h9) rfl dX8_isTerm_28 ?_
            refine lv_icmp_ge (tgt := 65) hx hb dX8_isTerm_31 (by decide) (fun c_31 => ?_) (fun c_31 => ?_)
            · replace h := it_e c_31 h
              refine lv_iconst (v := 1) hx hb dX8_isTerm_65 ic_1 ?_
              have hz := Option.some.inj h
              subst hz
              exact hret H locs 66 ls (fun ty h => by cases h; exact nar_1) hP hD hS dX8_isTerm_66
            · replace h := if_e c_31 h
              refine lv_aload_n hx hb dX8_isTerm_34 rfl (lv_at hl 0 rfl) ?_
              refine lv_iload_n hx hb dX8_isTerm_35 rfl (lv_at hl 1 rfl) ?_
              refine lv_iload_n hx hb dX8_isTerm_36 rfl (lv_at hl 3 rfl) ?_
              obtain ⟨z_37, hc_37, h⟩ := bd_e h
              refine q_iV (As := [.int p1, .int x26_l3]) (rest := []) (wF := [(a_o, .inr (7, [.ref a_values, .ref a_left, .int o_choices, .int o_worlds])), (a_values, .inl (cI, 3, .inl f_values)), (a_left, .inl (cI, 30, .inl f_left))]) hF hA hZ hK hP hD hS (c_X8_fixedIn l D cI cB cZ a_o o_choices o_worlds a_values f_values a_left f_left p1 x26_l3 z_37 hc_37) rfl gX8_isTerm_X8_fixedIn hdX8_fixedIn ⟨rfl, rfl⟩ (Nat.le_of_ble_eq_true rfl) (Nat.le_of_ble_eq_true rfl) 7 0 rfl rfl [0, 1, 2] [] rfl rfl rfl rfl (by decide) rfl hl.1 rfl (Nat.le_of_ble_eq_true rfl) (Nat.zero_le _) (Nat.zero_le _) dX8_isTerm_37 (fun H locs hP hD hS => ?_)
              refine lv_iconst (v := (-1)) hx hb dX8_isTerm_40 ic_m1 ?_
              obtain ⟨j59, hj59, h⟩ := jn_e h
              have Jj59 : ∀ (H : Heap) (locs : List Loc) (ls : Array Slot), j59 () = some z → va_P D vwCl [(a_o, .inr (7, [.ref a_values, .ref a_left, .int o_choices, .int o_worlds])), (a_values, .inl (cI, 3, .inl f_values)), (a_left, .inl (cI, 30, .inl f_left))] H → va_D A [(a_o, .inr (7, [.ref a_values, .ref a_left, .int o_choices, .int o_worlds])), (a_values, .inl (cI, 3, .inl f_values)), (a_left, .inl (cI, 30, .inl f_left))] → va_S A s.heap H locs → lv_has ls 4 [(0, .ref a_o), (1, .int p1), (2, .int p2), (3, .int x26_l3)] → W p l e rmX8_isTerm s m args below meth c H locs 0 0 Q (F0 m 59 ls []) := by
                intro H locs ls h hP hD hS hl
                rw [hj59] at h
                refine lv_iinc (v := x26_l3 + 1) (lv' := [(3, .int (x26_l3 + 1)), (0, .ref a_o), (1, .int p1), (2, .int p2)]) hx hb dX8_isTerm_59 hl (k := 3) rfl (congrArg (x26_l3 + ·) ic_1) (by decide) rfl (fun ls hl => ?_)
                refine lv_goto (tgt := 26) hx hb dX8_isTerm_62 (by decide) ?_
                exact ih26 (x26_l3 + 1) H locs ls h hP hD hS (lv_sub hl [1, 2, 3, 0] rfl)
              refine lv_icmp_eq (tgt := 59) hx hb dX8_isTerm_41 (by decide) (fun c_41 => ?_) (fun c_41 => ?_)
              · replace h := it_e c_41 h
                exact Jj59  H locs ls h hP hD hS hl
              · replace h := if_e c_41 h
                refine lv_aload_n hx hb dX8_isTerm_44 rfl (lv_at hl 0 rfl) ?_
                refine lv_iload_n hx hb dX8_isTerm_45 rfl (lv_at hl 1 rfl) ?_
                refine lv_iload_n hx hb dX8_isTerm_46 rfl (lv_at hl 3 rfl) ?_
                obtain ⟨z_47, hc_47, h⟩ := bd_e h
                refine q_iV (As := [.int p1, .int x26_l3]) (rest := []) (wF := [(a_o, .inr (7, [.ref a_values, .ref a_left, .int o_choices, .int o_worlds])), (a_values, .inl (cI, 3, .inl f_values)), (a_left, .inl (cI, 30, .inl f_left))]) hF hA hZ hK hP hD hS (c_X8_fixedLike l D cI cB cZ a_o o_choices o_worlds a_values f_values a_left f_left p1 x26_l3 z_47 hc_47) rfl gX8_isTerm_X8_fixedLike hdX8_fixedLike ⟨rfl, rfl⟩ (Nat.le_of_ble_eq_true rfl) (Nat.le_of_ble_eq_true rfl) 7 0 rfl rfl [0, 1, 2] [] rfl rfl rfl rfl (by decide) rfl hl.1 rfl (Nat.le_of_ble_eq_true rfl) (Nat.zero_le _) (Nat.zero_le _) dX8_isTerm_47 (fun H locs hP hD hS => ?_)
                refine lv_iload_n hx hb dX8_isTerm_50 rfl (lv_at hl 2 rfl) ?_
                refine lv_iconst (v := (-1)) hx hb dX8_isTerm_51 ic_m1 ?_
                refine lv_ixor hx hb dX8_isTerm_52 ?_
                refine lv_iand hx hb dX8_isTerm_53 ?_
                refine lv_if_ne (tgt := 59) hx hb dX8_isTerm_54 (by decide) (fun c_54 => ?_) (fun c_54 => ?_)
                · replace h := if_e c_54 h
                  exact Jj59  H locs ls h hP hD hS hl
                · replace h := it_e c_54 h
                  refine lv_iconst (v := 0) hx hb dX8_isTerm_57 ic_0 ?_
                  have hz := Option.some.inj h
                  subst hz
                  exact hret H locs 58 ls (fun ty h => by cases h; exact nar_0) hP hD hS dX8_isTerm_58
        exact L26 QF 0 H locs ls h hP hD hS (lv_sub hl [1, 2, 3, 0] rfl)
      · replace h := if_e c_19 h
        refine lv_iconst (v := 0) hx hb dX8_isTerm_22 ic_0 ?_
        have hz := Option.some.inj h
        subst hz
        exact hret H locs 23 ls (fun ty h => by cases h; exact nar_0) hP hD hS dX8_isTerm_23
abbrev rmX10_terms : Room := { frames := 5, cells := 0, slots := 0, locals := 114 }
theorem hdX10_terms : yX10_terms.cls = RX10 ∧ yX10_terms.cls ≠ "java/lang/invoke/MethodHandle" ∧ yX10_terms.cls ≠ "java/lang/invoke/VarHandle" ∧ (parseMethodDescriptor yX10_terms.desc).map (fun d => d.parameters.length) = some 2 := by decide +kernel
set_option maxRecDepth 100000 in
set_option maxHeartbeats 4000000 in
theorem c_X10_terms (l : Launch) (D : va_G) (cI cB cZ : ClassId) (a_o : Nat) (w_o_text : Value) (w_o_now : Value) (w_o_image0 : Value) (w_o_image1 : Value) (w_o_signs : Value) (w_o_reader : Value) (w_o_lengths : Value) (w_o_refusals : Value) (w_o_two : Value) (o_measured : Int32) (o_traced : Int64) (a_speech : Nat) (speech_choices : Int32) (speech_worlds : Int32) (a_speech_values : Nat) (f_speech_values : Nat → Int32) (a_speech_left : Nat) (f_speech_left : Nat → Int32) (p1 : Int32) (p2 : Int32) (z : Int32) (h : P_X10_terms p1 p2 speech_choices speech_worlds f_speech_values f_speech_left = some z) : KI l yX10_terms wsX10_terms rmX10_terms D [(cI, .int), (cB, .byte), (cZ, .boolean)] [.ref a_o, .int p1, .int p2] [(a_o, .inr (9, [w_o_text, .ref a_speech, w_o_now, w_o_image0, w_o_image1, w_o_signs, w_o_reader, w_o_lengths, w_o_refusals, w_o_two, .int o_measured, .long o_traced])), (a_speech, .inr (7, [.ref a_speech_values, .ref a_speech_left, .int speech_choices, .int speech_worlds])), (a_speech_values, .inl (cI, 3, .inl f_speech_values)), (a_speech_left, .inl (cI, 30, .inl f_speech_left))] [(a_o, .inr (9, [w_o_text, .ref a_speech, w_o_now, w_o_image0, w_o_image1, w_o_signs, w_o_reader, w_o_lengths, w_o_refusals, w_o_two, .int o_measured, .long o_traced])), (a_speech, .inr (7, [.ref a_speech_values, .ref a_speech_left, .int speech_choices, .int speech_worlds])), (a_speech_values, .inl (cI, 3, .inl f_speech_values)), (a_speech_left, .inl (cI, 30, .inl f_speech_left))] z := by
  refine KI_of (own := RX10) (cc := cX10_terms) (maxL := 5) (ret := some .int) (by decide) rfl rfl (Nat.le_of_ble_eq_true rfl) (Or.inl rfl) ?_
  intro p e s m args below meth c A Q hx hb hml hown hts hA hZ hK hret H locs ls hP hD hS hl
  have hl : lv_has ls 5 [(0, .ref a_o), (1, .int p1), (2, .int p2)] := hl
  have hF : CallFix p m c cX10_terms 5 s args wsX10_terms RX10 := ⟨hx, hb, hml, hown, hts⟩
  have u_X10 : ∀ w ∈ u_ws RX10 TX10 12, w ∈ wsX10_terms := by decide +kernel
  have k_f0 := hts (.fieldLink RX10 19 "NoWordNo" "speech" "LNoWordNo$Tongue;") (by decide +kernel)
  unfold P_X10_terms at h
  refine lv_aload_n hx hb dX10_terms_0 rfl (lv_at hl 0 rfl) ?_
  refine va_get (D := D) (ci := 9) (v := .ref a_speech) (C := RX10) (T := TX10) (N := 12) hx hb hts u_X10 hown hK hP 0 rfl rfl 1 (by decide) k_f0 (fun _ h9 => h9) rfl dX10_terms_1 ?_
  refine lv_iload_n hx hb dX10_terms_4 rfl (lv_at hl 1 rfl) ?_
  obtain ⟨z_5, hc_5, h⟩ := bd_e h
  refine q_iV (As := [.int p1]) (rest := []) (wF := [(a_o, .inr (9, [w_o_text, .ref a_speech, w_o_now, w_o_image0, w_o_image1, w_o_signs, w_o_reader, w_o_lengths, w_o_refusals, w_o_two, .int o_measured, .long o_traced])), (a_speech_values, .inl (cI, 3, .inl f_speech_values)), (a_speech_left, .inl (cI, 30, .inl f_speech_left)), (a_speech, .inr (7, [.ref a_speech_values, .ref a_speech_left, .int speech_choices, .int speech_worlds]))]) hF hA hZ hK hP hD hS (c_X8_isSet l D cI cB cZ a_speech (.ref a_speech_values) (.ref a_speech_left) speech_choices speech_worlds p1 z_5 hc_5) rfl gX10_terms_X8_isSet hdX8_isSet ⟨rfl, rfl⟩ (Nat.le_of_ble_eq_true rfl) (Nat.le_of_ble_eq_true rfl) 7 0 rfl rfl [1] [0, 2, 3] rfl rfl rfl rfl (by decide) rfl hl.1 rfl (Nat.le_of_ble_eq_true rfl) (Nat.zero_le _) (Nat.zero_le _) dX10_terms_5 (fun H locs hP hD hS => ?_)
  refine lv_if_eq (tgt := 16) hx hb dX10_terms_8 (by decide) (fun c_8 => ?_) (fun c_8 => ?_)
  · replace h := it_e c_8 h
    refine lv_iconst (v := (-1)) hx hb dX10_terms_16 ic_m1 ?_
    have hz := Option.some.inj h
    subst hz
    exact hret H locs 17 ls (fun ty h => by cases h; rfl) (hP.sub [0, 3, 1, 2] rfl) (hD.sub [0, 3, 1, 2] (by decide) rfl) hS dX10_terms_17
  · replace h := if_e c_8 h
    refine lv_iload_n hx hb dX10_terms_11 rfl (lv_at hl 2 rfl) ?_
    refine lv_iconst (v := (-1)) hx hb dX10_terms_12 ic_m1 ?_
    refine lv_icmp_ge (tgt := 18) hx hb dX10_terms_13 (by decide) (fun c_13 => ?_) (fun c_13 => ?_)
    · replace h := it_e c_13 h
      refine lv_iconst (v := 0) hx hb dX10_terms_18 ic_0 ?_
      refine lv_istore_n (lv' := [(3, .int 0), (0, .ref a_o), (1, .int p1), (2, .int p2)]) hx hb dX10_terms_19 rfl hl (by decide) rfl (fun ls hl => ?_)
      refine lv_iconst (v := 1) hx hb dX10_terms_20 ic_1 ?_
      refine lv_istore (lv' := [(4, .int 1), (3, .int 0), (0, .ref a_o), (1, .int p1), (2, .int p2)]) hx hb dX10_terms_21 hl (by decide) rfl (fun ls hl => ?_)
      obtain ⟨k65, hk65, h⟩ := jn_e h
      have Jk65 : ∀ (x65_l3 : Int32) (H : Heap) (locs : List Loc) (ls : Array Slot), k65 x65_l3 = some z → va_P D vwCl [(a_o, .inr (9, [w_o_text, .ref a_speech, w_o_now, w_o_image0, w_o_image1, w_o_signs, w_o_reader, w_o_lengths, w_o_refusals, w_o_two, .int o_measured, .long o_traced])), (a_speech_values, .inl (cI, 3, .inl f_speech_values)), (a_speech_left, .inl (cI, 30, .inl f_speech_left)), (a_speech, .inr (7, [.ref a_speech_values, .ref a_speech_left, .int speech_choices, .int speech_worlds]))] H → va_D A [(a_o, .inr (9, [w_o_text, .ref a_speech, w_o_now, w_o_image0, w_o_image1, w_o_signs, w_o_reader, w_o_lengths, w_o_refusals, w_o_two, .int o_measured, .long o_traced])), (a_speech_values, .inl (cI, 3, .inl f_speech_values)), (a_speech_left, .inl (cI, 30, .inl f_speech_left)), (a_speech, .inr (7, [.ref a_speech_values, .ref a_speech_left, .int speech_choices, .int speech_worlds]))] → va_S A s.heap H locs → lv_has ls 5 [(2, .int p2), (3, .int x65_l3)] → W p l e rmX10_terms s m args below meth c H locs 0 0 Q (F0 m 65 ls []) := by
        intro x65_l3 H locs ls h hP hD hS hl
        rw [hk65] at h
        refine lv_iload_n hx hb dX10_terms_65 rfl (lv_at hl 0 rfl) ?_
        refine lv_iconst (v := (-1)) hx hb dX10_terms_66 ic_m1 ?_
        refine lv_icmp_ne (tgt := 74) hx hb dX10_terms_67 (by decide) (fun c_67 => ?_) (fun c_67 => ?_)
        · replace h := if_e c_67 h
          refine lv_iconst (v := (-1)) hx hb dX10_terms_74 ic_m1 ?_
          have hz := Option.some.inj h
          subst hz
          exact hret H locs 75 ls (fun ty h => by cases h; rfl) (hP.sub [0, 3, 1, 2] rfl) (hD.sub [0, 3, 1, 2] (by decide) rfl) hS dX10_terms_75
        · replace h := it_e c_67 h
          refine lv_iload_n hx hb dX10_terms_70 rfl (lv_at hl 1 rfl) ?_
          refine lv_goto (tgt := 75) hx hb dX10_terms_71 (by decide) ?_
          have hz := Option.some.inj h
          subst hz
          exact hret H locs 75 ls (fun ty h => by cases h; rfl) (hP.sub [0, 3, 1, 2] rfl) (hD.sub [0, 3, 1, 2] (by decide) rfl) hS dX10_terms_75
      have L23 : ∀ (n : Nat), ∀ (x23_l3 : Int32) (x23_l4 : Int32) (H : Heap) (locs : List Loc) (ls : Array Slot), P_X10_terms_23 p1 p2 speech_choices speech_worlds f_speech_values f_speech_left k65 n x23_l3 x23_l4 = some z → va_P D vwCl [(a_o, .inr (9, [w_o_text, .ref a_speech, w_o_now, w_o_image0, w_o_image1, w_o_signs, w_o_reader, w_o_lengths, w_o_refusals, w_o_two, .int o_measured, .long o_traced])), (a_speech_values, .inl (cI, 3, .inl f_speech_values)), (a_speech_left, .inl (cI, 30, .inl f_speech_left)), (a_speech, .inr (7, [.ref a_speech_values, .ref a_speech_left, .int speech_choices, .int speech_worlds]))] H → va_D A [(a_o, .inr (9, [w_o_text, .ref a_speech, w_o_now, w_o_image0, w_o_image1, w_o_signs, w_o_reader, w_o_lengths, w_o_refusals, w_o_two, .int o_measured, .long o_traced])), (a_speech_values, .inl (cI, 3, .inl f_speech_values)), (a_speech_left, .inl (cI, 30, .inl f_speech_left)), (a_speech, .inr (7, [.ref a_speech_values, .ref a_speech_left, .int speech_choices, .int speech_worlds]))] → va_S A s.heap H locs → lv_has ls 5 [(0, .ref a_o), (1, .int p1), (2, .int p2), (3, .int x23_l3), (4, .int x23_l4)] → W p l e rmX10_terms s m args below meth c H locs 0 0 Q (F0 m 23 ls []) := by
        intro n
        induction n with
        | zero =>
          intro x23_l3 x23_l4 H locs ls h
          exact no_e h
        | succ n ih23 =>
          intro x23_l3 x23_l4 H locs ls h hP hD hS hl
          rw [P_X10_terms_23] at h
          refine lv_iload hx hb dX10_terms_23 (lv_at hl 4 rfl) ?_
          refine lv_aload_n hx hb dX10_terms_25 rfl (lv_at hl 0 rfl) ?_
          refine va_get (D := D) (ci := 9) (v := .ref a_speech) (C := RX10) (T := TX10) (N := 12) hx hb hts u_X10 hown hK hP 0 rfl rfl 1 (by decide) k_f0 (fun _ h9 => h9) rfl dX10_terms_26 ?_
          obtain ⟨z_29, hc_29, h⟩ := bd_e h
          refine q_iV (As := []) (rest := [.int x23_l4]) (wF := [(a_o, .inr (9, [w_o_text, .ref a_speech, w_o_now, w_o_image0, w_o_image1, w_o_signs, w_o_reader, w_o_lengths, w_o_refusals, w_o_two, .int o_measured, .long o_traced])), (a_speech_values, .inl (cI, 3, .inl f_speech_values)), (a_speech_left, .inl (cI, 30, .inl f_speech_left)), (a_speech, .inr (7, [.ref a_speech_values, .ref a_speech_left, .int speech_choices, .int speech_worlds]))]) hF hA hZ hK hP hD hS (c_X8_all l D cI cB cZ a_speech (.ref a_speech_values) (.ref a_speech_left) speech_choices speech_worlds z_29 hc_29) rfl gX10_terms_X8_all hdX8_all ⟨rfl, rfl⟩ (Nat.le_of_ble_eq_true rfl) (Nat.le_of_ble_eq_true rfl) 7 0 rfl rfl [3] [0, 1, 2] rfl rfl rfl rfl (by decide) rfl hl.1 rfl (Nat.le_of_ble_eq_true rfl) (Nat.zero_le _) (Nat.zero_le _) dX10_terms_29 (fun H locs hP hD hS => ?_)
          refine lv_icmp_gt (tgt := 65) hx hb dX10_terms_32 (by decide) (fun c_32 => ?_) (fun c_32 => ?_)
          · replace h := it_e c_32 h
            exact Jk65 x23_l3 H locs ls h hP hD hS (lv_sub hl [2, 3] rfl)
          · replace h := if_e c_32 h
            refine lv_aload_n hx hb dX10_terms_35 rfl (lv_at hl 0 rfl) ?_
            refine va_get (D := D) (ci := 9) (v := .ref a_speech) (C := RX10) (T := TX10) (N := 12) hx hb hts u_X10 hown hK hP 0 rfl rfl 1 (by decide) k_f0 (fun _ h9 => h9) rfl dX10_terms_36 ?_
            refine lv_iload hx hb dX10_terms_39 (lv_at hl 4 rfl) ?_
            refine lv_iload_n hx hb dX10_terms_41 rfl (lv_at hl 1 rfl) ?_
            obtain ⟨z_42, hc_42, h⟩ := bd_e h
            refine q_iV (As := [.int x23_l4, .int p1]) (rest := []) (wF := [(a_o, .inr (9, [w_o_text, .ref a_speech, w_o_now, w_o_image0, w_o_image1, w_o_signs, w_o_reader, w_o_lengths, w_o_refusals, w_o_two, .int o_measured, .long o_traced])), (a_speech, .inr (7, [.ref a_speech_values, .ref a_speech_left, .int speech_choices, .int speech_worlds])), (a_speech_values, .inl (cI, 3, .inl f_speech_values)), (a_speech_left, .inl (cI, 30, .inl f_speech_left))]) hF hA hZ hK hP hD hS (c_X8_isTerm l D cI cB cZ a_speech speech_choices speech_worlds a_speech_values f_speech_values a_speech_left f_speech_left x23_l4 p1 z_42 hc_42) rfl gX10_terms_X8_isTerm hdX8_isTerm ⟨rfl, rfl⟩ (Nat.le_of_ble_eq_true rfl) (Nat.le_of_ble_eq_true rfl) 7 0 rfl rfl [3, 1, 2] [0] rfl rfl rfl rfl (by decide) rfl hl.1 rfl (Nat.le_of_ble_eq_true rfl) (Nat.zero_le _) (Nat.zero_le _) dX10_terms_42 (fun H locs hP hD hS => ?_)
            obtain ⟨j59, hj59, h⟩ := jn_e h
            have Jj59 : ∀ (x59_l3 : Int32) (H : Heap) (locs : List Loc) (ls : Array Slot), j59 x59_l3 = some z → va_P D vwCl [(a_o, .inr (9, [w_o_text, .ref a_speech, w_o_now, w_o_image0, w_o_image1, w_o_signs, w_o_reader, w_o_lengths, w_o_refusals, w_o_two, .int o_measured, .long o_traced])), (a_speech, .inr (7, [.ref a_speech_values, .ref a_speech_left, .int speech_choices, .int speech_worlds])), (a_speech_values, .inl (cI, 3, .inl f_speech_values)), (a_speech_left, .inl (cI, 30, .inl f_speech_left))] H → va_D A [(a_o, .inr (9, [w_o_text, .ref a_speech, w_o_now, w_o_image0, w_o_image1, w_o_signs, w_o_reader, w_o_lengths, w_o_refusals, w_o_two, .int o_measured, .long o_traced])), (a_speech, .inr (7, [.ref a_speech_values, .ref a_speech_left, .int speech_choices, .int speech_worlds])), (a_speech_values, .inl (cI, 3, .inl f_speech_values)), (a_speech_left, .inl (cI, 30, .inl f_speech_left))] → va_S A s.heap H locs → lv_has ls 5 [(0, .ref a_o), (1, .int p1), (2, .int p2), (3, .int x59_l3), (4, .int x23_l4)] → W p l e rmX10_terms s m args below meth c H locs 0 0 Q (F0 m 59 ls []) := by
              intro x59_l3 H locs ls h hP hD hS hl
              rw [hj59] at h
              refine lv_iinc (v := x23_l4 + 1) (lv' := [(4, .int (x23_l4 + 1)), (0, .ref a_o), (1, .int p1), (2, .int p2), (3, .int x59_l3)]) hx hb dX10_terms_59 hl (k := 4) rfl (congrArg (x23_l4 + ·) ic_1) (by decide) rfl (fun ls hl => ?_)
              refine lv_goto (tgt := 23) hx hb dX10_terms_62 (by decide) ?_
              exact ih23 x59_l3 (x23_l4 + 1) H locs ls h (hP.sub [0, 2, 3, 1] rfl) (hD.sub [0, 2, 3, 1] (by decide) rfl) hS (lv_sub hl [1, 2, 3, 4, 0] rfl)
            refine lv_if_eq (tgt := 59) hx hb dX10_terms_45 (by decide) (fun c_45 => ?_) (fun c_45 => ?_)
            · replace h := it_e c_45 h
              exact Jj59 x23_l3 H locs ls h hP hD hS hl
            · replace h := if_e c_45 h
              refine lv_iload_n hx hb dX10_terms_48 rfl (lv_at hl 3 rfl) ?_
              refine lv_iload_n hx hb dX10_terms_49 rfl (lv_at hl 2 rfl) ?_
              refine lv_icmp_ne (tgt := 56) hx hb dX10_terms_50 (by decide) (fun c_50 => ?_) (fun c_50 => ?_)
              · replace h := if_e c_50 h
                refine lv_iinc (v := x23_l3 + 1) (lv' := [(3, .int (x23_l3 + 1)), (0, .ref a_o), (1, .int p1), (2, .int p2), (4, .int x23_l4)]) hx hb dX10_terms_56 hl (k := 3) rfl (congrArg (x23_l3 + ·) ic_1) (by decide) rfl (fun ls hl => ?_)
                exact Jj59 (x23_l3 + 1) H locs ls h hP hD hS (lv_sub hl [1, 2, 3, 0, 4] rfl)
              · replace h := it_e c_50 h
                refine lv_iload hx hb dX10_terms_53 (lv_at hl 4 rfl) ?_
                have hz := Option.some.inj h
                subst hz
                exact hret H locs 55 ls (fun ty h => by cases h; rfl) hP hD hS dX10_terms_55
      exact L23 QF 0 1 H locs ls h hP hD hS (lv_sub hl [2, 3, 4, 1, 0] rfl)
    · replace h := if_e c_13 h
      refine lv_iconst (v := (-1)) hx hb dX10_terms_16 ic_m1 ?_
      have hz := Option.some.inj h
      subst hz
      exact hret H locs 17 ls (fun ty h => by cases h; rfl) (hP.sub [0, 3, 1, 2] rfl) (hD.sub [0, 3, 1, 2] (by decide) rfl) hS dX10_terms_17
abbrev rmX8_others : Room := { frames := 1, cells := 0, slots := 0, locals := 20 }
theorem hdX8_others : yX8_others.cls = RX8 ∧ yX8_others.cls ≠ "java/lang/invoke/MethodHandle" ∧ yX8_others.cls ≠ "java/lang/invoke/VarHandle" ∧ (parseMethodDescriptor yX8_others.desc).map (fun d => d.parameters.length) = some 1 := by decide +kernel
set_option maxRecDepth 100000 in
set_option maxHeartbeats 4000000 in
theorem c_X8_others (l : Launch) (D : va_G) (cI cB cZ : ClassId) (a_o : Nat) (w_o_values : Value) (w_o_left : Value) (o_choices : Int32) (o_worlds : Int32) (p1 : Int32) (z : Int32) (h : P_X8_others p1 o_worlds = some z) : KI l yX8_others wsX8_others rmX8_others D [(cI, .int), (cB, .byte), (cZ, .boolean)] [.ref a_o, .int p1] [(a_o, .inr (7, [w_o_values, w_o_left, .int o_choices, .int o_worlds]))] [(a_o, .inr (7, [w_o_values, w_o_left, .int o_choices, .int o_worlds]))] z := by
  refine KI_of (own := RX8) (cc := cX8_others) (maxL := 2) (ret := some .int) (by decide) rfl rfl (Nat.le_of_ble_eq_true rfl) (Or.inl rfl) ?_
  intro p e s m args below meth c A Q hx hb hml hown hts hA hZ hK hret H locs ls hP hD hS hl
  have hl : lv_has ls 2 [(0, .ref a_o), (1, .int p1)] := hl
  have hF : CallFix p m c cX8_others 2 s args wsX8_others RX8 := ⟨hx, hb, hml, hown, hts⟩
  unfold P_X8_others at h
  refine lv_aload_n hx hb dX8_others_0 rfl (lv_at hl 0 rfl) ?_
  obtain ⟨z_1, hc_1, h⟩ := bd_e h
  refine q_iV (As := []) (rest := []) (wF := [(a_o, .inr (7, [w_o_values, w_o_left, .int o_choices, .int o_worlds]))]) hF hA hZ hK hP hD hS (c_X8_all l D cI cB cZ a_o w_o_values w_o_left o_choices o_worlds z_1 hc_1) rfl gX8_others_X8_all hdX8_all ⟨rfl, rfl⟩ (Nat.le_of_ble_eq_true rfl) (Nat.le_of_ble_eq_true rfl) 7 0 rfl rfl [0] [] rfl rfl rfl rfl (by decide) rfl hl.1 rfl (Nat.le_of_ble_eq_true rfl) (Nat.zero_le _) (Nat.zero_le _) dX8_others_1 (fun H locs hP hD hS => ?_)
  refine lv_iload_n hx hb dX8_others_4 rfl (lv_at hl 1 rfl) ?_
  refine lv_iconst (v := (-1)) hx hb dX8_others_5 ic_m1 ?_
  refine lv_ixor hx hb dX8_others_6 ?_
  refine lv_iand hx hb dX8_others_7 ?_
  have hz := Option.some.inj h
  subst hz
  exact hret H locs 8 ls (fun ty h => by cases h; rfl) hP hD hS dX8_others_8
abbrev rmX10_refusal : Room := { frames := 6, cells := 0, slots := 0, locals := 132 }
theorem hdX10_refusal : yX10_refusal.cls = RX10 ∧ yX10_refusal.cls ≠ "java/lang/invoke/MethodHandle" ∧ yX10_refusal.cls ≠ "java/lang/invoke/VarHandle" ∧ (parseMethodDescriptor yX10_refusal.desc).map (fun d => d.parameters.length) = some 1 := by decide +kernel
set_option maxRecDepth 100000 in
set_option maxHeartbeats 4000000 in
theorem c_X10_refusal (l : Launch) (D : va_G) (cI cB cZ : ClassId) (a_o : Nat) (w_o_text : Value) (w_o_image0 : Value) (w_o_image1 : Value) (w_o_reader : Value) (w_o_refusals : Value) (w_o_two : Value) (o_measured : Int32) (o_traced : Int64) (a_speech : Nat) (speech_choices : Int32) (speech_worlds : Int32) (a_speech_values : Nat) (f_speech_values : Nat → Int32) (a_speech_left : Nat) (f_speech_left : Nat → Int32) (a_now : Nat) (w_now_left : Value) (w_now_signs : Value) (now_sayings : Int32) (now_words : Int32) (now_filled : Int32) (a_now_wordSets : Nat) (f_now_wordSets : Nat → Int32) (a_signs : Nat) (a_lengths : Nat) (lengths_found : Int32) (a_lengths_length : Nat) (f_lengths_length : Nat → Int32) (a_lengths_order : Nat) (f_lengths_order : Nat → Int32) (a_lengths_start : Nat) (f_lengths_start : Nat → Int32) (p1 : Int32) (z : Int32 × Int32 × Int32 × (Nat → Int32) × (Nat → Int32) × (Nat → Int32)) (h : P_X10_refusal p1 o_measured speech_choices speech_worlds f_speech_values f_speech_left now_words f_now_wordSets lengths_found f_lengths_length f_lengths_order f_lengths_start = some z) : KI l yX10_refusal wsX10_refusal rmX10_refusal D [(cI, .int), (cB, .byte), (cZ, .boolean)] [.ref a_o, .int p1] [(a_o, .inr (9, [w_o_text, .ref a_speech, .ref a_now, w_o_image0, w_o_image1, .ref a_signs, w_o_reader, .ref a_lengths, w_o_refusals, w_o_two, .int o_measured, .long o_traced])), (a_speech, .inr (7, [.ref a_speech_values, .ref a_speech_left, .int speech_choices, .int speech_worlds])), (a_speech_values, .inl (cI, 3, .inl f_speech_values)), (a_speech_left, .inl (cI, 30, .inl f_speech_left)), (a_now, .inr (0, [w_now_left, w_now_signs, .ref a_now_wordSets, .int now_sayings, .int now_words, .int now_filled])), (a_now_wordSets, .inl (cI, 3, .inl f_now_wordSets)), (a_signs, .inr (4, [.ref a_speech, .ref a_now])), (a_lengths, .inr (1, [.ref a_signs, .ref a_lengths_length, .ref a_lengths_order, .ref a_lengths_start, .int lengths_found])), (a_lengths_length, .inl (cI, 512, .inl f_lengths_length)), (a_lengths_order, .inl (cI, 512, .inl f_lengths_order)), (a_lengths_start, .inl (cI, 34, .inl f_lengths_start))] [(a_o, .inr (9, [w_o_text, .ref a_speech, .ref a_now, w_o_image0, w_o_image1, .ref a_signs, w_o_reader, .ref a_lengths, w_o_refusals, w_o_two, .int z.2.1, .long o_traced])), (a_speech, .inr (7, [.ref a_speech_values, .ref a_speech_left, .int speech_choices, .int speech_worlds])), (a_speech_values, .inl (cI, 3, .inl f_speech_values)), (a_speech_left, .inl (cI, 30, .inl f_speech_left)), (a_now, .inr (0, [w_now_left, w_now_signs, .ref a_now_wordSets, .int now_sayings, .int now_words, .int now_filled])), (a_now_wordSets, .inl (cI, 3, .inl f_now_wordSets)), (a_signs, .inr (4, [.ref a_speech, .ref a_now])), (a_lengths, .inr (1, [.ref a_signs, .ref a_lengths_length, .ref a_lengths_order, .ref a_lengths_start, .int z.2.2.1])), (a_lengths_length, .inl (cI, 512, .inl z.2.2.2.1)), (a_lengths_order, .inl (cI, 512, .inl z.2.2.2.2.1)), (a_lengths_start, .inl (cI, 34, .inl z.2.2.2.2.2))] z.1 := by
  refine KI_of (own := RX10) (cc := cX10_refusal) (maxL := 2) (ret := some .int) (by decide) rfl rfl (Nat.le_of_ble_eq_true rfl) (Or.inl rfl) ?_
  intro p e s m args below meth c A Q hx hb hml hown hts hA hZ hK hret H locs ls hP hD hS hl
  have hl : lv_has ls 2 [(0, .ref a_o), (1, .int p1)] := hl
  have hF : CallFix p m c cX10_refusal 2 s args wsX10_refusal RX10 := ⟨hx, hb, hml, hown, hts⟩
  have u_X10 : ∀ w ∈ u_ws RX10 TX10 12, w ∈ wsX10_refusal := by decide +kernel
  have k_f0 := hts (.fieldLink RX10 19 "NoWordNo" "speech" "LNoWordNo$Tongue;") (by decide +kernel)
  unfold P_X10_refusal at h
  refine lv_aload_n hx hb dX10_refusal_0 rfl (lv_at hl 0 rfl) ?_
  refine va_get (D := D) (ci := 9) (v := .ref a_speech) (C := RX10) (T := TX10) (N := 12) hx hb hts u_X10 hown hK hP 0 rfl rfl 1 (by decide) k_f0 (fun _ h9 => h9) rfl dX10_refusal_1 ?_
  refine lv_iload_n hx hb dX10_refusal_4 rfl (lv_at hl 1 rfl) ?_
  obtain ⟨z_5, hc_5, h⟩ := bd_e h
  refine q_iV (As := [.int p1]) (rest := []) (wF := [(a_o, .inr (9, [w_o_text, .ref a_speech, .ref a_now, w_o_image0, w_o_image1, .ref a_signs, w_o_reader, .ref a_lengths, w_o_refusals, w_o_two, .int o_measured, .long o_traced])), (a_speech_values, .inl (cI, 3, .inl f_speech_values)), (a_speech_left, .inl (cI, 30, .inl f_speech_left)), (a_now, .inr (0, [w_now_left, w_now_signs, .ref a_now_wordSets, .int now_sayings, .int now_words, .int now_filled])), (a_now_wordSets, .inl (cI, 3, .inl f_now_wordSets)), (a_signs, .inr (4, [.ref a_speech, .ref a_now])), (a_lengths, .inr (1, [.ref a_signs, .ref a_lengths_length, .ref a_lengths_order, .ref a_lengths_start, .int lengths_found])), (a_lengths_length, .inl (cI, 512, .inl f_lengths_length)), (a_lengths_order, .inl (cI, 512, .inl f_lengths_order)), (a_lengths_start, .inl (cI, 34, .inl f_lengths_start)), (a_speech, .inr (7, [.ref a_speech_values, .ref a_speech_left, .int speech_choices, .int speech_worlds]))]) hF hA hZ hK hP hD hS (c_X8_isSet l D cI cB cZ a_speech (.ref a_speech_values) (.ref a_speech_left) speech_choices speech_worlds p1 z_5 hc_5) rfl gX10_refusal_X8_isSet hdX8_isSet ⟨rfl, rfl⟩ (Nat.le_of_ble_eq_true rfl) (Nat.le_of_ble_eq_true rfl) 7 0 rfl rfl [1] [0, 2, 3, 4, 5, 6, 7, 8, 9, 10] rfl rfl rfl rfl (by decide) rfl hl.1 rfl (Nat.le_of_ble_eq_true rfl) (Nat.zero_le _) (Nat.zero_le _) dX10_refusal_5 (fun H locs hP hD hS => ?_)
  refine lv_if_eq (tgt := 29) hx hb dX10_refusal_8 (by decide) (fun c_8 => ?_) (fun c_8 => ?_)
  · replace h := it_e c_8 h
    refine lv_iconst (v := (-1)) hx hb dX10_refusal_29 ic_m1 ?_
    have hz := Option.some.inj h
    subst hz
    exact hret H locs 30 ls (fun ty h => by cases h; rfl) (hP.sub [0, 10, 1, 2, 3, 4, 5, 6, 7, 8, 9] rfl) (hD.sub [0, 10, 1, 2, 3, 4, 5, 6, 7, 8, 9] (by decide) rfl) hS dX10_refusal_30
  · replace h := if_e c_8 h
    refine lv_aload_n hx hb dX10_refusal_11 rfl (lv_at hl 0 rfl) ?_
    obtain ⟨z_12, hc_12, h⟩ := bd_e h
    refine q_rV (As := []) (rest := []) (wF := [(a_o, .inr (9, [w_o_text, .ref a_speech, .ref a_now, w_o_image0, w_o_image1, .ref a_signs, w_o_reader, .ref a_lengths, w_o_refusals, w_o_two, .int z_12.1, .long o_traced])), (a_speech, .inr (7, [.ref a_speech_values, .ref a_speech_left, .int speech_choices, .int speech_worlds])), (a_speech_values, .inl (cI, 3, .inl f_speech_values)), (a_speech_left, .inl (cI, 30, .inl f_speech_left)), (a_now, .inr (0, [w_now_left, w_now_signs, .ref a_now_wordSets, .int now_sayings, .int now_words, .int now_filled])), (a_now_wordSets, .inl (cI, 3, .inl f_now_wordSets)), (a_signs, .inr (4, [.ref a_speech, .ref a_now])), (a_lengths, .inr (1, [.ref a_signs, .ref a_lengths_length, .ref a_lengths_order, .ref a_lengths_start, .int z_12.2.1])), (a_lengths_length, .inl (cI, 512, .inl z_12.2.2.1)), (a_lengths_order, .inl (cI, 512, .inl z_12.2.2.2.1)), (a_lengths_start, .inl (cI, 34, .inl z_12.2.2.2.2))]) hF hA hZ hK hP hD hS (c_X10_lengthsNow l D cI cB cZ a_o w_o_text w_o_image0 w_o_image1 w_o_reader w_o_refusals w_o_two o_measured o_traced a_speech speech_choices speech_worlds a_speech_values f_speech_values a_speech_left f_speech_left a_now w_now_left w_now_signs now_sayings now_words now_filled a_now_wordSets f_now_wordSets a_signs a_lengths lengths_found a_lengths_length f_lengths_length a_lengths_order f_lengths_order a_lengths_start f_lengths_start z_12 hc_12) rfl gX10_refusal_X10_lengthsNow hdX10_lengthsNow ⟨rfl, rfl⟩ (Nat.le_of_ble_eq_true rfl) (Nat.le_of_ble_eq_true rfl) 9 0 rfl rfl [0, 10, 1, 2, 3, 4, 5, 6, 7, 8, 9] [] rfl rfl rfl rfl (by decide) rfl hl.1 rfl (Nat.le_of_ble_eq_true rfl) (Nat.zero_le _) (Nat.zero_le _) dX10_refusal_12 (fun H locs hP hD hS => ?_)
    refine lv_aload_n hx hb dX10_refusal_15 rfl (lv_at hl 0 rfl) ?_
    refine va_get (D := D) (ci := 9) (v := .ref a_speech) (C := RX10) (T := TX10) (N := 12) hx hb hts u_X10 hown hK hP 0 rfl rfl 1 (by decide) k_f0 (fun _ h9 => h9) rfl dX10_refusal_16 ?_
    refine lv_iload_n hx hb dX10_refusal_19 rfl (lv_at hl 1 rfl) ?_
    obtain ⟨z_20, hc_20, h⟩ := bd_e h
    refine q_iV (As := [.int p1]) (rest := [.ref a_lengths]) (wF := [(a_o, .inr (9, [w_o_text, .ref a_speech, .ref a_now, w_o_image0, w_o_image1, .ref a_signs, w_o_reader, .ref a_lengths, w_o_refusals, w_o_two, .int z_12.1, .long o_traced])), (a_speech_values, .inl (cI, 3, .inl f_speech_values)), (a_speech_left, .inl (cI, 30, .inl f_speech_left)), (a_now, .inr (0, [w_now_left, w_now_signs, .ref a_now_wordSets, .int now_sayings, .int now_words, .int now_filled])), (a_now_wordSets, .inl (cI, 3, .inl f_now_wordSets)), (a_signs, .inr (4, [.ref a_speech, .ref a_now])), (a_lengths, .inr (1, [.ref a_signs, .ref a_lengths_length, .ref a_lengths_order, .ref a_lengths_start, .int z_12.2.1])), (a_lengths_length, .inl (cI, 512, .inl z_12.2.2.1)), (a_lengths_order, .inl (cI, 512, .inl z_12.2.2.2.1)), (a_lengths_start, .inl (cI, 34, .inl z_12.2.2.2.2)), (a_speech, .inr (7, [.ref a_speech_values, .ref a_speech_left, .int speech_choices, .int speech_worlds]))]) hF hA hZ hK hP hD hS (c_X8_others l D cI cB cZ a_speech (.ref a_speech_values) (.ref a_speech_left) speech_choices speech_worlds p1 z_20 hc_20) rfl gX10_refusal_X8_others hdX8_others ⟨rfl, rfl⟩ (Nat.le_of_ble_eq_true rfl) (Nat.le_of_ble_eq_true rfl) 7 0 rfl rfl [1] [0, 2, 3, 4, 5, 6, 7, 8, 9, 10] rfl rfl rfl rfl (by decide) rfl hl.1 rfl (Nat.le_of_ble_eq_true rfl) (Nat.zero_le _) (Nat.zero_le _) dX10_refusal_20 (fun H locs hP hD hS => ?_)
    obtain ⟨z_23, hc_23, h⟩ := bd_e h
    refine q_iV (As := [.int z_20]) (rest := []) (wF := [(a_o, .inr (9, [w_o_text, .ref a_speech, .ref a_now, w_o_image0, w_o_image1, .ref a_signs, w_o_reader, .ref a_lengths, w_o_refusals, w_o_two, .int z_12.1, .long o_traced])), (a_speech_values, .inl (cI, 3, .inl f_speech_values)), (a_speech_left, .inl (cI, 30, .inl f_speech_left)), (a_now, .inr (0, [w_now_left, w_now_signs, .ref a_now_wordSets, .int now_sayings, .int now_words, .int now_filled])), (a_now_wordSets, .inl (cI, 3, .inl f_now_wordSets)), (a_signs, .inr (4, [.ref a_speech, .ref a_now])), (a_lengths_order, .inl (cI, 512, .inl z_12.2.2.2.1)), (a_lengths_start, .inl (cI, 34, .inl z_12.2.2.2.2)), (a_speech, .inr (7, [.ref a_speech_values, .ref a_speech_left, .int speech_choices, .int speech_worlds])), (a_lengths, .inr (1, [.ref a_signs, .ref a_lengths_length, .ref a_lengths_order, .ref a_lengths_start, .int z_12.2.1])), (a_lengths_length, .inl (cI, 512, .inl z_12.2.2.1))]) hF hA hZ hK hP hD hS (c_X1_of l D cI cB cZ a_lengths (.ref a_signs) (.ref a_lengths_order) (.ref a_lengths_start) z_12.2.1 a_lengths_length z_12.2.2.1 z_20 z_23 hc_23) rfl gX10_refusal_X1_of hdX1_of ⟨rfl, rfl⟩ (Nat.le_of_ble_eq_true rfl) (Nat.le_of_ble_eq_true rfl) 1 0 rfl rfl [6, 7] [0, 1, 2, 3, 4, 5, 8, 9, 10] rfl rfl rfl rfl (by decide) rfl hl.1 rfl (Nat.le_of_ble_eq_true rfl) (Nat.zero_le _) (Nat.zero_le _) dX10_refusal_23 (fun H locs hP hD hS => ?_)
    refine lv_goto (tgt := 30) hx hb dX10_refusal_26 (by decide) ?_
    have hz := Option.some.inj h
    subst hz
    exact hret H locs 30 ls (fun ty h => by cases h; rfl) (hP.sub [0, 8, 1, 2, 3, 4, 5, 9, 10, 6, 7] rfl) (hD.sub [0, 8, 1, 2, 3, 4, 5, 9, 10, 6, 7] (by decide) rfl) hS dX10_refusal_30
abbrev rmX3_isSign : Room := { frames := 2, cells := 0, slots := 0, locals := 42 }
theorem hdX3_isSign : yX3_isSign.cls = RX3 ∧ yX3_isSign.cls ≠ "java/lang/invoke/MethodHandle" ∧ yX3_isSign.cls ≠ "java/lang/invoke/VarHandle" ∧ (parseMethodDescriptor yX3_isSign.desc).map (fun d => d.parameters.length) = some 1 := by decide +kernel
set_option maxRecDepth 100000 in
set_option maxHeartbeats 4000000 in
theorem c_X3_isSign (l : Launch) (D : va_G) (cI cB cZ : ClassId) (a_o : Nat) (w_o_tried : Value) (o_sign : Int32) (o_sum : Int32) (o_known : Int32) (a_tongue : Nat) (w_tongue_left : Value) (tongue_choices : Int32) (tongue_worlds : Int32) (a_tongue_values : Nat) (f_tongue_values : Nat → Int32) (p1 : Int32) (z : Int32) (h : P_X3_isSign p1 tongue_choices f_tongue_values = some z) : KI l yX3_isSign wsX3_isSign rmX3_isSign D [(cI, .int), (cB, .byte), (cZ, .boolean)] [.ref a_o, .int p1] [(a_o, .inr (3, [.ref a_tongue, w_o_tried, .int o_sign, .int o_sum, .int o_known])), (a_tongue, .inr (7, [.ref a_tongue_values, w_tongue_left, .int tongue_choices, .int tongue_worlds])), (a_tongue_values, .inl (cI, 3, .inl f_tongue_values))] [(a_o, .inr (3, [.ref a_tongue, w_o_tried, .int o_sign, .int o_sum, .int o_known])), (a_tongue, .inr (7, [.ref a_tongue_values, w_tongue_left, .int tongue_choices, .int tongue_worlds])), (a_tongue_values, .inl (cI, 3, .inl f_tongue_values))] z := by
  refine KI_of (own := RX3) (cc := cX3_isSign) (maxL := 2) (ret := some .boolean) (by decide) rfl rfl (Nat.le_of_ble_eq_true rfl) (Or.inr rfl) ?_
  intro p e s m args below meth c A Q hx hb hml hown hts hA hZ hK hret H locs ls hP hD hS hl
  have hl : lv_has ls 2 [(0, .ref a_o), (1, .int p1)] := hl
  have hF : CallFix p m c cX3_isSign 2 s args wsX3_isSign RX3 := ⟨hx, hb, hml, hown, hts⟩
  have u_X3 : ∀ w ∈ u_ws RX3 TX3 5, w ∈ wsX3_isSign := by decide +kernel
  have k_f0 := hts (.fieldLink RX3 20 "NoWordNo$Refusals" "tongue" "LNoWordNo$Tongue;") (by decide +kernel)
  unfold P_X3_isSign at h
  refine lv_iload_n hx hb dX3_isSign_0 rfl (lv_at hl 1 rfl) ?_
  refine lv_bipush (v := 10) hx hb dX3_isSign_1 bc_10 ?_
  refine lv_irem hx hb dX3_isSign_3 (by decide) ?_
  refine lv_aload_n hx hb dX3_isSign_4 rfl (lv_at hl 0 rfl) ?_
  refine va_get (D := D) (ci := 3) (v := .ref a_tongue) (C := RX3) (T := TX3) (N := 5) hx hb hts u_X3 hown hK hP 0 rfl rfl 0 (by decide) k_f0 (fun _ h9 => h9) rfl dX3_isSign_5 ?_
  refine lv_iload_n hx hb dX3_isSign_8 rfl (lv_at hl 1 rfl) ?_
  refine lv_bipush (v := 10) hx hb dX3_isSign_9 bc_10 ?_
  refine lv_idiv hx hb dX3_isSign_11 (by decide) ?_
  obtain ⟨z_12, hc_12, h⟩ := bd_e h
  refine q_iV (As := [.int (p1 / 10)]) (rest := [.int (p1 - p1 / 10 * 10)]) (wF := [(a_o, .inr (3, [.ref a_tongue, w_o_tried, .int o_sign, .int o_sum, .int o_known])), (a_tongue, .inr (7, [.ref a_tongue_values, w_tongue_left, .int tongue_choices, .int tongue_worlds])), (a_tongue_values, .inl (cI, 3, .inl f_tongue_values))]) hF hA hZ hK hP hD hS (c_X8_valuesOf l D cI cB cZ a_tongue w_tongue_left tongue_choices tongue_worlds a_tongue_values f_tongue_values (p1 / 10) z_12 hc_12) rfl gX3_isSign_X8_valuesOf hdX8_valuesOf ⟨rfl, rfl⟩ (Nat.le_of_ble_eq_true rfl) (Nat.le_of_ble_eq_true rfl) 7 0 rfl rfl [1, 2] [0] rfl rfl rfl rfl (by decide) rfl hl.1 rfl (Nat.le_of_ble_eq_true rfl) (Nat.zero_le _) (Nat.zero_le _) dX3_isSign_12 (fun H locs hP hD hS => ?_)
  refine lv_icmp_ge (tgt := 22) hx hb dX3_isSign_15 (by decide) (fun c_15 => ?_) (fun c_15 => ?_)
  · replace h := it_e c_15 h
    refine lv_iconst (v := 0) hx hb dX3_isSign_22 ic_0 ?_
    have hz := Option.some.inj h
    subst hz
    exact hret H locs 23 ls (fun ty h => by cases h; exact nar_0) hP hD hS dX3_isSign_23
  · replace h := if_e c_15 h
    refine lv_iconst (v := 1) hx hb dX3_isSign_18 ic_1 ?_
    refine lv_goto (tgt := 23) hx hb dX3_isSign_19 (by decide) ?_
    have hz := Option.some.inj h
    subst hz
    exact hret H locs 23 ls (fun ty h => by cases h; exact nar_1) hP hD hS dX3_isSign_23
abbrev rmX3_allBut : Room := { frames := 2, cells := 0, slots := 0, locals := 43 }
theorem hdX3_allBut : yX3_allBut.cls = RX3 ∧ yX3_allBut.cls ≠ "java/lang/invoke/MethodHandle" ∧ yX3_allBut.cls ≠ "java/lang/invoke/VarHandle" ∧ (parseMethodDescriptor yX3_allBut.desc).map (fun d => d.parameters.length) = some 1 := by decide +kernel
set_option maxRecDepth 100000 in
set_option maxHeartbeats 4000000 in
theorem c_X3_allBut (l : Launch) (D : va_G) (cI cB cZ : ClassId) (a_o : Nat) (w_o_tried : Value) (o_sign : Int32) (o_sum : Int32) (o_known : Int32) (a_tongue : Nat) (w_tongue_values : Value) (tongue_choices : Int32) (tongue_worlds : Int32) (a_tongue_left : Nat) (f_tongue_left : Nat → Int32) (p1 : Int32) (z : Int32) (h : P_X3_allBut p1 tongue_worlds f_tongue_left = some z) : KI l yX3_allBut wsX3_allBut rmX3_allBut D [(cI, .int), (cB, .byte), (cZ, .boolean)] [.ref a_o, .int p1] [(a_o, .inr (3, [.ref a_tongue, w_o_tried, .int o_sign, .int o_sum, .int o_known])), (a_tongue, .inr (7, [w_tongue_values, .ref a_tongue_left, .int tongue_choices, .int tongue_worlds])), (a_tongue_left, .inl (cI, 30, .inl f_tongue_left))] [(a_o, .inr (3, [.ref a_tongue, w_o_tried, .int o_sign, .int o_sum, .int o_known])), (a_tongue, .inr (7, [w_tongue_values, .ref a_tongue_left, .int tongue_choices, .int tongue_worlds])), (a_tongue_left, .inl (cI, 30, .inl f_tongue_left))] z := by
  refine KI_of (own := RX3) (cc := cX3_allBut) (maxL := 2) (ret := some .int) (by decide) rfl rfl (Nat.le_of_ble_eq_true rfl) (Or.inl rfl) ?_
  intro p e s m args below meth c A Q hx hb hml hown hts hA hZ hK hret H locs ls hP hD hS hl
  have hl : lv_has ls 2 [(0, .ref a_o), (1, .int p1)] := hl
  have hF : CallFix p m c cX3_allBut 2 s args wsX3_allBut RX3 := ⟨hx, hb, hml, hown, hts⟩
  have u_X3 : ∀ w ∈ u_ws RX3 TX3 5, w ∈ wsX3_allBut := by decide +kernel
  have k_f0 := hts (.fieldLink RX3 20 "NoWordNo$Refusals" "tongue" "LNoWordNo$Tongue;") (by decide +kernel)
  unfold P_X3_allBut at h
  refine lv_aload_n hx hb dX3_allBut_0 rfl (lv_at hl 0 rfl) ?_
  refine va_get (D := D) (ci := 3) (v := .ref a_tongue) (C := RX3) (T := TX3) (N := 5) hx hb hts u_X3 hown hK hP 0 rfl rfl 0 (by decide) k_f0 (fun _ h9 => h9) rfl dX3_allBut_1 ?_
  refine lv_aload_n hx hb dX3_allBut_4 rfl (lv_at hl 0 rfl) ?_
  refine va_get (D := D) (ci := 3) (v := .ref a_tongue) (C := RX3) (T := TX3) (N := 5) hx hb hts u_X3 hown hK hP 0 rfl rfl 0 (by decide) k_f0 (fun _ h9 => h9) rfl dX3_allBut_5 ?_
  refine lv_iload_n hx hb dX3_allBut_8 rfl (lv_at hl 1 rfl) ?_
  refine lv_bipush (v := 10) hx hb dX3_allBut_9 bc_10 ?_
  refine lv_idiv hx hb dX3_allBut_11 (by decide) ?_
  refine lv_iload_n hx hb dX3_allBut_12 rfl (lv_at hl 1 rfl) ?_
  refine lv_bipush (v := 10) hx hb dX3_allBut_13 bc_10 ?_
  refine lv_irem hx hb dX3_allBut_15 (by decide) ?_
  obtain ⟨z_16, hc_16, h⟩ := bd_e h
  refine q_iV (As := [.int (p1 / 10), .int (p1 - p1 / 10 * 10)]) (rest := [.ref a_tongue]) (wF := [(a_o, .inr (3, [.ref a_tongue, w_o_tried, .int o_sign, .int o_sum, .int o_known])), (a_tongue, .inr (7, [w_tongue_values, .ref a_tongue_left, .int tongue_choices, .int tongue_worlds])), (a_tongue_left, .inl (cI, 30, .inl f_tongue_left))]) hF hA hZ hK hP hD hS (c_X8_leftBy l D cI cB cZ a_tongue w_tongue_values tongue_choices tongue_worlds a_tongue_left f_tongue_left (p1 / 10) (p1 - p1 / 10 * 10) z_16 hc_16) rfl gX3_allBut_X8_leftBy hdX8_leftBy ⟨rfl, rfl⟩ (Nat.le_of_ble_eq_true rfl) (Nat.le_of_ble_eq_true rfl) 7 0 rfl rfl [1, 2] [0] rfl rfl rfl rfl (by decide) rfl hl.1 rfl (Nat.le_of_ble_eq_true rfl) (Nat.zero_le _) (Nat.zero_le _) dX3_allBut_16 (fun H locs hP hD hS => ?_)
  obtain ⟨z_19, hc_19, h⟩ := bd_e h
  refine q_iV (As := [.int z_16]) (rest := []) (wF := [(a_o, .inr (3, [.ref a_tongue, w_o_tried, .int o_sign, .int o_sum, .int o_known])), (a_tongue_left, .inl (cI, 30, .inl f_tongue_left)), (a_tongue, .inr (7, [w_tongue_values, .ref a_tongue_left, .int tongue_choices, .int tongue_worlds]))]) hF hA hZ hK hP hD hS (c_X8_others l D cI cB cZ a_tongue w_tongue_values (.ref a_tongue_left) tongue_choices tongue_worlds z_16 z_19 hc_19) rfl gX3_allBut_X8_others hdX8_others ⟨rfl, rfl⟩ (Nat.le_of_ble_eq_true rfl) (Nat.le_of_ble_eq_true rfl) 7 0 rfl rfl [1] [0, 2] rfl rfl rfl rfl (by decide) rfl hl.1 rfl (Nat.le_of_ble_eq_true rfl) (Nat.zero_le _) (Nat.zero_le _) dX3_allBut_19 (fun H locs hP hD hS => ?_)
  have hz := Option.some.inj h
  subst hz
  exact hret H locs 22 ls (fun ty h => by cases h; rfl) (hP.sub [0, 2, 1] rfl) (hD.sub [0, 2, 1] (by decide) rfl) hS dX3_allBut_22
abbrev rmX3_lengthFor : Room := { frames := 3, cells := 0, slots := 0, locals := 64 }
theorem hdX3_lengthFor : yX3_lengthFor.cls = RX3 ∧ yX3_lengthFor.cls ≠ "java/lang/invoke/MethodHandle" ∧ yX3_lengthFor.cls ≠ "java/lang/invoke/VarHandle" ∧ (parseMethodDescriptor yX3_lengthFor.desc).map (fun d => d.parameters.length) = some 2 := by decide +kernel
set_option maxRecDepth 100000 in
set_option maxHeartbeats 4000000 in
theorem c_X3_lengthFor (l : Launch) (D : va_G) (cI cB cZ : ClassId) (a_o : Nat) (w_o_tried : Value) (o_sign : Int32) (o_sum : Int32) (o_known : Int32) (a_tongue : Nat) (w_tongue_values : Value) (tongue_choices : Int32) (tongue_worlds : Int32) (a_tongue_left : Nat) (f_tongue_left : Nat → Int32) (a_p2 : Nat) (w_p2_signs : Value) (w_p2_order : Value) (w_p2_start : Value) (p2_found : Int32) (a_p2_length : Nat) (f_p2_length : Nat → Int32) (p1 : Int32) (z : Int32) (h : P_X3_lengthFor p1 tongue_worlds f_tongue_left f_p2_length = some z) : KI l yX3_lengthFor wsX3_lengthFor rmX3_lengthFor D [(cI, .int), (cB, .byte), (cZ, .boolean)] [.ref a_o, .int p1, .ref a_p2] [(a_o, .inr (3, [.ref a_tongue, w_o_tried, .int o_sign, .int o_sum, .int o_known])), (a_tongue, .inr (7, [w_tongue_values, .ref a_tongue_left, .int tongue_choices, .int tongue_worlds])), (a_tongue_left, .inl (cI, 30, .inl f_tongue_left)), (a_p2, .inr (1, [w_p2_signs, .ref a_p2_length, w_p2_order, w_p2_start, .int p2_found])), (a_p2_length, .inl (cI, 512, .inl f_p2_length))] [(a_o, .inr (3, [.ref a_tongue, w_o_tried, .int o_sign, .int o_sum, .int o_known])), (a_tongue, .inr (7, [w_tongue_values, .ref a_tongue_left, .int tongue_choices, .int tongue_worlds])), (a_tongue_left, .inl (cI, 30, .inl f_tongue_left)), (a_p2, .inr (1, [w_p2_signs, .ref a_p2_length, w_p2_order, w_p2_start, .int p2_found])), (a_p2_length, .inl (cI, 512, .inl f_p2_length))] z := by
  refine KI_of (own := RX3) (cc := cX3_lengthFor) (maxL := 3) (ret := some .int) (by decide) rfl rfl (Nat.le_of_ble_eq_true rfl) (Or.inl rfl) ?_
  intro p e s m args below meth c A Q hx hb hml hown hts hA hZ hK hret H locs ls hP hD hS hl
  have hl : lv_has ls 3 [(0, .ref a_o), (1, .int p1), (2, .ref a_p2)] := hl
  have hF : CallFix p m c cX3_lengthFor 3 s args wsX3_lengthFor RX3 := ⟨hx, hb, hml, hown, hts⟩
  unfold P_X3_lengthFor at h
  refine lv_aload_n hx hb dX3_lengthFor_0 rfl (lv_at hl 2 rfl) ?_
  refine lv_aload_n hx hb dX3_lengthFor_1 rfl (lv_at hl 0 rfl) ?_
  refine lv_iload_n hx hb dX3_lengthFor_2 rfl (lv_at hl 1 rfl) ?_
  obtain ⟨z_3, hc_3, h⟩ := bd_e h
  refine q_iV (As := [.int p1]) (rest := [.ref a_p2]) (wF := [(a_p2, .inr (1, [w_p2_signs, .ref a_p2_length, w_p2_order, w_p2_start, .int p2_found])), (a_p2_length, .inl (cI, 512, .inl f_p2_length)), (a_o, .inr (3, [.ref a_tongue, w_o_tried, .int o_sign, .int o_sum, .int o_known])), (a_tongue, .inr (7, [w_tongue_values, .ref a_tongue_left, .int tongue_choices, .int tongue_worlds])), (a_tongue_left, .inl (cI, 30, .inl f_tongue_left))]) hF hA hZ hK hP hD hS (c_X3_allBut l D cI cB cZ a_o w_o_tried o_sign o_sum o_known a_tongue w_tongue_values tongue_choices tongue_worlds a_tongue_left f_tongue_left p1 z_3 hc_3) rfl gX3_lengthFor_X3_allBut hdX3_allBut ⟨rfl, rfl⟩ (Nat.le_of_ble_eq_true rfl) (Nat.le_of_ble_eq_true rfl) 3 0 rfl rfl [0, 1, 2] [3, 4] rfl rfl rfl rfl (by decide) rfl hl.1 rfl (Nat.le_of_ble_eq_true rfl) (Nat.zero_le _) (Nat.zero_le _) dX3_lengthFor_3 (fun H locs hP hD hS => ?_)
  obtain ⟨z_6, hc_6, h⟩ := bd_e h
  refine q_iV (As := [.int z_3]) (rest := []) (wF := [(a_o, .inr (3, [.ref a_tongue, w_o_tried, .int o_sign, .int o_sum, .int o_known])), (a_tongue, .inr (7, [w_tongue_values, .ref a_tongue_left, .int tongue_choices, .int tongue_worlds])), (a_tongue_left, .inl (cI, 30, .inl f_tongue_left)), (a_p2, .inr (1, [w_p2_signs, .ref a_p2_length, w_p2_order, w_p2_start, .int p2_found])), (a_p2_length, .inl (cI, 512, .inl f_p2_length))]) hF hA hZ hK hP hD hS (c_X1_of l D cI cB cZ a_p2 w_p2_signs w_p2_order w_p2_start p2_found a_p2_length f_p2_length z_3 z_6 hc_6) rfl gX3_lengthFor_X1_of hdX1_of ⟨rfl, rfl⟩ (Nat.le_of_ble_eq_true rfl) (Nat.le_of_ble_eq_true rfl) 1 0 rfl rfl [0, 1] [2, 3, 4] rfl rfl rfl rfl (by decide) rfl hl.1 rfl (Nat.le_of_ble_eq_true rfl) (Nat.zero_le _) (Nat.zero_le _) dX3_lengthFor_6 (fun H locs hP hD hS => ?_)
  have hz := Option.some.inj h
  subst hz
  exact hret H locs 9 ls (fun ty h => by cases h; rfl) hP hD hS dX3_lengthFor_9
abbrev rmX3_longestSign : Room := { frames := 4, cells := 0, slots := 0, locals := 86 }
theorem hdX3_longestSign : yX3_longestSign.cls = RX3 ∧ yX3_longestSign.cls ≠ "java/lang/invoke/MethodHandle" ∧ yX3_longestSign.cls ≠ "java/lang/invoke/VarHandle" ∧ (parseMethodDescriptor yX3_longestSign.desc).map (fun d => d.parameters.length) = some 1 := by decide +kernel
set_option maxRecDepth 100000 in
set_option maxHeartbeats 4000000 in
theorem c_X3_longestSign (l : Launch) (D : va_G) (cI cB cZ : ClassId) (a_o : Nat) (w_o_tried : Value) (o_sign : Int32) (o_sum : Int32) (o_known : Int32) (a_tongue : Nat) (tongue_choices : Int32) (tongue_worlds : Int32) (a_tongue_values : Nat) (f_tongue_values : Nat → Int32) (a_tongue_left : Nat) (f_tongue_left : Nat → Int32) (a_p1 : Nat) (w_p1_signs : Value) (w_p1_order : Value) (w_p1_start : Value) (p1_found : Int32) (a_p1_length : Nat) (f_p1_length : Nat → Int32) (z : Int32) (h : P_X3_longestSign tongue_choices tongue_worlds f_tongue_values f_tongue_left f_p1_length = some z) : KI l yX3_longestSign wsX3_longestSign rmX3_longestSign D [(cI, .int), (cB, .byte), (cZ, .boolean)] [.ref a_o, .ref a_p1] [(a_o, .inr (3, [.ref a_tongue, w_o_tried, .int o_sign, .int o_sum, .int o_known])), (a_tongue, .inr (7, [.ref a_tongue_values, .ref a_tongue_left, .int tongue_choices, .int tongue_worlds])), (a_tongue_values, .inl (cI, 3, .inl f_tongue_values)), (a_tongue_left, .inl (cI, 30, .inl f_tongue_left)), (a_p1, .inr (1, [w_p1_signs, .ref a_p1_length, w_p1_order, w_p1_start, .int p1_found])), (a_p1_length, .inl (cI, 512, .inl f_p1_length))] [(a_o, .inr (3, [.ref a_tongue, w_o_tried, .int o_sign, .int o_sum, .int o_known])), (a_tongue, .inr (7, [.ref a_tongue_values, .ref a_tongue_left, .int tongue_choices, .int tongue_worlds])), (a_tongue_values, .inl (cI, 3, .inl f_tongue_values)), (a_tongue_left, .inl (cI, 30, .inl f_tongue_left)), (a_p1, .inr (1, [w_p1_signs, .ref a_p1_length, w_p1_order, w_p1_start, .int p1_found])), (a_p1_length, .inl (cI, 512, .inl f_p1_length))] z := by
  refine KI_of (own := RX3) (cc := cX3_longestSign) (maxL := 4) (ret := some .int) (by decide) rfl rfl (Nat.le_of_ble_eq_true rfl) (Or.inl rfl) ?_
  intro p e s m args below meth c A Q hx hb hml hown hts hA hZ hK hret H locs ls hP hD hS hl
  have hl : lv_has ls 4 [(0, .ref a_o), (1, .ref a_p1)] := hl
  have hF : CallFix p m c cX3_longestSign 4 s args wsX3_longestSign RX3 := ⟨hx, hb, hml, hown, hts⟩
  have u_X3 : ∀ w ∈ u_ws RX3 TX3 5, w ∈ wsX3_longestSign := by decide +kernel
  have k_f0 := hts (.fieldLink RX3 20 "NoWordNo$Refusals" "tongue" "LNoWordNo$Tongue;") (by decide +kernel)
  unfold P_X3_longestSign at h
  refine lv_iconst (v := 0) hx hb dX3_longestSign_0 ic_0 ?_
  refine lv_istore_n (lv' := [(2, .int 0), (0, .ref a_o), (1, .ref a_p1)]) hx hb dX3_longestSign_1 rfl hl (by decide) rfl (fun ls hl => ?_)
  refine lv_iconst (v := 0) hx hb dX3_longestSign_2 ic_0 ?_
  refine lv_istore_n (lv' := [(3, .int 0), (2, .int 0), (0, .ref a_o), (1, .ref a_p1)]) hx hb dX3_longestSign_3 rfl hl (by decide) rfl (fun ls hl => ?_)
  have L4 : ∀ (n : Nat), ∀ (x4_l2 : Int32) (x4_l3 : Int32) (H : Heap) (locs : List Loc) (ls : Array Slot), P_X3_longestSign_4 tongue_choices tongue_worlds f_tongue_values f_tongue_left f_p1_length n x4_l2 x4_l3 = some z → va_P D vwCl [(a_o, .inr (3, [.ref a_tongue, w_o_tried, .int o_sign, .int o_sum, .int o_known])), (a_tongue, .inr (7, [.ref a_tongue_values, .ref a_tongue_left, .int tongue_choices, .int tongue_worlds])), (a_tongue_values, .inl (cI, 3, .inl f_tongue_values)), (a_tongue_left, .inl (cI, 30, .inl f_tongue_left)), (a_p1, .inr (1, [w_p1_signs, .ref a_p1_length, w_p1_order, w_p1_start, .int p1_found])), (a_p1_length, .inl (cI, 512, .inl f_p1_length))] H → va_D A [(a_o, .inr (3, [.ref a_tongue, w_o_tried, .int o_sign, .int o_sum, .int o_known])), (a_tongue, .inr (7, [.ref a_tongue_values, .ref a_tongue_left, .int tongue_choices, .int tongue_worlds])), (a_tongue_values, .inl (cI, 3, .inl f_tongue_values)), (a_tongue_left, .inl (cI, 30, .inl f_tongue_left)), (a_p1, .inr (1, [w_p1_signs, .ref a_p1_length, w_p1_order, w_p1_start, .int p1_found])), (a_p1_length, .inl (cI, 512, .inl f_p1_length))] → va_S A s.heap H locs → lv_has ls 4 [(0, .ref a_o), (1, .ref a_p1), (2, .int x4_l2), (3, .int x4_l3)] → W p l e rmX3_longestSign s m args below meth c H locs 0 0 Q (F0 m 4 ls []) := by
    intro n
    induction n with
    | zero =>
      intro x4_l2 x4_l3 H locs ls h
      exact no_e h
    | succ n ih4 =>
      intro x4_l2 x4_l3 H locs ls h hP hD hS hl
      rw [P_X3_longestSign_4] at h
      refine lv_iload_n hx hb dX3_longestSign_4 rfl (lv_at hl 3 rfl) ?_
      refine lv_bipush (v := 10) hx hb dX3_longestSign_5 bc_10 ?_
      refine lv_aload_n hx hb dX3_longestSign_7 rfl (lv_at hl 0 rfl) ?_
      refine va_get (D := D) (ci := 3) (v := .ref a_tongue) (C := RX3) (T := TX3) (N := 5) hx hb hts u_X3 hown hK hP 0 rfl rfl 0 (by decide) k_f0 (fun _ h9 => h9) rfl dX3_longestSign_8 ?_
      obtain ⟨z_11, hc_11, h⟩ := bd_e h
      refine q_iV (As := []) (rest := [.int 10, .int x4_l3]) (wF := [(a_o, .inr (3, [.ref a_tongue, w_o_tried, .int o_sign, .int o_sum, .int o_known])), (a_tongue_values, .inl (cI, 3, .inl f_tongue_values)), (a_tongue_left, .inl (cI, 30, .inl f_tongue_left)), (a_p1, .inr (1, [w_p1_signs, .ref a_p1_length, w_p1_order, w_p1_start, .int p1_found])), (a_p1_length, .inl (cI, 512, .inl f_p1_length)), (a_tongue, .inr (7, [.ref a_tongue_values, .ref a_tongue_left, .int tongue_choices, .int tongue_worlds]))]) hF hA hZ hK hP hD hS (c_X8_choices l D cI cB cZ a_tongue (.ref a_tongue_values) (.ref a_tongue_left) tongue_choices tongue_worlds z_11 hc_11) rfl gX3_longestSign_X8_choices hdX8_choices ⟨rfl, rfl⟩ (Nat.le_of_ble_eq_true rfl) (Nat.le_of_ble_eq_true rfl) 7 0 rfl rfl [1] [0, 2, 3, 4, 5] rfl rfl rfl rfl (by decide) rfl hl.1 rfl (Nat.le_of_ble_eq_true rfl) (Nat.zero_le _) (Nat.zero_le _) dX3_longestSign_11 (fun H locs hP hD hS => ?_)
      refine lv_imul hx hb dX3_longestSign_14 ?_
      refine lv_icmp_ge (tgt := 49) hx hb dX3_longestSign_15 (by decide) (fun c_15 => ?_) (fun c_15 => ?_)
      · replace h := it_e c_15 h
        refine lv_iload_n hx hb dX3_longestSign_49 rfl (lv_at hl 2 rfl) ?_
        have hz := Option.some.inj h
        subst hz
        exact hret H locs 50 ls (fun ty h => by cases h; rfl) (hP.sub [0, 5, 1, 2, 3, 4] rfl) (hD.sub [0, 5, 1, 2, 3, 4] (by decide) rfl) hS dX3_longestSign_50
      · replace h := if_e c_15 h
        refine lv_aload_n hx hb dX3_longestSign_18 rfl (lv_at hl 0 rfl) ?_
        refine lv_iload_n hx hb dX3_longestSign_19 rfl (lv_at hl 3 rfl) ?_
        obtain ⟨z_20, hc_20, h⟩ := bd_e h
        refine q_iV (As := [.int x4_l3]) (rest := []) (wF := [(a_tongue_left, .inl (cI, 30, .inl f_tongue_left)), (a_p1, .inr (1, [w_p1_signs, .ref a_p1_length, w_p1_order, w_p1_start, .int p1_found])), (a_p1_length, .inl (cI, 512, .inl f_p1_length)), (a_o, .inr (3, [.ref a_tongue, w_o_tried, .int o_sign, .int o_sum, .int o_known])), (a_tongue, .inr (7, [.ref a_tongue_values, .ref a_tongue_left, .int tongue_choices, .int tongue_worlds])), (a_tongue_values, .inl (cI, 3, .inl f_tongue_values))]) hF hA hZ hK hP hD hS (c_X3_isSign l D cI cB cZ a_o w_o_tried o_sign o_sum o_known a_tongue (.ref a_tongue_left) tongue_choices tongue_worlds a_tongue_values f_tongue_values x4_l3 z_20 hc_20) rfl gX3_longestSign_X3_isSign hdX3_isSign ⟨rfl, rfl⟩ (Nat.le_of_ble_eq_true rfl) (Nat.le_of_ble_eq_true rfl) 3 0 rfl rfl [0, 5, 1] [2, 3, 4] rfl rfl rfl rfl (by decide) rfl hl.1 rfl (Nat.le_of_ble_eq_true rfl) (Nat.zero_le _) (Nat.zero_le _) dX3_longestSign_20 (fun H locs hP hD hS => ?_)
        obtain ⟨j43, hj43, h⟩ := jn_e h
        have Jj43 : ∀ (x43_l2 : Int32) (H : Heap) (locs : List Loc) (ls : Array Slot), j43 x43_l2 = some z → va_P D vwCl [(a_tongue_left, .inl (cI, 30, .inl f_tongue_left)), (a_p1, .inr (1, [w_p1_signs, .ref a_p1_length, w_p1_order, w_p1_start, .int p1_found])), (a_p1_length, .inl (cI, 512, .inl f_p1_length)), (a_o, .inr (3, [.ref a_tongue, w_o_tried, .int o_sign, .int o_sum, .int o_known])), (a_tongue, .inr (7, [.ref a_tongue_values, .ref a_tongue_left, .int tongue_choices, .int tongue_worlds])), (a_tongue_values, .inl (cI, 3, .inl f_tongue_values))] H → va_D A [(a_tongue_left, .inl (cI, 30, .inl f_tongue_left)), (a_p1, .inr (1, [w_p1_signs, .ref a_p1_length, w_p1_order, w_p1_start, .int p1_found])), (a_p1_length, .inl (cI, 512, .inl f_p1_length)), (a_o, .inr (3, [.ref a_tongue, w_o_tried, .int o_sign, .int o_sum, .int o_known])), (a_tongue, .inr (7, [.ref a_tongue_values, .ref a_tongue_left, .int tongue_choices, .int tongue_worlds])), (a_tongue_values, .inl (cI, 3, .inl f_tongue_values))] → va_S A s.heap H locs → lv_has ls 4 [(0, .ref a_o), (1, .ref a_p1), (2, .int x43_l2), (3, .int x4_l3)] → W p l e rmX3_longestSign s m args below meth c H locs 0 0 Q (F0 m 43 ls []) := by
          intro x43_l2 H locs ls h hP hD hS hl
          rw [hj43] at h
          refine lv_iinc (v := x4_l3 + 1) (lv' := [(3, .int (x4_l3 + 1)), (0, .ref a_o), (1, .ref a_p1), (2, .int x43_l2)]) hx hb dX3_longestSign_43 hl (k := 3) rfl (congrArg (x4_l3 + ·) ic_1) (by decide) rfl (fun ls hl => ?_)
          refine lv_goto (tgt := 4) hx hb dX3_longestSign_46 (by decide) ?_
          exact ih4 x43_l2 (x4_l3 + 1) H locs ls h (hP.sub [3, 4, 5, 0, 1, 2] rfl) (hD.sub [3, 4, 5, 0, 1, 2] (by decide) rfl) hS (lv_sub hl [1, 2, 3, 0] rfl)
        refine lv_if_eq (tgt := 43) hx hb dX3_longestSign_23 (by decide) (fun c_23 => ?_) (fun c_23 => ?_)
        · replace h := it_e c_23 h
          exact Jj43 x4_l2 H locs ls h hP hD hS hl
        · replace h := if_e c_23 h
          refine lv_aload_n hx hb dX3_longestSign_26 rfl (lv_at hl 0 rfl) ?_
          refine lv_iload_n hx hb dX3_longestSign_27 rfl (lv_at hl 3 rfl) ?_
          refine lv_aload_n hx hb dX3_longestSign_28 rfl (lv_at hl 1 rfl) ?_
          obtain ⟨z_29, hc_29, h⟩ := bd_e h
          refine q_iV (As := [.int x4_l3, .ref a_p1]) (rest := []) (wF := [(a_tongue_values, .inl (cI, 3, .inl f_tongue_values)), (a_o, .inr (3, [.ref a_tongue, w_o_tried, .int o_sign, .int o_sum, .int o_known])), (a_tongue, .inr (7, [.ref a_tongue_values, .ref a_tongue_left, .int tongue_choices, .int tongue_worlds])), (a_tongue_left, .inl (cI, 30, .inl f_tongue_left)), (a_p1, .inr (1, [w_p1_signs, .ref a_p1_length, w_p1_order, w_p1_start, .int p1_found])), (a_p1_length, .inl (cI, 512, .inl f_p1_length))]) hF hA hZ hK hP hD hS (c_X3_lengthFor l D cI cB cZ a_o w_o_tried o_sign o_sum o_known a_tongue (.ref a_tongue_values) tongue_choices tongue_worlds a_tongue_left f_tongue_left a_p1 w_p1_signs w_p1_order w_p1_start p1_found a_p1_length f_p1_length x4_l3 z_29 hc_29) rfl gX3_longestSign_X3_lengthFor hdX3_lengthFor ⟨rfl, rfl⟩ (Nat.le_of_ble_eq_true rfl) (Nat.le_of_ble_eq_true rfl) 3 0 rfl rfl [3, 4, 0, 1, 2] [5] rfl rfl rfl rfl (by decide) rfl hl.1 rfl (Nat.le_of_ble_eq_true rfl) (Nat.zero_le _) (Nat.zero_le _) dX3_longestSign_29 (fun H locs hP hD hS => ?_)
          refine lv_aload_n hx hb dX3_longestSign_32 rfl (lv_at hl 0 rfl) ?_
          refine lv_iload_n hx hb dX3_longestSign_33 rfl (lv_at hl 2 rfl) ?_
          refine lv_aload_n hx hb dX3_longestSign_34 rfl (lv_at hl 1 rfl) ?_
          obtain ⟨z_35, hc_35, h⟩ := bd_e h
          refine q_iV (As := [.int x4_l2, .ref a_p1]) (rest := [.int z_29]) (wF := [(a_tongue_values, .inl (cI, 3, .inl f_tongue_values)), (a_o, .inr (3, [.ref a_tongue, w_o_tried, .int o_sign, .int o_sum, .int o_known])), (a_tongue, .inr (7, [.ref a_tongue_values, .ref a_tongue_left, .int tongue_choices, .int tongue_worlds])), (a_tongue_left, .inl (cI, 30, .inl f_tongue_left)), (a_p1, .inr (1, [w_p1_signs, .ref a_p1_length, w_p1_order, w_p1_start, .int p1_found])), (a_p1_length, .inl (cI, 512, .inl f_p1_length))]) hF hA hZ hK hP hD hS (c_X3_lengthFor l D cI cB cZ a_o w_o_tried o_sign o_sum o_known a_tongue (.ref a_tongue_values) tongue_choices tongue_worlds a_tongue_left f_tongue_left a_p1 w_p1_signs w_p1_order w_p1_start p1_found a_p1_length f_p1_length x4_l2 z_35 hc_35) rfl gX3_longestSign_X3_lengthFor hdX3_lengthFor ⟨rfl, rfl⟩ (Nat.le_of_ble_eq_true rfl) (Nat.le_of_ble_eq_true rfl) 3 0 rfl rfl [1, 2, 3, 4, 5] [0] rfl rfl rfl rfl (by decide) rfl hl.1 rfl (Nat.le_of_ble_eq_true rfl) (Nat.zero_le _) (Nat.zero_le _) dX3_longestSign_35 (fun H locs hP hD hS => ?_)
          refine lv_icmp_le (tgt := 43) hx hb dX3_longestSign_38 (by decide) (fun c_38 => ?_) (fun c_38 => ?_)
          · replace h := it_e c_38 h
            exact Jj43 x4_l2 H locs ls h (hP.sub [3, 4, 5, 1, 2, 0] rfl) (hD.sub [3, 4, 5, 1, 2, 0] (by decide) rfl) hS hl
          · replace h := if_e c_38 h
            refine lv_iload_n hx hb dX3_longestSign_41 rfl (lv_at hl 3 rfl) ?_
            refine lv_istore_n (lv' := [(2, .int x4_l3), (0, .ref a_o), (1, .ref a_p1), (3, .int x4_l3)]) hx hb dX3_longestSign_42 rfl hl (by decide) rfl (fun ls hl => ?_)
            exact Jj43 x4_l3 H locs ls h (hP.sub [3, 4, 5, 1, 2, 0] rfl) (hD.sub [3, 4, 5, 1, 2, 0] (by decide) rfl) hS (lv_sub hl [1, 2, 0, 3] rfl)
  exact L4 QF 0 0 H locs ls h hP hD hS (lv_sub hl [2, 3, 1, 0] rfl)
