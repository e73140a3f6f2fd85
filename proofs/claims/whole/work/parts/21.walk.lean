abbrev rmX11_lostBy : Room := { frames := 2, cells := 0, slots := 0, locals := 43 }
theorem hdX11_lostBy : yX11_lostBy.cls = RX11 ∧ yX11_lostBy.cls ≠ "java/lang/invoke/MethodHandle" ∧ yX11_lostBy.cls ≠ "java/lang/invoke/VarHandle" ∧ (parseMethodDescriptor yX11_lostBy.desc).map (fun d => d.parameters.length) = some 1 := by decide +kernel
set_option maxRecDepth 100000 in
set_option maxHeartbeats 4000000 in
theorem c_X11_lostBy (l : Launch) (D : va_G) (cI cB cZ : ClassId) (a_o : Nat) (o_trace : Int64) (w_o_text : Value) (o_typed : Int32) (o_choices : Int32) (o_worlds : Int32) (w_o_values : Value) (o_at : Int32) (o_start : Int32) (o_sort : Int32) (o_value : Int32) (o_fault : Int32) (w_o_draft : Value) (w_o_signs : Value) (w_o_words : Value) (w_o_word : Value) (w_o_isKept : Value) (w_o_some : Value) (w_o_every : Value) (o_deep : Int32) (o_many : Int32) (w_o_length : Value) (w_o_found : Value) (o_foundMany : Int32) (a_sayings : Nat) (f_sayings : Nat → Int32) (a_leaves : Nat) (f_leaves : Nat → Int32) (p1 : Int32) (z : Int32) (h : P_X11_lostBy p1 o_worlds f_sayings f_leaves = some z) : KI l yX11_lostBy wsX11_lostBy rmX11_lostBy D [(cI, .int), (cB, .byte), (cZ, .boolean)] [.ref a_o, .int p1] [(a_o, .inr (10, [.long o_trace, w_o_text, .int o_typed, .int o_choices, .int o_worlds, w_o_values, .int o_at, .int o_start, .int o_sort, .int o_value, .int o_fault, w_o_draft, .ref a_sayings, .ref a_leaves, w_o_signs, w_o_words, w_o_word, w_o_isKept, w_o_some, w_o_every, .int o_deep, .int o_many, w_o_length, w_o_found, .int o_foundMany])), (a_sayings, .inl (cI, 3, .inl f_sayings)), (a_leaves, .inl (cI, 24, .inl f_leaves))] [(a_o, .inr (10, [.long o_trace, w_o_text, .int o_typed, .int o_choices, .int o_worlds, w_o_values, .int o_at, .int o_start, .int o_sort, .int o_value, .int o_fault, w_o_draft, .ref a_sayings, .ref a_leaves, w_o_signs, w_o_words, w_o_word, w_o_isKept, w_o_some, w_o_every, .int o_deep, .int o_many, w_o_length, w_o_found, .int o_foundMany])), (a_sayings, .inl (cI, 3, .inl f_sayings)), (a_leaves, .inl (cI, 24, .inl f_leaves))] z := by
  refine KI_of (own := RX11) (cc := cX11_lostBy) (maxL := 2) (ret := some .int) (by decide) rfl rfl (Nat.le_of_ble_eq_true rfl) (Or.inl rfl) ?_
  intro p e s m args below meth c A Q hx hb hml hown hts hA hZ hK hret H locs ls hP hD hS hl
  have hl : lv_has ls 2 [(0, .ref a_o), (1, .int p1)] := hl
  have hF : CallFix p m c cX11_lostBy 2 s args wsX11_lostBy RX11 := ⟨hx, hb, hml, hown, hts⟩
  unfold P_X11_lostBy at h
  refine lv_aload_n hx hb dX11_lostBy_0 rfl (lv_at hl 0 rfl) ?_
  refine lv_iload_n hx hb dX11_lostBy_1 rfl (lv_at hl 1 rfl) ?_
  obtain ⟨z_2, hc_2, h⟩ := bd_e h
  refine q_iV (As := [.int p1]) (rest := []) (wF := [(a_o, .inr (10, [.long o_trace, w_o_text, .int o_typed, .int o_choices, .int o_worlds, w_o_values, .int o_at, .int o_start, .int o_sort, .int o_value, .int o_fault, w_o_draft, .ref a_sayings, .ref a_leaves, w_o_signs, w_o_words, w_o_word, w_o_isKept, w_o_some, w_o_every, .int o_deep, .int o_many, w_o_length, w_o_found, .int o_foundMany])), (a_sayings, .inl (cI, 3, .inl f_sayings)), (a_leaves, .inl (cI, 24, .inl f_leaves))]) hF hA hZ hK hP hD hS (c_X11_contractBut l D cI cB cZ a_o o_trace w_o_text o_typed o_choices o_worlds w_o_values o_at o_start o_sort o_value o_fault w_o_draft w_o_signs w_o_words w_o_word w_o_isKept w_o_some w_o_every o_deep o_many w_o_length w_o_found o_foundMany a_sayings f_sayings a_leaves f_leaves p1 z_2 hc_2) rfl gX11_lostBy_X11_contractBut hdX11_contractBut ⟨rfl, rfl⟩ (Nat.le_of_ble_eq_true rfl) (Nat.le_of_ble_eq_true rfl) 10 0 rfl rfl [0, 1, 2] [] rfl rfl rfl rfl (by decide) rfl hl.1 rfl (Nat.le_of_ble_eq_true rfl) (Nat.zero_le _) (Nat.zero_le _) dX11_lostBy_2 (fun H locs hP hD hS => ?_)
  obtain ⟨z_5, hc_5, h⟩ := bd_e h
  refine q_iS (As := [.int z_2]) (rest := []) (wF := [(a_o, .inr (10, [.long o_trace, w_o_text, .int o_typed, .int o_choices, .int o_worlds, w_o_values, .int o_at, .int o_start, .int o_sort, .int o_value, .int o_fault, w_o_draft, .ref a_sayings, .ref a_leaves, w_o_signs, w_o_words, w_o_word, w_o_isKept, w_o_some, w_o_every, .int o_deep, .int o_many, w_o_length, w_o_found, .int o_foundMany])), (a_sayings, .inl (cI, 3, .inl f_sayings)), (a_leaves, .inl (cI, 24, .inl f_leaves))]) hF hA hZ hK hP hD hS (c_X11_bitsIn l D cI cB cZ z_2 z_5 hc_5) rfl gX11_lostBy_X11_bitsIn hdX11_bitsIn ⟨rfl, rfl⟩ (Nat.le_of_ble_eq_true rfl) (Nat.le_of_ble_eq_true rfl) [] [0, 1, 2] rfl rfl rfl rfl (by decide) rfl hl.1 rfl (Nat.le_of_ble_eq_true rfl) (Nat.zero_le _) (Nat.zero_le _) dX11_lostBy_5 (fun H locs hP hD hS => ?_)
  refine lv_aload_n hx hb dX11_lostBy_8 rfl (lv_at hl 0 rfl) ?_
  refine lv_bipush (v := (-9)) hx hb dX11_lostBy_9 bc_m9 ?_
  obtain ⟨z_11, hc_11, h⟩ := bd_e h
  refine q_iV (As := [.int (-9)]) (rest := [.int z_5]) (wF := [(a_o, .inr (10, [.long o_trace, w_o_text, .int o_typed, .int o_choices, .int o_worlds, w_o_values, .int o_at, .int o_start, .int o_sort, .int o_value, .int o_fault, w_o_draft, .ref a_sayings, .ref a_leaves, w_o_signs, w_o_words, w_o_word, w_o_isKept, w_o_some, w_o_every, .int o_deep, .int o_many, w_o_length, w_o_found, .int o_foundMany])), (a_sayings, .inl (cI, 3, .inl f_sayings)), (a_leaves, .inl (cI, 24, .inl f_leaves))]) hF hA hZ hK hP hD hS (c_X11_contractBut l D cI cB cZ a_o o_trace w_o_text o_typed o_choices o_worlds w_o_values o_at o_start o_sort o_value o_fault w_o_draft w_o_signs w_o_words w_o_word w_o_isKept w_o_some w_o_every o_deep o_many w_o_length w_o_found o_foundMany a_sayings f_sayings a_leaves f_leaves (-9) z_11 hc_11) rfl gX11_lostBy_X11_contractBut hdX11_contractBut ⟨rfl, rfl⟩ (Nat.le_of_ble_eq_true rfl) (Nat.le_of_ble_eq_true rfl) 10 0 rfl rfl [0, 1, 2] [] rfl rfl rfl rfl (by decide) rfl hl.1 rfl (Nat.le_of_ble_eq_true rfl) (Nat.zero_le _) (Nat.zero_le _) dX11_lostBy_11 (fun H locs hP hD hS => ?_)
  obtain ⟨z_14, hc_14, h⟩ := bd_e h
  refine q_iS (As := [.int z_11]) (rest := [.int z_5]) (wF := [(a_o, .inr (10, [.long o_trace, w_o_text, .int o_typed, .int o_choices, .int o_worlds, w_o_values, .int o_at, .int o_start, .int o_sort, .int o_value, .int o_fault, w_o_draft, .ref a_sayings, .ref a_leaves, w_o_signs, w_o_words, w_o_word, w_o_isKept, w_o_some, w_o_every, .int o_deep, .int o_many, w_o_length, w_o_found, .int o_foundMany])), (a_sayings, .inl (cI, 3, .inl f_sayings)), (a_leaves, .inl (cI, 24, .inl f_leaves))]) hF hA hZ hK hP hD hS (c_X11_bitsIn l D cI cB cZ z_11 z_14 hc_14) rfl gX11_lostBy_X11_bitsIn hdX11_bitsIn ⟨rfl, rfl⟩ (Nat.le_of_ble_eq_true rfl) (Nat.le_of_ble_eq_true rfl) [] [0, 1, 2] rfl rfl rfl rfl (by decide) rfl hl.1 rfl (Nat.le_of_ble_eq_true rfl) (Nat.zero_le _) (Nat.zero_le _) dX11_lostBy_14 (fun H locs hP hD hS => ?_)
  refine lv_isub hx hb dX11_lostBy_17 ?_
  have hz := Option.some.inj h
  subst hz
  exact hret H locs 18 ls (fun ty h => by cases h; rfl) hP hD hS dX11_lostBy_18
abbrev rmX11_lost : Room := { frames := 3, cells := 0, slots := 0, locals := 64 }
theorem hdX11_lost : yX11_lost.cls = RX11 ∧ yX11_lost.cls ≠ "java/lang/invoke/MethodHandle" ∧ yX11_lost.cls ≠ "java/lang/invoke/VarHandle" ∧ (parseMethodDescriptor yX11_lost.desc).map (fun d => d.parameters.length) = some 1 := by decide +kernel
set_option maxRecDepth 100000 in
set_option maxHeartbeats 4000000 in
theorem c_X11_lost (l : Launch) (D : va_G) (cI cB cZ : ClassId) (a_o : Nat) (o_trace : Int64) (w_o_text : Value) (o_typed : Int32) (o_choices : Int32) (o_worlds : Int32) (w_o_values : Value) (o_at : Int32) (o_start : Int32) (o_sort : Int32) (o_value : Int32) (o_fault : Int32) (w_o_draft : Value) (w_o_signs : Value) (w_o_words : Value) (w_o_word : Value) (w_o_isKept : Value) (w_o_some : Value) (w_o_every : Value) (o_deep : Int32) (o_many : Int32) (w_o_length : Value) (w_o_found : Value) (o_foundMany : Int32) (a_sayings : Nat) (f_sayings : Nat → Int32) (a_leaves : Nat) (f_leaves : Nat → Int32) (p1 : Int32) (z : Int32) (h : P_X11_lost p1 o_worlds f_sayings f_leaves = some z) : KI l yX11_lost wsX11_lost rmX11_lost D [(cI, .int), (cB, .byte), (cZ, .boolean)] [.ref a_o, .int p1] [(a_o, .inr (10, [.long o_trace, w_o_text, .int o_typed, .int o_choices, .int o_worlds, w_o_values, .int o_at, .int o_start, .int o_sort, .int o_value, .int o_fault, w_o_draft, .ref a_sayings, .ref a_leaves, w_o_signs, w_o_words, w_o_word, w_o_isKept, w_o_some, w_o_every, .int o_deep, .int o_many, w_o_length, w_o_found, .int o_foundMany])), (a_sayings, .inl (cI, 3, .inl f_sayings)), (a_leaves, .inl (cI, 24, .inl f_leaves))] [(a_o, .inr (10, [.long o_trace, w_o_text, .int o_typed, .int o_choices, .int o_worlds, w_o_values, .int o_at, .int o_start, .int o_sort, .int o_value, .int o_fault, w_o_draft, .ref a_sayings, .ref a_leaves, w_o_signs, w_o_words, w_o_word, w_o_isKept, w_o_some, w_o_every, .int o_deep, .int o_many, w_o_length, w_o_found, .int o_foundMany])), (a_sayings, .inl (cI, 3, .inl f_sayings)), (a_leaves, .inl (cI, 24, .inl f_leaves))] z := by
  refine KI_of (own := RX11) (cc := cX11_lost) (maxL := 2) (ret := some .int) (by decide) rfl rfl (Nat.le_of_ble_eq_true rfl) (Or.inl rfl) ?_
  intro p e s m args below meth c A Q hx hb hml hown hts hA hZ hK hret H locs ls hP hD hS hl
  have hl : lv_has ls 2 [(0, .ref a_o), (1, .int p1)] := hl
  have hF : CallFix p m c cX11_lost 2 s args wsX11_lost RX11 := ⟨hx, hb, hml, hown, hts⟩
  unfold P_X11_lost at h
  refine lv_aload_n hx hb dX11_lost_0 rfl (lv_at hl 0 rfl) ?_
  refine lv_iload_n hx hb dX11_lost_1 rfl (lv_at hl 1 rfl) ?_
  obtain ⟨z_2, hc_2, h⟩ := bd_e h
  refine q_iV (As := [.int p1]) (rest := []) (wF := [(a_leaves, .inl (cI, 24, .inl f_leaves)), (a_o, .inr (10, [.long o_trace, w_o_text, .int o_typed, .int o_choices, .int o_worlds, w_o_values, .int o_at, .int o_start, .int o_sort, .int o_value, .int o_fault, w_o_draft, .ref a_sayings, .ref a_leaves, w_o_signs, w_o_words, w_o_word, w_o_isKept, w_o_some, w_o_every, .int o_deep, .int o_many, w_o_length, w_o_found, .int o_foundMany])), (a_sayings, .inl (cI, 3, .inl f_sayings))]) hF hA hZ hK hP hD hS (c_X11_isSaying l D cI cB cZ a_o o_trace w_o_text o_typed o_choices o_worlds w_o_values o_at o_start o_sort o_value o_fault w_o_draft (.ref a_leaves) w_o_signs w_o_words w_o_word w_o_isKept w_o_some w_o_every o_deep o_many w_o_length w_o_found o_foundMany a_sayings f_sayings p1 z_2 hc_2) rfl gX11_lost_X11_isSaying hdX11_isSaying ⟨rfl, rfl⟩ (Nat.le_of_ble_eq_true rfl) (Nat.le_of_ble_eq_true rfl) 10 0 rfl rfl [0, 1] [2] rfl rfl rfl rfl (by decide) rfl hl.1 rfl (Nat.le_of_ble_eq_true rfl) (Nat.zero_le _) (Nat.zero_le _) dX11_lost_2 (fun H locs hP hD hS => ?_)
  refine lv_if_eq (tgt := 16) hx hb dX11_lost_5 (by decide) (fun c_5 => ?_) (fun c_5 => ?_)
  · replace h := it_e c_5 h
    refine lv_iconst (v := (-1)) hx hb dX11_lost_16 ic_m1 ?_
    have hz := Option.some.inj h
    subst hz
    exact hret H locs 17 ls (fun ty h => by cases h; rfl) (hP.sub [1, 2, 0] rfl) (hD.sub [1, 2, 0] (by decide) rfl) hS dX11_lost_17
  · replace h := if_e c_5 h
    refine lv_aload_n hx hb dX11_lost_8 rfl (lv_at hl 0 rfl) ?_
    refine lv_iload_n hx hb dX11_lost_9 rfl (lv_at hl 1 rfl) ?_
    obtain ⟨z_10, hc_10, h⟩ := bd_e h
    refine q_iV (As := [.int p1]) (rest := []) (wF := [(a_o, .inr (10, [.long o_trace, w_o_text, .int o_typed, .int o_choices, .int o_worlds, w_o_values, .int o_at, .int o_start, .int o_sort, .int o_value, .int o_fault, w_o_draft, .ref a_sayings, .ref a_leaves, w_o_signs, w_o_words, w_o_word, w_o_isKept, w_o_some, w_o_every, .int o_deep, .int o_many, w_o_length, w_o_found, .int o_foundMany])), (a_sayings, .inl (cI, 3, .inl f_sayings)), (a_leaves, .inl (cI, 24, .inl f_leaves))]) hF hA hZ hK hP hD hS (c_X11_lostBy l D cI cB cZ a_o o_trace w_o_text o_typed o_choices o_worlds w_o_values o_at o_start o_sort o_value o_fault w_o_draft w_o_signs w_o_words w_o_word w_o_isKept w_o_some w_o_every o_deep o_many w_o_length w_o_found o_foundMany a_sayings f_sayings a_leaves f_leaves p1 z_10 hc_10) rfl gX11_lost_X11_lostBy hdX11_lostBy ⟨rfl, rfl⟩ (Nat.le_of_ble_eq_true rfl) (Nat.le_of_ble_eq_true rfl) 10 0 rfl rfl [1, 2, 0] [] rfl rfl rfl rfl (by decide) rfl hl.1 rfl (Nat.le_of_ble_eq_true rfl) (Nat.zero_le _) (Nat.zero_le _) dX11_lost_10 (fun H locs hP hD hS => ?_)
    refine lv_goto (tgt := 17) hx hb dX11_lost_13 (by decide) ?_
    have hz := Option.some.inj h
    subst hz
    exact hret H locs 17 ls (fun ty h => by cases h; rfl) hP hD hS dX11_lost_17
abbrev rmX11_alikeTo : Room := { frames := 1, cells := 0, slots := 0, locals := 24 }
theorem hdX11_alikeTo : yX11_alikeTo.cls = RX11 ∧ yX11_alikeTo.cls ≠ "java/lang/invoke/MethodHandle" ∧ yX11_alikeTo.cls ≠ "java/lang/invoke/VarHandle" ∧ (parseMethodDescriptor yX11_alikeTo.desc).map (fun d => d.parameters.length) = some 3 := by decide +kernel
set_option maxRecDepth 100000 in
set_option maxHeartbeats 4000000 in
theorem c_X11_alikeTo (l : Launch) (D : va_G) (cI cB cZ : ClassId) (a_o : Nat) (o_trace : Int64) (w_o_text : Value) (o_typed : Int32) (o_choices : Int32) (o_worlds : Int32) (o_at : Int32) (o_start : Int32) (o_sort : Int32) (o_value : Int32) (o_fault : Int32) (w_o_draft : Value) (w_o_sayings : Value) (w_o_leaves : Value) (w_o_signs : Value) (w_o_words : Value) (w_o_word : Value) (w_o_isKept : Value) (w_o_some : Value) (w_o_every : Value) (o_deep : Int32) (o_many : Int32) (w_o_length : Value) (w_o_found : Value) (o_foundMany : Int32) (a_values : Nat) (f_values : Nat → Int32) (p1 : Int32) (p2 : Int32) (p3 : Int32) (z : Int32) (h : P_X11_alikeTo p1 p2 p3 o_choices o_worlds f_values = some z) : KI l yX11_alikeTo wsX11_alikeTo rmX11_alikeTo D [(cI, .int), (cB, .byte), (cZ, .boolean)] [.ref a_o, .int p1, .int p2, .int p3] [(a_o, .inr (10, [.long o_trace, w_o_text, .int o_typed, .int o_choices, .int o_worlds, .ref a_values, .int o_at, .int o_start, .int o_sort, .int o_value, .int o_fault, w_o_draft, w_o_sayings, w_o_leaves, w_o_signs, w_o_words, w_o_word, w_o_isKept, w_o_some, w_o_every, .int o_deep, .int o_many, w_o_length, w_o_found, .int o_foundMany])), (a_values, .inl (cI, 3, .inl f_values))] [(a_o, .inr (10, [.long o_trace, w_o_text, .int o_typed, .int o_choices, .int o_worlds, .ref a_values, .int o_at, .int o_start, .int o_sort, .int o_value, .int o_fault, w_o_draft, w_o_sayings, w_o_leaves, w_o_signs, w_o_words, w_o_word, w_o_isKept, w_o_some, w_o_every, .int o_deep, .int o_many, w_o_length, w_o_found, .int o_foundMany])), (a_values, .inl (cI, 3, .inl f_values))] z := by
  refine KI_of (own := RX11) (cc := cX11_alikeTo) (maxL := 8) (ret := some .int) (by decide) rfl rfl (Nat.le_of_ble_eq_true rfl) (Or.inl rfl) ?_
  intro p e s m args below meth c A Q hx hb hml hown hts hA hZ hK hret H locs ls hP hD hS hl
  have hl : lv_has ls 8 [(0, .ref a_o), (1, .int p1), (2, .int p2), (3, .int p3)] := hl
  have hF : CallFix p m c cX11_alikeTo 8 s args wsX11_alikeTo RX11 := ⟨hx, hb, hml, hown, hts⟩
  have u_X11 : ∀ w ∈ u_ws RX11 TX11 25, w ∈ wsX11_alikeTo := by decide +kernel
  have k_f0 := hts (.fieldLink RX11 51 "NoWordNoModel" "worlds" "I") (by decide +kernel)
  have k_f1 := hts (.fieldLink RX11 95 "NoWordNoModel" "choices" "I") (by decide +kernel)
  unfold P_X11_alikeTo at h
  refine lv_iconst (v := 0) hx hb dX11_alikeTo_0 ic_0 ?_
  refine lv_istore (lv' := [(4, .int 0), (0, .ref a_o), (1, .int p1), (2, .int p2), (3, .int p3)]) hx hb dX11_alikeTo_1 hl (by decide) rfl (fun ls hl => ?_)
  refine lv_iconst (v := 0) hx hb dX11_alikeTo_3 ic_0 ?_
  refine lv_istore (lv' := [(5, .int 0), (4, .int 0), (0, .ref a_o), (1, .int p1), (2, .int p2), (3, .int p3)]) hx hb dX11_alikeTo_4 hl (by decide) rfl (fun ls hl => ?_)
  have L6 : ∀ (n : Nat), ∀ (x6_l4 : Int32) (x6_l5 : Int32) (H : Heap) (locs : List Loc) (ls : Array Slot), P_X11_alikeTo_6 p1 p2 p3 o_choices o_worlds f_values n x6_l4 x6_l5 = some z → va_P D vwCl [(a_o, .inr (10, [.long o_trace, w_o_text, .int o_typed, .int o_choices, .int o_worlds, .ref a_values, .int o_at, .int o_start, .int o_sort, .int o_value, .int o_fault, w_o_draft, w_o_sayings, w_o_leaves, w_o_signs, w_o_words, w_o_word, w_o_isKept, w_o_some, w_o_every, .int o_deep, .int o_many, w_o_length, w_o_found, .int o_foundMany])), (a_values, .inl (cI, 3, .inl f_values))] H → va_D A [(a_o, .inr (10, [.long o_trace, w_o_text, .int o_typed, .int o_choices, .int o_worlds, .ref a_values, .int o_at, .int o_start, .int o_sort, .int o_value, .int o_fault, w_o_draft, w_o_sayings, w_o_leaves, w_o_signs, w_o_words, w_o_word, w_o_isKept, w_o_some, w_o_every, .int o_deep, .int o_many, w_o_length, w_o_found, .int o_foundMany])), (a_values, .inl (cI, 3, .inl f_values))] → va_S A s.heap H locs → lv_has ls 8 [(0, .ref a_o), (1, .int p1), (2, .int p2), (3, .int p3), (4, .int x6_l4), (5, .int x6_l5)] → W p l e rmX11_alikeTo s m args below meth c H locs 0 0 Q (F0 m 6 ls []) := by
    intro n
    induction n with
    | zero =>
      intro x6_l4 x6_l5 H locs ls h
      exact no_e h
    | succ n ih6 =>
      intro x6_l4 x6_l5 H locs ls h hP hD hS hl
      rw [P_X11_alikeTo_6] at h
      refine lv_iload hx hb dX11_alikeTo_6 (lv_at hl 5 rfl) ?_
      refine lv_aload_n hx hb dX11_alikeTo_8 rfl (lv_at hl 0 rfl) ?_
      refine va_get (D := D) (ci := 10) (v := .int o_worlds) (C := RX11) (T := TX11) (N := 25) hx hb hts u_X11 hown hK hP 0 rfl rfl 4 (by decide) k_f0 (fun _ h9 => h9) rfl dX11_alikeTo_9 ?_
      refine lv_icmp_ge (tgt := 113) hx hb dX11_alikeTo_12 (by decide) (fun c_12 => ?_) (fun c_12 => ?_)
      · replace h := it_e c_12 h
        refine lv_iload hx hb dX11_alikeTo_113 (lv_at hl 4 rfl) ?_
        have hz := Option.some.inj h
        subst hz
        exact hret H locs 115 ls (fun ty h => by cases h; rfl) hP hD hS dX11_alikeTo_115
      · replace h := if_e c_12 h
        refine lv_iload_n hx hb dX11_alikeTo_15 rfl (lv_at hl 3 rfl) ?_
        refine lv_iload hx hb dX11_alikeTo_16 (lv_at hl 5 rfl) ?_
        refine lv_ishr hx hb dX11_alikeTo_18 ?_
        refine lv_iconst (v := 1) hx hb dX11_alikeTo_19 ic_1 ?_
        refine lv_iand hx hb dX11_alikeTo_20 ?_
        refine lv_iconst (v := 1) hx hb dX11_alikeTo_21 ic_1 ?_
        obtain ⟨j30, hj30, h⟩ := jn_e h
        have Jj30 : ∀ (x30_s0 : Int32) (H : Heap) (locs : List Loc) (ls : Array Slot), j30 x30_s0 = some z → va_P D vwCl [(a_o, .inr (10, [.long o_trace, w_o_text, .int o_typed, .int o_choices, .int o_worlds, .ref a_values, .int o_at, .int o_start, .int o_sort, .int o_value, .int o_fault, w_o_draft, w_o_sayings, w_o_leaves, w_o_signs, w_o_words, w_o_word, w_o_isKept, w_o_some, w_o_every, .int o_deep, .int o_many, w_o_length, w_o_found, .int o_foundMany])), (a_values, .inl (cI, 3, .inl f_values))] H → va_D A [(a_o, .inr (10, [.long o_trace, w_o_text, .int o_typed, .int o_choices, .int o_worlds, .ref a_values, .int o_at, .int o_start, .int o_sort, .int o_value, .int o_fault, w_o_draft, w_o_sayings, w_o_leaves, w_o_signs, w_o_words, w_o_word, w_o_isKept, w_o_some, w_o_every, .int o_deep, .int o_many, w_o_length, w_o_found, .int o_foundMany])), (a_values, .inl (cI, 3, .inl f_values))] → va_S A s.heap H locs → lv_has ls 8 [(0, .ref a_o), (1, .int p1), (2, .int p2), (3, .int p3), (4, .int x6_l4), (5, .int x6_l5)] → W p l e rmX11_alikeTo s m args below meth c H locs 0 0 Q (F0 m 30 ls [.int x30_s0]) := by
          intro x30_s0 H locs ls h hP hD hS hl
          rw [hj30] at h
          refine lv_istore (lv' := [(6, .int x30_s0), (0, .ref a_o), (1, .int p1), (2, .int p2), (3, .int p3), (4, .int x6_l4), (5, .int x6_l5)]) hx hb dX11_alikeTo_30 hl (by decide) rfl (fun ls hl => ?_)
          refine lv_iconst (v := 0) hx hb dX11_alikeTo_32 ic_0 ?_
          refine lv_istore (lv' := [(7, .int 0), (6, .int x30_s0), (0, .ref a_o), (1, .int p1), (2, .int p2), (3, .int p3), (4, .int x6_l4), (5, .int x6_l5)]) hx hb dX11_alikeTo_33 hl (by decide) rfl (fun ls hl => ?_)
          obtain ⟨k89, hk89, h⟩ := jn_e h
          have Jk89 : ∀ (x89_l6 : Int32) (H : Heap) (locs : List Loc) (ls : Array Slot), k89 x89_l6 = some z → va_P D vwCl [(a_o, .inr (10, [.long o_trace, w_o_text, .int o_typed, .int o_choices, .int o_worlds, .ref a_values, .int o_at, .int o_start, .int o_sort, .int o_value, .int o_fault, w_o_draft, w_o_sayings, w_o_leaves, w_o_signs, w_o_words, w_o_word, w_o_isKept, w_o_some, w_o_every, .int o_deep, .int o_many, w_o_length, w_o_found, .int o_foundMany])), (a_values, .inl (cI, 3, .inl f_values))] H → va_D A [(a_o, .inr (10, [.long o_trace, w_o_text, .int o_typed, .int o_choices, .int o_worlds, .ref a_values, .int o_at, .int o_start, .int o_sort, .int o_value, .int o_fault, w_o_draft, w_o_sayings, w_o_leaves, w_o_signs, w_o_words, w_o_word, w_o_isKept, w_o_some, w_o_every, .int o_deep, .int o_many, w_o_length, w_o_found, .int o_foundMany])), (a_values, .inl (cI, 3, .inl f_values))] → va_S A s.heap H locs → lv_has ls 8 [(0, .ref a_o), (1, .int p1), (2, .int p2), (3, .int p3), (4, .int x6_l4), (5, .int x6_l5), (6, .int x89_l6)] → W p l e rmX11_alikeTo s m args below meth c H locs 0 0 Q (F0 m 89 ls []) := by
            intro x89_l6 H locs ls h hP hD hS hl
            rw [hk89] at h
            refine lv_iload hx hb dX11_alikeTo_89 (lv_at hl 4 rfl) ?_
            refine lv_iload hx hb dX11_alikeTo_91 (lv_at hl 6 rfl) ?_
            obtain ⟨j104, hj104, h⟩ := jn_e h
            have Jj104 : ∀ (x104_s1 : Int32) (H : Heap) (locs : List Loc) (ls : Array Slot), j104 x104_s1 = some z → va_P D vwCl [(a_o, .inr (10, [.long o_trace, w_o_text, .int o_typed, .int o_choices, .int o_worlds, .ref a_values, .int o_at, .int o_start, .int o_sort, .int o_value, .int o_fault, w_o_draft, w_o_sayings, w_o_leaves, w_o_signs, w_o_words, w_o_word, w_o_isKept, w_o_some, w_o_every, .int o_deep, .int o_many, w_o_length, w_o_found, .int o_foundMany])), (a_values, .inl (cI, 3, .inl f_values))] H → va_D A [(a_o, .inr (10, [.long o_trace, w_o_text, .int o_typed, .int o_choices, .int o_worlds, .ref a_values, .int o_at, .int o_start, .int o_sort, .int o_value, .int o_fault, w_o_draft, w_o_sayings, w_o_leaves, w_o_signs, w_o_words, w_o_word, w_o_isKept, w_o_some, w_o_every, .int o_deep, .int o_many, w_o_length, w_o_found, .int o_foundMany])), (a_values, .inl (cI, 3, .inl f_values))] → va_S A s.heap H locs → lv_has ls 8 [(0, .ref a_o), (1, .int p1), (2, .int p2), (3, .int p3), (5, .int x6_l5)] → W p l e rmX11_alikeTo s m args below meth c H locs 0 0 Q (F0 m 104 ls [.int x104_s1, .int x6_l4]) := by
              intro x104_s1 H locs ls h hP hD hS hl
              rw [hj104] at h
              refine lv_ior hx hb dX11_alikeTo_104 ?_
              refine lv_istore (lv' := [(4, .int (x6_l4 ||| x104_s1)), (0, .ref a_o), (1, .int p1), (2, .int p2), (3, .int p3), (5, .int x6_l5)]) hx hb dX11_alikeTo_105 hl (by decide) rfl (fun ls hl => ?_)
              refine lv_iinc (v := x6_l5 + 1) (lv' := [(5, .int (x6_l5 + 1)), (4, .int (x6_l4 ||| x104_s1)), (0, .ref a_o), (1, .int p1), (2, .int p2), (3, .int p3)]) hx hb dX11_alikeTo_107 hl (k := 5) rfl (congrArg (x6_l5 + ·) ic_1) (by decide) rfl (fun ls hl => ?_)
              refine lv_goto (tgt := 6) hx hb dX11_alikeTo_110 (by decide) ?_
              exact ih6 (x6_l4 ||| x104_s1) (x6_l5 + 1) H locs ls h hP hD hS (lv_sub hl [2, 3, 4, 5, 1, 0] rfl)
            refine lv_if_eq (tgt := 103) hx hb dX11_alikeTo_93 (by decide) (fun c_93 => ?_) (fun c_93 => ?_)
            · replace h := it_e c_93 h
              refine lv_iconst (v := 0) hx hb dX11_alikeTo_103 ic_0 ?_
              exact Jj104 0 H locs ls h hP hD hS (lv_sub hl [0, 1, 2, 3, 5] rfl)
            · replace h := if_e c_93 h
              refine lv_iconst (v := 1) hx hb dX11_alikeTo_96 ic_1 ?_
              refine lv_iload hx hb dX11_alikeTo_97 (lv_at hl 5 rfl) ?_
              refine lv_ishl hx hb dX11_alikeTo_99 ?_
              refine lv_goto (tgt := 104) hx hb dX11_alikeTo_100 (by decide) ?_
              exact Jj104 (1 <<< (x6_l5 &&& 31)) H locs ls h hP hD hS (lv_sub hl [0, 1, 2, 3, 5] rfl)
          have L35 : ∀ (n : Nat), ∀ (x35_l6 : Int32) (x35_l7 : Int32) (H : Heap) (locs : List Loc) (ls : Array Slot), P_X11_alikeTo_35 p1 p2 o_choices f_values x6_l5 k89 n x35_l6 x35_l7 = some z → va_P D vwCl [(a_o, .inr (10, [.long o_trace, w_o_text, .int o_typed, .int o_choices, .int o_worlds, .ref a_values, .int o_at, .int o_start, .int o_sort, .int o_value, .int o_fault, w_o_draft, w_o_sayings, w_o_leaves, w_o_signs, w_o_words, w_o_word, w_o_isKept, w_o_some, w_o_every, .int o_deep, .int o_many, w_o_length, w_o_found, .int o_foundMany])), (a_values, .inl (cI, 3, .inl f_values))] H → va_D A [(a_o, .inr (10, [.long o_trace, w_o_text, .int o_typed, .int o_choices, .int o_worlds, .ref a_values, .int o_at, .int o_start, .int o_sort, .int o_value, .int o_fault, w_o_draft, w_o_sayings, w_o_leaves, w_o_signs, w_o_words, w_o_word, w_o_isKept, w_o_some, w_o_every, .int o_deep, .int o_many, w_o_length, w_o_found, .int o_foundMany])), (a_values, .inl (cI, 3, .inl f_values))] → va_S A s.heap H locs → lv_has ls 8 [(0, .ref a_o), (1, .int p1), (2, .int p2), (3, .int p3), (4, .int x6_l4), (5, .int x6_l5), (6, .int x35_l6), (7, .int x35_l7)] → W p l e rmX11_alikeTo s m args below meth c H locs 0 0 Q (F0 m 35 ls []) := by
            intro n
            induction n with
            | zero =>
              intro x35_l6 x35_l7 H locs ls h
              exact no_e h
            | succ n ih35 =>
              intro x35_l6 x35_l7 H locs ls h hP hD hS hl
              rw [P_X11_alikeTo_35] at h
              refine lv_iload hx hb dX11_alikeTo_35 (lv_at hl 7 rfl) ?_
              refine lv_aload_n hx hb dX11_alikeTo_37 rfl (lv_at hl 0 rfl) ?_
              refine va_get (D := D) (ci := 10) (v := .int o_choices) (C := RX11) (T := TX11) (N := 25) hx hb hts u_X11 hown hK hP 0 rfl rfl 3 (by decide) k_f1 (fun _ h9 => h9) rfl dX11_alikeTo_38 ?_
              refine lv_icmp_ge (tgt := 89) hx hb dX11_alikeTo_41 (by decide) (fun c_41 => ?_) (fun c_41 => ?_)
              · replace h := it_e c_41 h
                exact Jk89 x35_l6 H locs ls h hP hD hS (lv_sub hl [0, 1, 2, 3, 4, 5, 6] rfl)
              · replace h := if_e c_41 h
                refine lv_iload hx hb dX11_alikeTo_44 (lv_at hl 6 rfl) ?_
                obtain ⟨j80, hj80, h⟩ := jn_e h
                have Jj80 : ∀ (H : Heap) (locs : List Loc) (ls : Array Slot), j80 () = some z → va_P D vwCl [(a_o, .inr (10, [.long o_trace, w_o_text, .int o_typed, .int o_choices, .int o_worlds, .ref a_values, .int o_at, .int o_start, .int o_sort, .int o_value, .int o_fault, w_o_draft, w_o_sayings, w_o_leaves, w_o_signs, w_o_words, w_o_word, w_o_isKept, w_o_some, w_o_every, .int o_deep, .int o_many, w_o_length, w_o_found, .int o_foundMany])), (a_values, .inl (cI, 3, .inl f_values))] H → va_D A [(a_o, .inr (10, [.long o_trace, w_o_text, .int o_typed, .int o_choices, .int o_worlds, .ref a_values, .int o_at, .int o_start, .int o_sort, .int o_value, .int o_fault, w_o_draft, w_o_sayings, w_o_leaves, w_o_signs, w_o_words, w_o_word, w_o_isKept, w_o_some, w_o_every, .int o_deep, .int o_many, w_o_length, w_o_found, .int o_foundMany])), (a_values, .inl (cI, 3, .inl f_values))] → va_S A s.heap H locs → lv_has ls 8 [(0, .ref a_o), (1, .int p1), (2, .int p2), (3, .int p3), (4, .int x6_l4), (5, .int x6_l5), (7, .int x35_l7)] → W p l e rmX11_alikeTo s m args below meth c H locs 0 0 Q (F0 m 80 ls []) := by
                  intro H locs ls h hP hD hS hl
                  rw [hj80] at h
                  refine lv_iconst (v := 0) hx hb dX11_alikeTo_80 ic_0 ?_
                  refine lv_istore (lv' := [(6, .int 0), (0, .ref a_o), (1, .int p1), (2, .int p2), (3, .int p3), (4, .int x6_l4), (5, .int x6_l5), (7, .int x35_l7)]) hx hb dX11_alikeTo_81 hl (by decide) rfl (fun ls hl => ?_)
                  refine lv_iinc (v := x35_l7 + 1) (lv' := [(7, .int (x35_l7 + 1)), (6, .int 0), (0, .ref a_o), (1, .int p1), (2, .int p2), (3, .int p3), (4, .int x6_l4), (5, .int x6_l5)]) hx hb dX11_alikeTo_83 hl (k := 7) rfl (congrArg (x35_l7 + ·) ic_1) (by decide) rfl (fun ls hl => ?_)
                  refine lv_goto (tgt := 35) hx hb dX11_alikeTo_86 (by decide) ?_
                  exact ih35 0 (x35_l7 + 1) H locs ls h hP hD hS (lv_sub hl [2, 3, 4, 5, 6, 7, 1, 0] rfl)
                obtain ⟨j81, hj81, h⟩ := jn_e h
                have Jj81 : ∀ (x81_s0 : Int32) (H : Heap) (locs : List Loc) (ls : Array Slot), j81 x81_s0 = some z → va_P D vwCl [(a_o, .inr (10, [.long o_trace, w_o_text, .int o_typed, .int o_choices, .int o_worlds, .ref a_values, .int o_at, .int o_start, .int o_sort, .int o_value, .int o_fault, w_o_draft, w_o_sayings, w_o_leaves, w_o_signs, w_o_words, w_o_word, w_o_isKept, w_o_some, w_o_every, .int o_deep, .int o_many, w_o_length, w_o_found, .int o_foundMany])), (a_values, .inl (cI, 3, .inl f_values))] H → va_D A [(a_o, .inr (10, [.long o_trace, w_o_text, .int o_typed, .int o_choices, .int o_worlds, .ref a_values, .int o_at, .int o_start, .int o_sort, .int o_value, .int o_fault, w_o_draft, w_o_sayings, w_o_leaves, w_o_signs, w_o_words, w_o_word, w_o_isKept, w_o_some, w_o_every, .int o_deep, .int o_many, w_o_length, w_o_found, .int o_foundMany])), (a_values, .inl (cI, 3, .inl f_values))] → va_S A s.heap H locs → lv_has ls 8 [(0, .ref a_o), (1, .int p1), (2, .int p2), (3, .int p3), (4, .int x6_l4), (5, .int x6_l5), (7, .int x35_l7)] → W p l e rmX11_alikeTo s m args below meth c H locs 0 0 Q (F0 m 81 ls [.int x81_s0]) := by
                  intro x81_s0 H locs ls h hP hD hS hl
                  rw [hj81] at h
                  refine lv_istore (lv' := [(6, .int x81_s0), (0, .ref a_o), (1, .int p1), (2, .int p2), (3, .int p3), (4, .int x6_l4), (5, .int x6_l5), (7, .int x35_l7)]) hx hb dX11_alikeTo_81 hl (by decide) rfl (fun ls hl => ?_)
                  refine lv_iinc (v := x35_l7 + 1) (lv' := [(7, .int (x35_l7 + 1)), (6, .int x81_s0), (0, .ref a_o), (1, .int p1), (2, .int p2), (3, .int p3), (4, .int x6_l4), (5, .int x6_l5)]) hx hb dX11_alikeTo_83 hl (k := 7) rfl (congrArg (x35_l7 + ·) ic_1) (by decide) rfl (fun ls hl => ?_)
                  refine lv_goto (tgt := 35) hx hb dX11_alikeTo_86 (by decide) ?_
                  exact ih35 x81_s0 (x35_l7 + 1) H locs ls h hP hD hS (lv_sub hl [2, 3, 4, 5, 6, 7, 1, 0] rfl)
                refine lv_if_eq (tgt := 80) hx hb dX11_alikeTo_46 (by decide) (fun c_46 => ?_) (fun c_46 => ?_)
                · replace h := it_e c_46 h
                  exact Jj80  H locs ls h hP hD hS (lv_sub hl [0, 1, 2, 3, 4, 5, 7] rfl)
                · replace h := if_e c_46 h
                  refine lv_iload_n hx hb dX11_alikeTo_49 rfl (lv_at hl 1 rfl) ?_
                  refine lv_iload hx hb dX11_alikeTo_50 (lv_at hl 7 rfl) ?_
                  refine lv_ishr hx hb dX11_alikeTo_52 ?_
                  refine lv_iconst (v := 1) hx hb dX11_alikeTo_53 ic_1 ?_
                  refine lv_iand hx hb dX11_alikeTo_54 ?_
                  obtain ⟨j76, hj76, h⟩ := jn_e h
                  have Jj76 : ∀ (H : Heap) (locs : List Loc) (ls : Array Slot), j76 () = some z → va_P D vwCl [(a_o, .inr (10, [.long o_trace, w_o_text, .int o_typed, .int o_choices, .int o_worlds, .ref a_values, .int o_at, .int o_start, .int o_sort, .int o_value, .int o_fault, w_o_draft, w_o_sayings, w_o_leaves, w_o_signs, w_o_words, w_o_word, w_o_isKept, w_o_some, w_o_every, .int o_deep, .int o_many, w_o_length, w_o_found, .int o_foundMany])), (a_values, .inl (cI, 3, .inl f_values))] H → va_D A [(a_o, .inr (10, [.long o_trace, w_o_text, .int o_typed, .int o_choices, .int o_worlds, .ref a_values, .int o_at, .int o_start, .int o_sort, .int o_value, .int o_fault, w_o_draft, w_o_sayings, w_o_leaves, w_o_signs, w_o_words, w_o_word, w_o_isKept, w_o_some, w_o_every, .int o_deep, .int o_many, w_o_length, w_o_found, .int o_foundMany])), (a_values, .inl (cI, 3, .inl f_values))] → va_S A s.heap H locs → lv_has ls 8 [(0, .ref a_o), (1, .int p1), (2, .int p2), (3, .int p3), (4, .int x6_l4), (5, .int x6_l5), (7, .int x35_l7)] → W p l e rmX11_alikeTo s m args below meth c H locs 0 0 Q (F0 m 76 ls []) := by
                    intro H locs ls h hP hD hS hl
                    rw [hj76] at h
                    refine lv_iconst (v := 1) hx hb dX11_alikeTo_76 ic_1 ?_
                    refine lv_goto (tgt := 81) hx hb dX11_alikeTo_77 (by decide) ?_
                    exact Jj81 1 H locs ls h hP hD hS hl
                  refine lv_if_eq (tgt := 76) hx hb dX11_alikeTo_55 (by decide) (fun c_55 => ?_) (fun c_55 => ?_)
                  · replace h := it_e c_55 h
                    exact Jj76  H locs ls h hP hD hS (lv_sub hl [0, 1, 2, 3, 4, 5, 7] rfl)
                  · replace h := if_e c_55 h
                    refine lv_aload_n hx hb dX11_alikeTo_58 rfl (lv_at hl 0 rfl) ?_
                    refine lv_iload hx hb dX11_alikeTo_59 (lv_at hl 5 rfl) ?_
                    refine lv_iload hx hb dX11_alikeTo_61 (lv_at hl 7 rfl) ?_
                    obtain ⟨z_63, hc_63, h⟩ := bd_e h
                    refine q_iV (As := [.int x6_l5, .int x35_l7]) (rest := []) (wF := [(a_o, .inr (10, [.long o_trace, w_o_text, .int o_typed, .int o_choices, .int o_worlds, .ref a_values, .int o_at, .int o_start, .int o_sort, .int o_value, .int o_fault, w_o_draft, w_o_sayings, w_o_leaves, w_o_signs, w_o_words, w_o_word, w_o_isKept, w_o_some, w_o_every, .int o_deep, .int o_many, w_o_length, w_o_found, .int o_foundMany])), (a_values, .inl (cI, 3, .inl f_values))]) hF hA hZ hK hP hD hS (c_X11_valueOf l D cI cB cZ a_o o_trace w_o_text o_typed o_choices o_worlds o_at o_start o_sort o_value o_fault w_o_draft w_o_sayings w_o_leaves w_o_signs w_o_words w_o_word w_o_isKept w_o_some w_o_every o_deep o_many w_o_length w_o_found o_foundMany a_values f_values x6_l5 x35_l7 z_63 hc_63) rfl gX11_alikeTo_X11_valueOf hdX11_valueOf ⟨rfl, rfl⟩ (Nat.le_of_ble_eq_true rfl) (Nat.le_of_ble_eq_true rfl) 10 0 rfl rfl [0, 1] [] rfl rfl rfl rfl (by decide) rfl hl.1 rfl (Nat.le_of_ble_eq_true rfl) (Nat.zero_le _) (Nat.zero_le _) dX11_alikeTo_63 (fun H locs hP hD hS => ?_)
                    refine lv_aload_n hx hb dX11_alikeTo_66 rfl (lv_at hl 0 rfl) ?_
                    refine lv_iload_n hx hb dX11_alikeTo_67 rfl (lv_at hl 2 rfl) ?_
                    refine lv_iload hx hb dX11_alikeTo_68 (lv_at hl 7 rfl) ?_
                    obtain ⟨z_70, hc_70, h⟩ := bd_e h
                    refine q_iV (As := [.int p2, .int x35_l7]) (rest := [.int z_63]) (wF := [(a_o, .inr (10, [.long o_trace, w_o_text, .int o_typed, .int o_choices, .int o_worlds, .ref a_values, .int o_at, .int o_start, .int o_sort, .int o_value, .int o_fault, w_o_draft, w_o_sayings, w_o_leaves, w_o_signs, w_o_words, w_o_word, w_o_isKept, w_o_some, w_o_every, .int o_deep, .int o_many, w_o_length, w_o_found, .int o_foundMany])), (a_values, .inl (cI, 3, .inl f_values))]) hF hA hZ hK hP hD hS (c_X11_valueOf l D cI cB cZ a_o o_trace w_o_text o_typed o_choices o_worlds o_at o_start o_sort o_value o_fault w_o_draft w_o_sayings w_o_leaves w_o_signs w_o_words w_o_word w_o_isKept w_o_some w_o_every o_deep o_many w_o_length w_o_found o_foundMany a_values f_values p2 x35_l7 z_70 hc_70) rfl gX11_alikeTo_X11_valueOf hdX11_valueOf ⟨rfl, rfl⟩ (Nat.le_of_ble_eq_true rfl) (Nat.le_of_ble_eq_true rfl) 10 0 rfl rfl [0, 1] [] rfl rfl rfl rfl (by decide) rfl hl.1 rfl (Nat.le_of_ble_eq_true rfl) (Nat.zero_le _) (Nat.zero_le _) dX11_alikeTo_70 (fun H locs hP hD hS => ?_)
                    refine lv_icmp_ne (tgt := 80) hx hb dX11_alikeTo_73 (by decide) (fun c_73 => ?_) (fun c_73 => ?_)
                    · replace h := if_e c_73 h
                      exact Jj80  H locs ls h hP hD hS (lv_sub hl [0, 1, 2, 3, 4, 5, 7] rfl)
                    · replace h := it_e c_73 h
                      exact Jj76  H locs ls h hP hD hS (lv_sub hl [0, 1, 2, 3, 4, 5, 7] rfl)
          exact L35 QF x30_s0 0 H locs ls h hP hD hS (lv_sub hl [2, 3, 4, 5, 6, 7, 1, 0] rfl)
        refine lv_icmp_ne (tgt := 29) hx hb dX11_alikeTo_22 (by decide) (fun c_22 => ?_) (fun c_22 => ?_)
        · replace h := if_e c_22 h
          refine lv_iconst (v := 0) hx hb dX11_alikeTo_29 ic_0 ?_
          exact Jj30 0 H locs ls h hP hD hS hl
        · replace h := it_e c_22 h
          refine lv_iconst (v := 1) hx hb dX11_alikeTo_25 ic_1 ?_
          refine lv_goto (tgt := 30) hx hb dX11_alikeTo_26 (by decide) ?_
          exact Jj30 1 H locs ls h hP hD hS hl
  exact L6 QF 0 0 H locs ls h hP hD hS (lv_sub hl [2, 3, 4, 5, 1, 0] rfl)
abbrev rmX11_isSeen : Room := { frames := 1, cells := 0, slots := 0, locals := 22 }
theorem hdX11_isSeen : yX11_isSeen.cls = RX11 ∧ yX11_isSeen.cls ≠ "java/lang/invoke/MethodHandle" ∧ yX11_isSeen.cls ≠ "java/lang/invoke/VarHandle" ∧ (parseMethodDescriptor yX11_isSeen.desc).map (fun d => d.parameters.length) = some 2 := by decide +kernel
set_option maxRecDepth 100000 in
set_option maxHeartbeats 4000000 in
theorem c_X11_isSeen (l : Launch) (D : va_G) (cI cB cZ : ClassId) (a_o : Nat) (o_trace : Int64) (w_o_text : Value) (o_typed : Int32) (o_choices : Int32) (o_worlds : Int32) (w_o_values : Value) (o_at : Int32) (o_start : Int32) (o_sort : Int32) (o_value : Int32) (o_fault : Int32) (w_o_draft : Value) (w_o_sayings : Value) (w_o_leaves : Value) (w_o_signs : Value) (w_o_words : Value) (w_o_word : Value) (w_o_isKept : Value) (w_o_some : Value) (w_o_every : Value) (o_deep : Int32) (o_many : Int32) (w_o_length : Value) (w_o_found : Value) (o_foundMany : Int32) (p1 : Int32) (p2 : Int32) (z : Int32) (h : P_X11_isSeen p1 p2 = some z) : KI l yX11_isSeen wsX11_isSeen rmX11_isSeen D [(cI, .int), (cB, .byte), (cZ, .boolean)] [.ref a_o, .int p1, .int p2] [(a_o, .inr (10, [.long o_trace, w_o_text, .int o_typed, .int o_choices, .int o_worlds, w_o_values, .int o_at, .int o_start, .int o_sort, .int o_value, .int o_fault, w_o_draft, w_o_sayings, w_o_leaves, w_o_signs, w_o_words, w_o_word, w_o_isKept, w_o_some, w_o_every, .int o_deep, .int o_many, w_o_length, w_o_found, .int o_foundMany]))] [(a_o, .inr (10, [.long o_trace, w_o_text, .int o_typed, .int o_choices, .int o_worlds, w_o_values, .int o_at, .int o_start, .int o_sort, .int o_value, .int o_fault, w_o_draft, w_o_sayings, w_o_leaves, w_o_signs, w_o_words, w_o_word, w_o_isKept, w_o_some, w_o_every, .int o_deep, .int o_many, w_o_length, w_o_found, .int o_foundMany]))] z := by
  refine KI_of (own := RX11) (cc := cX11_isSeen) (maxL := 3) (ret := some .boolean) (by decide) rfl rfl (Nat.le_of_ble_eq_true rfl) (Or.inr rfl) ?_
  intro p e s m args below meth c A Q hx hb hml hown hts hA hZ hK hret H locs ls hP hD hS hl
  have hl : lv_has ls 3 [(0, .ref a_o), (1, .int p1), (2, .int p2)] := hl
  have hF : CallFix p m c cX11_isSeen 3 s args wsX11_isSeen RX11 := ⟨hx, hb, hml, hown, hts⟩
  unfold P_X11_isSeen at h
  refine lv_iload_n hx hb dX11_isSeen_0 rfl (lv_at hl 1 rfl) ?_
  refine lv_iconst (v := 0) hx hb dX11_isSeen_1 ic_0 ?_
  refine lv_bipush (v := 7) hx hb dX11_isSeen_2 bc_7 ?_
  obtain ⟨z_4, hc_4, h⟩ := bd_e h
  refine q_iS (As := [.int p1, .int 0, .int 7]) (rest := []) (wF := [(a_o, .inr (10, [.long o_trace, w_o_text, .int o_typed, .int o_choices, .int o_worlds, w_o_values, .int o_at, .int o_start, .int o_sort, .int o_value, .int o_fault, w_o_draft, w_o_sayings, w_o_leaves, w_o_signs, w_o_words, w_o_word, w_o_isKept, w_o_some, w_o_every, .int o_deep, .int o_many, w_o_length, w_o_found, .int o_foundMany]))]) hF hA hZ hK hP hD hS (c_X11_in l D cI cB cZ p1 0 7 z_4 hc_4) rfl gX11_isSeen_X11_in hdX11_in ⟨rfl, rfl⟩ (Nat.le_of_ble_eq_true rfl) (Nat.le_of_ble_eq_true rfl) [] [0] rfl rfl rfl rfl (by decide) rfl hl.1 rfl (Nat.le_of_ble_eq_true rfl) (Nat.zero_le _) (Nat.zero_le _) dX11_isSeen_4 (fun H locs hP hD hS => ?_)
  refine lv_if_eq (tgt := 24) hx hb dX11_isSeen_7 (by decide) (fun c_7 => ?_) (fun c_7 => ?_)
  · replace h := it_e c_7 h
    refine lv_iconst (v := 0) hx hb dX11_isSeen_24 ic_0 ?_
    have hz := Option.some.inj h
    subst hz
    exact hret H locs 25 ls (fun ty h => by cases h; exact nar_0) hP hD hS dX11_isSeen_25
  · replace h := if_e c_7 h
    refine lv_iload_n hx hb dX11_isSeen_10 rfl (lv_at hl 2 rfl) ?_
    refine lv_iconst (v := 0) hx hb dX11_isSeen_11 ic_0 ?_
    refine lv_bipush (v := 7) hx hb dX11_isSeen_12 bc_7 ?_
    obtain ⟨z_14, hc_14, h⟩ := bd_e h
    refine q_iS (As := [.int p2, .int 0, .int 7]) (rest := []) (wF := [(a_o, .inr (10, [.long o_trace, w_o_text, .int o_typed, .int o_choices, .int o_worlds, w_o_values, .int o_at, .int o_start, .int o_sort, .int o_value, .int o_fault, w_o_draft, w_o_sayings, w_o_leaves, w_o_signs, w_o_words, w_o_word, w_o_isKept, w_o_some, w_o_every, .int o_deep, .int o_many, w_o_length, w_o_found, .int o_foundMany]))]) hF hA hZ hK hP hD hS (c_X11_in l D cI cB cZ p2 0 7 z_14 hc_14) rfl gX11_isSeen_X11_in hdX11_in ⟨rfl, rfl⟩ (Nat.le_of_ble_eq_true rfl) (Nat.le_of_ble_eq_true rfl) [] [0] rfl rfl rfl rfl (by decide) rfl hl.1 rfl (Nat.le_of_ble_eq_true rfl) (Nat.zero_le _) (Nat.zero_le _) dX11_isSeen_14 (fun H locs hP hD hS => ?_)
    refine lv_if_eq (tgt := 24) hx hb dX11_isSeen_17 (by decide) (fun c_17 => ?_) (fun c_17 => ?_)
    · replace h := it_e c_17 h
      refine lv_iconst (v := 0) hx hb dX11_isSeen_24 ic_0 ?_
      have hz := Option.some.inj h
      subst hz
      exact hret H locs 25 ls (fun ty h => by cases h; exact nar_0) hP hD hS dX11_isSeen_25
    · replace h := if_e c_17 h
      refine lv_iconst (v := 1) hx hb dX11_isSeen_20 ic_1 ?_
      refine lv_goto (tgt := 25) hx hb dX11_isSeen_21 (by decide) ?_
      have hz := Option.some.inj h
      subst hz
      exact hret H locs 25 ls (fun ty h => by cases h; exact nar_1) hP hD hS dX11_isSeen_25
abbrev rmX11_common : Room := { frames := 2, cells := 0, slots := 0, locals := 51 }
theorem hdX11_common : yX11_common.cls = RX11 ∧ yX11_common.cls ≠ "java/lang/invoke/MethodHandle" ∧ yX11_common.cls ≠ "java/lang/invoke/VarHandle" ∧ (parseMethodDescriptor yX11_common.desc).map (fun d => d.parameters.length) = some 3 := by decide +kernel
set_option maxRecDepth 100000 in
set_option maxHeartbeats 4000000 in
theorem c_X11_common (l : Launch) (D : va_G) (cI cB cZ : ClassId) (a_o : Nat) (o_trace : Int64) (w_o_text : Value) (o_typed : Int32) (o_choices : Int32) (o_worlds : Int32) (o_at : Int32) (o_start : Int32) (o_sort : Int32) (o_value : Int32) (o_fault : Int32) (w_o_draft : Value) (w_o_signs : Value) (w_o_words : Value) (w_o_word : Value) (w_o_isKept : Value) (w_o_some : Value) (w_o_every : Value) (o_deep : Int32) (o_many : Int32) (w_o_length : Value) (w_o_found : Value) (o_foundMany : Int32) (a_values : Nat) (f_values : Nat → Int32) (a_sayings : Nat) (f_sayings : Nat → Int32) (a_leaves : Nat) (f_leaves : Nat → Int32) (p1 : Int32) (p2 : Int32) (p3 : Int32) (z : Int32) (h : P_X11_common p1 p2 p3 o_choices o_worlds f_values f_sayings f_leaves = some z) : KI l yX11_common wsX11_common rmX11_common D [(cI, .int), (cB, .byte), (cZ, .boolean)] [.ref a_o, .int p1, .int p2, .int p3] [(a_o, .inr (10, [.long o_trace, w_o_text, .int o_typed, .int o_choices, .int o_worlds, .ref a_values, .int o_at, .int o_start, .int o_sort, .int o_value, .int o_fault, w_o_draft, .ref a_sayings, .ref a_leaves, w_o_signs, w_o_words, w_o_word, w_o_isKept, w_o_some, w_o_every, .int o_deep, .int o_many, w_o_length, w_o_found, .int o_foundMany])), (a_values, .inl (cI, 3, .inl f_values)), (a_sayings, .inl (cI, 3, .inl f_sayings)), (a_leaves, .inl (cI, 24, .inl f_leaves))] [(a_o, .inr (10, [.long o_trace, w_o_text, .int o_typed, .int o_choices, .int o_worlds, .ref a_values, .int o_at, .int o_start, .int o_sort, .int o_value, .int o_fault, w_o_draft, .ref a_sayings, .ref a_leaves, w_o_signs, w_o_words, w_o_word, w_o_isKept, w_o_some, w_o_every, .int o_deep, .int o_many, w_o_length, w_o_found, .int o_foundMany])), (a_values, .inl (cI, 3, .inl f_values)), (a_sayings, .inl (cI, 3, .inl f_sayings)), (a_leaves, .inl (cI, 24, .inl f_leaves))] z := by
  refine KI_of (own := RX11) (cc := cX11_common) (maxL := 8) (ret := some .int) (by decide) rfl rfl (Nat.le_of_ble_eq_true rfl) (Or.inl rfl) ?_
  intro p e s m args below meth c A Q hx hb hml hown hts hA hZ hK hret H locs ls hP hD hS hl
  have hl : lv_has ls 8 [(0, .ref a_o), (1, .int p1), (2, .int p2), (3, .int p3)] := hl
  have hF : CallFix p m c cX11_common 8 s args wsX11_common RX11 := ⟨hx, hb, hml, hown, hts⟩
  have u_X11 : ∀ w ∈ u_ws RX11 TX11 25, w ∈ wsX11_common := by decide +kernel
  have k_f0 := hts (.fieldLink RX11 51 "NoWordNoModel" "worlds" "I") (by decide +kernel)
  unfold P_X11_common at h
  refine lv_aload_n hx hb dX11_common_0 rfl (lv_at hl 0 rfl) ?_
  refine lv_iload_n hx hb dX11_common_1 rfl (lv_at hl 1 rfl) ?_
  refine lv_iload_n hx hb dX11_common_2 rfl (lv_at hl 2 rfl) ?_
  obtain ⟨z_3, hc_3, h⟩ := bd_e h
  refine q_iV (As := [.int p1, .int p2]) (rest := []) (wF := [(a_values, .inl (cI, 3, .inl f_values)), (a_sayings, .inl (cI, 3, .inl f_sayings)), (a_leaves, .inl (cI, 24, .inl f_leaves)), (a_o, .inr (10, [.long o_trace, w_o_text, .int o_typed, .int o_choices, .int o_worlds, .ref a_values, .int o_at, .int o_start, .int o_sort, .int o_value, .int o_fault, w_o_draft, .ref a_sayings, .ref a_leaves, w_o_signs, w_o_words, w_o_word, w_o_isKept, w_o_some, w_o_every, .int o_deep, .int o_many, w_o_length, w_o_found, .int o_foundMany]))]) hF hA hZ hK hP hD hS (c_X11_isSeen l D cI cB cZ a_o o_trace w_o_text o_typed o_choices o_worlds (.ref a_values) o_at o_start o_sort o_value o_fault w_o_draft (.ref a_sayings) (.ref a_leaves) w_o_signs w_o_words w_o_word w_o_isKept w_o_some w_o_every o_deep o_many w_o_length w_o_found o_foundMany p1 p2 z_3 hc_3) rfl gX11_common_X11_isSeen hdX11_isSeen ⟨rfl, rfl⟩ (Nat.le_of_ble_eq_true rfl) (Nat.le_of_ble_eq_true rfl) 10 0 rfl rfl [0] [1, 2, 3] rfl rfl rfl rfl (by decide) rfl hl.1 rfl (Nat.le_of_ble_eq_true rfl) (Nat.zero_le _) (Nat.zero_le _) dX11_common_3 (fun H locs hP hD hS => ?_)
  refine lv_if_eq (tgt := 23) hx hb dX11_common_6 (by decide) (fun c_6 => ?_) (fun c_6 => ?_)
  · replace h := it_e c_6 h
    refine lv_iconst (v := (-1)) hx hb dX11_common_23 ic_m1 ?_
    have hz := Option.some.inj h
    subst hz
    exact hret H locs 24 ls (fun ty h => by cases h; rfl) (hP.sub [3, 0, 1, 2] rfl) (hD.sub [3, 0, 1, 2] (by decide) rfl) hS dX11_common_24
  · replace h := if_e c_6 h
    refine lv_iload_n hx hb dX11_common_9 rfl (lv_at hl 3 rfl) ?_
    refine lv_iconst (v := 0) hx hb dX11_common_10 ic_0 ?_
    refine lv_aload_n hx hb dX11_common_11 rfl (lv_at hl 0 rfl) ?_
    refine va_get (D := D) (ci := 10) (v := .int o_worlds) (C := RX11) (T := TX11) (N := 25) hx hb hts u_X11 hown hK hP 3 rfl rfl 4 (by decide) k_f0 (fun _ h9 => h9) rfl dX11_common_12 ?_
    refine lv_iconst (v := 1) hx hb dX11_common_15 ic_1 ?_
    refine lv_isub hx hb dX11_common_16 ?_
    obtain ⟨z_17, hc_17, h⟩ := bd_e h
    refine q_iS (As := [.int p3, .int 0, .int (o_worlds - 1)]) (rest := []) (wF := [(a_values, .inl (cI, 3, .inl f_values)), (a_sayings, .inl (cI, 3, .inl f_sayings)), (a_leaves, .inl (cI, 24, .inl f_leaves)), (a_o, .inr (10, [.long o_trace, w_o_text, .int o_typed, .int o_choices, .int o_worlds, .ref a_values, .int o_at, .int o_start, .int o_sort, .int o_value, .int o_fault, w_o_draft, .ref a_sayings, .ref a_leaves, w_o_signs, w_o_words, w_o_word, w_o_isKept, w_o_some, w_o_every, .int o_deep, .int o_many, w_o_length, w_o_found, .int o_foundMany]))]) hF hA hZ hK hP hD hS (c_X11_in l D cI cB cZ p3 0 (o_worlds - 1) z_17 hc_17) rfl gX11_common_X11_in hdX11_in ⟨rfl, rfl⟩ (Nat.le_of_ble_eq_true rfl) (Nat.le_of_ble_eq_true rfl) [] [0, 1, 2, 3] rfl rfl rfl rfl (by decide) rfl hl.1 rfl (Nat.le_of_ble_eq_true rfl) (Nat.zero_le _) (Nat.zero_le _) dX11_common_17 (fun H locs hP hD hS => ?_)
    refine lv_if_ne (tgt := 25) hx hb dX11_common_20 (by decide) (fun c_20 => ?_) (fun c_20 => ?_)
    · replace h := if_e c_20 h
      refine lv_aload_n hx hb dX11_common_25 rfl (lv_at hl 0 rfl) ?_
      refine lv_bipush (v := (-9)) hx hb dX11_common_26 bc_m9 ?_
      obtain ⟨z_28, hc_28, h⟩ := bd_e h
      refine q_iV (As := [.int (-9)]) (rest := []) (wF := [(a_values, .inl (cI, 3, .inl f_values)), (a_o, .inr (10, [.long o_trace, w_o_text, .int o_typed, .int o_choices, .int o_worlds, .ref a_values, .int o_at, .int o_start, .int o_sort, .int o_value, .int o_fault, w_o_draft, .ref a_sayings, .ref a_leaves, w_o_signs, w_o_words, w_o_word, w_o_isKept, w_o_some, w_o_every, .int o_deep, .int o_many, w_o_length, w_o_found, .int o_foundMany])), (a_sayings, .inl (cI, 3, .inl f_sayings)), (a_leaves, .inl (cI, 24, .inl f_leaves))]) hF hA hZ hK hP hD hS (c_X11_contractBut l D cI cB cZ a_o o_trace w_o_text o_typed o_choices o_worlds (.ref a_values) o_at o_start o_sort o_value o_fault w_o_draft w_o_signs w_o_words w_o_word w_o_isKept w_o_some w_o_every o_deep o_many w_o_length w_o_found o_foundMany a_sayings f_sayings a_leaves f_leaves (-9) z_28 hc_28) rfl gX11_common_X11_contractBut hdX11_contractBut ⟨rfl, rfl⟩ (Nat.le_of_ble_eq_true rfl) (Nat.le_of_ble_eq_true rfl) 10 0 rfl rfl [3, 1, 2] [0] rfl rfl rfl rfl (by decide) rfl hl.1 rfl (Nat.le_of_ble_eq_true rfl) (Nat.zero_le _) (Nat.zero_le _) dX11_common_28 (fun H locs hP hD hS => ?_)
      refine lv_istore (lv' := [(4, .int z_28), (0, .ref a_o), (1, .int p1), (2, .int p2), (3, .int p3)]) hx hb dX11_common_31 hl (by decide) rfl (fun ls hl => ?_)
      refine lv_iload hx hb dX11_common_33 (lv_at hl 0 rfl) ?_
      refine lv_iconst (v := 1) hx hb dX11_common_35 ic_1 ?_
      refine lv_iload_n hx hb dX11_common_36 rfl (lv_at hl 4 rfl) ?_
      refine lv_ishl hx hb dX11_common_37 ?_
      refine lv_iand hx hb dX11_common_38 ?_
      refine lv_istore (lv' := [(5, .int (z_28 &&& (1 <<< (p3 &&& 31)))), (4, .int z_28), (0, .ref a_o), (1, .int p1), (2, .int p2), (3, .int p3)]) hx hb dX11_common_39 hl (by decide) rfl (fun ls hl => ?_)
      refine lv_iconst (v := (-1)) hx hb dX11_common_41 ic_m1 ?_
      refine lv_istore (lv' := [(6, .int (-1)), (5, .int (z_28 &&& (1 <<< (p3 &&& 31)))), (4, .int z_28), (0, .ref a_o), (1, .int p1), (2, .int p2), (3, .int p3)]) hx hb dX11_common_42 hl (by decide) rfl (fun ls hl => ?_)
      have L44 : ∀ (n : Nat), ∀ (x44_l5 : Int32) (x44_l6 : Int32) (H : Heap) (locs : List Loc) (ls : Array Slot), P_X11_common_44 p1 p2 o_choices o_worlds f_values z_28 n x44_l5 x44_l6 = some z → va_P D vwCl [(a_values, .inl (cI, 3, .inl f_values)), (a_o, .inr (10, [.long o_trace, w_o_text, .int o_typed, .int o_choices, .int o_worlds, .ref a_values, .int o_at, .int o_start, .int o_sort, .int o_value, .int o_fault, w_o_draft, .ref a_sayings, .ref a_leaves, w_o_signs, w_o_words, w_o_word, w_o_isKept, w_o_some, w_o_every, .int o_deep, .int o_many, w_o_length, w_o_found, .int o_foundMany])), (a_sayings, .inl (cI, 3, .inl f_sayings)), (a_leaves, .inl (cI, 24, .inl f_leaves))] H → va_D A [(a_values, .inl (cI, 3, .inl f_values)), (a_o, .inr (10, [.long o_trace, w_o_text, .int o_typed, .int o_choices, .int o_worlds, .ref a_values, .int o_at, .int o_start, .int o_sort, .int o_value, .int o_fault, w_o_draft, .ref a_sayings, .ref a_leaves, w_o_signs, w_o_words, w_o_word, w_o_isKept, w_o_some, w_o_every, .int o_deep, .int o_many, w_o_length, w_o_found, .int o_foundMany])), (a_sayings, .inl (cI, 3, .inl f_sayings)), (a_leaves, .inl (cI, 24, .inl f_leaves))] → va_S A s.heap H locs → lv_has ls 8 [(0, .ref a_o), (1, .int p1), (2, .int p2), (4, .int z_28), (5, .int x44_l5), (6, .int x44_l6)] → W p l e rmX11_common s m args below meth c H locs 0 0 Q (F0 m 44 ls []) := by
        intro n
        induction n with
        | zero =>
          intro x44_l5 x44_l6 H locs ls h
          exact no_e h
        | succ n ih44 =>
          intro x44_l5 x44_l6 H locs ls h hP hD hS hl
          rw [P_X11_common_44] at h
          refine lv_iload hx hb dX11_common_44 (lv_at hl 4 rfl) ?_
          refine lv_iload hx hb dX11_common_46 (lv_at hl 5 rfl) ?_
          refine lv_icmp_eq (tgt := 115) hx hb dX11_common_48 (by decide) (fun c_48 => ?_) (fun c_48 => ?_)
          · replace h := it_e c_48 h
            refine lv_iload hx hb dX11_common_115 (lv_at hl 4 rfl) ?_
            have hz := Option.some.inj h
            subst hz
            exact hret H locs 117 ls (fun ty h => by cases h; rfl) (hP.sub [1, 0, 2, 3] rfl) (hD.sub [1, 0, 2, 3] (by decide) rfl) hS dX11_common_117
          · replace h := if_e c_48 h
            refine lv_iload hx hb dX11_common_51 (lv_at hl 4 rfl) ?_
            refine lv_istore (lv' := [(6, .int x44_l5), (0, .ref a_o), (1, .int p1), (2, .int p2), (4, .int z_28), (5, .int x44_l5)]) hx hb dX11_common_53 hl (by decide) rfl (fun ls hl => ?_)
            refine lv_iconst (v := 0) hx hb dX11_common_55 ic_0 ?_
            refine lv_istore (lv' := [(7, .int 0), (6, .int x44_l5), (0, .ref a_o), (1, .int p1), (2, .int p2), (4, .int z_28), (5, .int x44_l5)]) hx hb dX11_common_56 hl (by decide) rfl (fun ls hl => ?_)
            obtain ⟨k112, hk112, h⟩ := jn_e h
            have Jk112 : ∀ (x112_l5 : Int32) (H : Heap) (locs : List Loc) (ls : Array Slot), k112 x112_l5 = some z → va_P D vwCl [(a_values, .inl (cI, 3, .inl f_values)), (a_o, .inr (10, [.long o_trace, w_o_text, .int o_typed, .int o_choices, .int o_worlds, .ref a_values, .int o_at, .int o_start, .int o_sort, .int o_value, .int o_fault, w_o_draft, .ref a_sayings, .ref a_leaves, w_o_signs, w_o_words, w_o_word, w_o_isKept, w_o_some, w_o_every, .int o_deep, .int o_many, w_o_length, w_o_found, .int o_foundMany])), (a_sayings, .inl (cI, 3, .inl f_sayings)), (a_leaves, .inl (cI, 24, .inl f_leaves))] H → va_D A [(a_values, .inl (cI, 3, .inl f_values)), (a_o, .inr (10, [.long o_trace, w_o_text, .int o_typed, .int o_choices, .int o_worlds, .ref a_values, .int o_at, .int o_start, .int o_sort, .int o_value, .int o_fault, w_o_draft, .ref a_sayings, .ref a_leaves, w_o_signs, w_o_words, w_o_word, w_o_isKept, w_o_some, w_o_every, .int o_deep, .int o_many, w_o_length, w_o_found, .int o_foundMany])), (a_sayings, .inl (cI, 3, .inl f_sayings)), (a_leaves, .inl (cI, 24, .inl f_leaves))] → va_S A s.heap H locs → lv_has ls 8 [(0, .ref a_o), (1, .int p1), (2, .int p2), (4, .int z_28), (5, .int x112_l5), (6, .int x44_l5)] → W p l e rmX11_common s m args below meth c H locs 0 0 Q (F0 m 112 ls []) := by
              intro x112_l5 H locs ls h hP hD hS hl
              rw [hk112] at h
              refine lv_goto (tgt := 44) hx hb dX11_common_112 (by decide) ?_
              exact ih44 x112_l5 x44_l5 H locs ls h hP hD hS hl
            have L58 : ∀ (n : Nat), ∀ (x58_l5 : Int32) (x58_l7 : Int32) (H : Heap) (locs : List Loc) (ls : Array Slot), P_X11_common_58 p1 p2 o_choices o_worlds f_values z_28 k112 n x58_l5 x58_l7 = some z → va_P D vwCl [(a_values, .inl (cI, 3, .inl f_values)), (a_o, .inr (10, [.long o_trace, w_o_text, .int o_typed, .int o_choices, .int o_worlds, .ref a_values, .int o_at, .int o_start, .int o_sort, .int o_value, .int o_fault, w_o_draft, .ref a_sayings, .ref a_leaves, w_o_signs, w_o_words, w_o_word, w_o_isKept, w_o_some, w_o_every, .int o_deep, .int o_many, w_o_length, w_o_found, .int o_foundMany])), (a_sayings, .inl (cI, 3, .inl f_sayings)), (a_leaves, .inl (cI, 24, .inl f_leaves))] H → va_D A [(a_values, .inl (cI, 3, .inl f_values)), (a_o, .inr (10, [.long o_trace, w_o_text, .int o_typed, .int o_choices, .int o_worlds, .ref a_values, .int o_at, .int o_start, .int o_sort, .int o_value, .int o_fault, w_o_draft, .ref a_sayings, .ref a_leaves, w_o_signs, w_o_words, w_o_word, w_o_isKept, w_o_some, w_o_every, .int o_deep, .int o_many, w_o_length, w_o_found, .int o_foundMany])), (a_sayings, .inl (cI, 3, .inl f_sayings)), (a_leaves, .inl (cI, 24, .inl f_leaves))] → va_S A s.heap H locs → lv_has ls 8 [(0, .ref a_o), (1, .int p1), (2, .int p2), (4, .int z_28), (5, .int x58_l5), (6, .int x44_l5), (7, .int x58_l7)] → W p l e rmX11_common s m args below meth c H locs 0 0 Q (F0 m 58 ls []) := by
              intro n
              induction n with
              | zero =>
                intro x58_l5 x58_l7 H locs ls h
                exact no_e h
              | succ n ih58 =>
                intro x58_l5 x58_l7 H locs ls h hP hD hS hl
                rw [P_X11_common_58] at h
                refine lv_iload hx hb dX11_common_58 (lv_at hl 6 rfl) ?_
                refine lv_aload_n hx hb dX11_common_60 rfl (lv_at hl 0 rfl) ?_
                refine va_get (D := D) (ci := 10) (v := .int o_worlds) (C := RX11) (T := TX11) (N := 25) hx hb hts u_X11 hown hK hP 1 rfl rfl 4 (by decide) k_f0 (fun _ h9 => h9) rfl dX11_common_61 ?_
                refine lv_icmp_ge (tgt := 112) hx hb dX11_common_64 (by decide) (fun c_64 => ?_) (fun c_64 => ?_)
                · replace h := it_e c_64 h
                  exact Jk112 x58_l5 H locs ls h hP hD hS (lv_sub hl [0, 1, 2, 3, 4, 5] rfl)
                · replace h := if_e c_64 h
                  refine lv_iload hx hb dX11_common_67 (lv_at hl 4 rfl) ?_
                  refine lv_iload hx hb dX11_common_69 (lv_at hl 4 rfl) ?_
                  refine lv_iload hx hb dX11_common_71 (lv_at hl 6 rfl) ?_
                  refine lv_ishr hx hb dX11_common_73 ?_
                  refine lv_iconst (v := 1) hx hb dX11_common_74 ic_1 ?_
                  refine lv_iand hx hb dX11_common_75 ?_
                  refine lv_iconst (v := 1) hx hb dX11_common_76 ic_1 ?_
                  obtain ⟨j103, hj103, h⟩ := jn_e h
                  have Jj103 : ∀ (x103_s1 : Int32) (H : Heap) (locs : List Loc) (ls : Array Slot), j103 x103_s1 = some z → va_P D vwCl [(a_values, .inl (cI, 3, .inl f_values)), (a_o, .inr (10, [.long o_trace, w_o_text, .int o_typed, .int o_choices, .int o_worlds, .ref a_values, .int o_at, .int o_start, .int o_sort, .int o_value, .int o_fault, w_o_draft, .ref a_sayings, .ref a_leaves, w_o_signs, w_o_words, w_o_word, w_o_isKept, w_o_some, w_o_every, .int o_deep, .int o_many, w_o_length, w_o_found, .int o_foundMany])), (a_sayings, .inl (cI, 3, .inl f_sayings)), (a_leaves, .inl (cI, 24, .inl f_leaves))] H → va_D A [(a_values, .inl (cI, 3, .inl f_values)), (a_o, .inr (10, [.long o_trace, w_o_text, .int o_typed, .int o_choices, .int o_worlds, .ref a_values, .int o_at, .int o_start, .int o_sort, .int o_value, .int o_fault, w_o_draft, .ref a_sayings, .ref a_leaves, w_o_signs, w_o_words, w_o_word, w_o_isKept, w_o_some, w_o_every, .int o_deep, .int o_many, w_o_length, w_o_found, .int o_foundMany])), (a_sayings, .inl (cI, 3, .inl f_sayings)), (a_leaves, .inl (cI, 24, .inl f_leaves))] → va_S A s.heap H locs → lv_has ls 8 [(0, .ref a_o), (1, .int p1), (2, .int p2), (4, .int z_28), (6, .int x44_l5), (7, .int x58_l7)] → W p l e rmX11_common s m args below meth c H locs 0 0 Q (F0 m 103 ls [.int x103_s1, .int x58_l5]) := by
                    intro x103_s1 H locs ls h hP hD hS hl
                    rw [hj103] at h
                    refine lv_ior hx hb dX11_common_103 ?_
                    refine lv_istore (lv' := [(5, .int (x58_l5 ||| x103_s1)), (0, .ref a_o), (1, .int p1), (2, .int p2), (4, .int z_28), (6, .int x44_l5), (7, .int x58_l7)]) hx hb dX11_common_104 hl (by decide) rfl (fun ls hl => ?_)
                    refine lv_iinc (v := x58_l7 + 1) (lv' := [(7, .int (x58_l7 + 1)), (5, .int (x58_l5 ||| x103_s1)), (0, .ref a_o), (1, .int p1), (2, .int p2), (4, .int z_28), (6, .int x44_l5)]) hx hb dX11_common_106 hl (k := 6) rfl (congrArg (x58_l7 + ·) ic_1) (by decide) rfl (fun ls hl => ?_)
                    refine lv_goto (tgt := 58) hx hb dX11_common_109 (by decide) ?_
                    exact ih58 (x58_l5 ||| x103_s1) (x58_l7 + 1) H locs ls h hP hD hS (lv_sub hl [2, 3, 4, 5, 1, 6, 0] rfl)
                  refine lv_icmp_ne (tgt := 102) hx hb dX11_common_77 (by decide) (fun c_77 => ?_) (fun c_77 => ?_)
                  · replace h := if_e c_77 h
                    refine lv_iconst (v := 0) hx hb dX11_common_102 ic_0 ?_
                    exact Jj103 0 H locs ls h hP hD hS (lv_sub hl [0, 1, 2, 3, 5, 6] rfl)
                  · replace h := it_e c_77 h
                    refine lv_aload_n hx hb dX11_common_80 rfl (lv_at hl 0 rfl) ?_
                    refine lv_iload_n hx hb dX11_common_81 rfl (lv_at hl 1 rfl) ?_
                    refine lv_iload hx hb dX11_common_82 (lv_at hl 6 rfl) ?_
                    refine lv_iload hx hb dX11_common_84 (lv_at hl 3 rfl) ?_
                    obtain ⟨z_86, hc_86, h⟩ := bd_e h
                    refine q_iV (As := [.int p1, .int x58_l7, .int z_28]) (rest := [.int x58_l5]) (wF := [(a_sayings, .inl (cI, 3, .inl f_sayings)), (a_leaves, .inl (cI, 24, .inl f_leaves)), (a_o, .inr (10, [.long o_trace, w_o_text, .int o_typed, .int o_choices, .int o_worlds, .ref a_values, .int o_at, .int o_start, .int o_sort, .int o_value, .int o_fault, w_o_draft, .ref a_sayings, .ref a_leaves, w_o_signs, w_o_words, w_o_word, w_o_isKept, w_o_some, w_o_every, .int o_deep, .int o_many, w_o_length, w_o_found, .int o_foundMany])), (a_values, .inl (cI, 3, .inl f_values))]) hF hA hZ hK hP hD hS (c_X11_alikeTo l D cI cB cZ a_o o_trace w_o_text o_typed o_choices o_worlds o_at o_start o_sort o_value o_fault w_o_draft (.ref a_sayings) (.ref a_leaves) w_o_signs w_o_words w_o_word w_o_isKept w_o_some w_o_every o_deep o_many w_o_length w_o_found o_foundMany a_values f_values p1 x58_l7 z_28 z_86 hc_86) rfl gX11_common_X11_alikeTo hdX11_alikeTo ⟨rfl, rfl⟩ (Nat.le_of_ble_eq_true rfl) (Nat.le_of_ble_eq_true rfl) 10 0 rfl rfl [1, 0] [2, 3] rfl rfl rfl rfl (by decide) rfl hl.1 rfl (Nat.le_of_ble_eq_true rfl) (Nat.zero_le _) (Nat.zero_le _) dX11_common_86 (fun H locs hP hD hS => ?_)
                    refine lv_aload_n hx hb dX11_common_89 rfl (lv_at hl 0 rfl) ?_
                    refine lv_iload_n hx hb dX11_common_90 rfl (lv_at hl 2 rfl) ?_
                    refine lv_iload hx hb dX11_common_91 (lv_at hl 6 rfl) ?_
                    refine lv_iload hx hb dX11_common_93 (lv_at hl 3 rfl) ?_
                    obtain ⟨z_95, hc_95, h⟩ := bd_e h
                    refine q_iV (As := [.int p2, .int x58_l7, .int z_28]) (rest := [.int z_86, .int x58_l5]) (wF := [(a_sayings, .inl (cI, 3, .inl f_sayings)), (a_leaves, .inl (cI, 24, .inl f_leaves)), (a_o, .inr (10, [.long o_trace, w_o_text, .int o_typed, .int o_choices, .int o_worlds, .ref a_values, .int o_at, .int o_start, .int o_sort, .int o_value, .int o_fault, w_o_draft, .ref a_sayings, .ref a_leaves, w_o_signs, w_o_words, w_o_word, w_o_isKept, w_o_some, w_o_every, .int o_deep, .int o_many, w_o_length, w_o_found, .int o_foundMany])), (a_values, .inl (cI, 3, .inl f_values))]) hF hA hZ hK hP hD hS (c_X11_alikeTo l D cI cB cZ a_o o_trace w_o_text o_typed o_choices o_worlds o_at o_start o_sort o_value o_fault w_o_draft (.ref a_sayings) (.ref a_leaves) w_o_signs w_o_words w_o_word w_o_isKept w_o_some w_o_every o_deep o_many w_o_length w_o_found o_foundMany a_values f_values p2 x58_l7 z_28 z_95 hc_95) rfl gX11_common_X11_alikeTo hdX11_alikeTo ⟨rfl, rfl⟩ (Nat.le_of_ble_eq_true rfl) (Nat.le_of_ble_eq_true rfl) 10 0 rfl rfl [2, 3] [0, 1] rfl rfl rfl rfl (by decide) rfl hl.1 rfl (Nat.le_of_ble_eq_true rfl) (Nat.zero_le _) (Nat.zero_le _) dX11_common_95 (fun H locs hP hD hS => ?_)
                    refine lv_ior hx hb dX11_common_98 ?_
                    refine lv_goto (tgt := 103) hx hb dX11_common_99 (by decide) ?_
                    exact Jj103 (z_86 ||| z_95) H locs ls h (hP.sub [3, 2, 0, 1] rfl) (hD.sub [3, 2, 0, 1] (by decide) rfl) hS (lv_sub hl [0, 1, 2, 3, 5, 6] rfl)
            exact L58 QF x44_l5 0 H locs ls h hP hD hS (lv_sub hl [2, 3, 4, 5, 6, 1, 0] rfl)
      exact L44 QF (z_28 &&& (1 <<< (p3 &&& 31))) (-1) H locs ls h hP hD hS (lv_sub hl [3, 4, 5, 2, 1, 0] rfl)
    · replace h := it_e c_20 h
      refine lv_iconst (v := (-1)) hx hb dX11_common_23 ic_m1 ?_
      have hz := Option.some.inj h
      subst hz
      exact hret H locs 24 ls (fun ty h => by cases h; rfl) (hP.sub [3, 0, 1, 2] rfl) (hD.sub [3, 0, 1, 2] (by decide) rfl) hS dX11_common_24
abbrev rmX11_knows : Room := { frames := 2, cells := 0, slots := 0, locals := 51 }
theorem hdX11_knows : yX11_knows.cls = RX11 ∧ yX11_knows.cls ≠ "java/lang/invoke/MethodHandle" ∧ yX11_knows.cls ≠ "java/lang/invoke/VarHandle" ∧ (parseMethodDescriptor yX11_knows.desc).map (fun d => d.parameters.length) = some 3 := by decide +kernel
set_option maxRecDepth 100000 in
set_option maxHeartbeats 4000000 in
theorem c_X11_knows (l : Launch) (D : va_G) (cI cB cZ : ClassId) (a_o : Nat) (o_trace : Int64) (w_o_text : Value) (o_typed : Int32) (o_choices : Int32) (o_worlds : Int32) (o_at : Int32) (o_start : Int32) (o_sort : Int32) (o_value : Int32) (o_fault : Int32) (w_o_draft : Value) (w_o_sayings : Value) (w_o_leaves : Value) (w_o_signs : Value) (w_o_words : Value) (w_o_word : Value) (w_o_isKept : Value) (w_o_some : Value) (w_o_every : Value) (o_deep : Int32) (o_many : Int32) (w_o_length : Value) (w_o_found : Value) (o_foundMany : Int32) (a_values : Nat) (f_values : Nat → Int32) (p1 : Int32) (p2 : Int32) (p3 : Int32) (z : Int32) (h : P_X11_knows p1 p2 p3 o_choices o_worlds f_values = some z) : KI l yX11_knows wsX11_knows rmX11_knows D [(cI, .int), (cB, .byte), (cZ, .boolean)] [.ref a_o, .int p1, .int p2, .int p3] [(a_o, .inr (10, [.long o_trace, w_o_text, .int o_typed, .int o_choices, .int o_worlds, .ref a_values, .int o_at, .int o_start, .int o_sort, .int o_value, .int o_fault, w_o_draft, w_o_sayings, w_o_leaves, w_o_signs, w_o_words, w_o_word, w_o_isKept, w_o_some, w_o_every, .int o_deep, .int o_many, w_o_length, w_o_found, .int o_foundMany])), (a_values, .inl (cI, 3, .inl f_values))] [(a_o, .inr (10, [.long o_trace, w_o_text, .int o_typed, .int o_choices, .int o_worlds, .ref a_values, .int o_at, .int o_start, .int o_sort, .int o_value, .int o_fault, w_o_draft, w_o_sayings, w_o_leaves, w_o_signs, w_o_words, w_o_word, w_o_isKept, w_o_some, w_o_every, .int o_deep, .int o_many, w_o_length, w_o_found, .int o_foundMany])), (a_values, .inl (cI, 3, .inl f_values))] z := by
  refine KI_of (own := RX11) (cc := cX11_knows) (maxL := 4) (ret := some .boolean) (by decide) rfl rfl (Nat.le_of_ble_eq_true rfl) (Or.inr rfl) ?_
  intro p e s m args below meth c A Q hx hb hml hown hts hA hZ hK hret H locs ls hP hD hS hl
  have hl : lv_has ls 4 [(0, .ref a_o), (1, .int p1), (2, .int p2), (3, .int p3)] := hl
  have hF : CallFix p m c cX11_knows 4 s args wsX11_knows RX11 := ⟨hx, hb, hml, hown, hts⟩
  unfold P_X11_knows at h
  refine lv_aload_n hx hb dX11_knows_0 rfl (lv_at hl 0 rfl) ?_
  refine lv_iload_n hx hb dX11_knows_1 rfl (lv_at hl 1 rfl) ?_
  refine lv_iload_n hx hb dX11_knows_2 rfl (lv_at hl 2 rfl) ?_
  refine lv_iload_n hx hb dX11_knows_3 rfl (lv_at hl 3 rfl) ?_
  obtain ⟨z_4, hc_4, h⟩ := bd_e h
  refine q_iV (As := [.int p1, .int p2, .int p3]) (rest := []) (wF := [(a_o, .inr (10, [.long o_trace, w_o_text, .int o_typed, .int o_choices, .int o_worlds, .ref a_values, .int o_at, .int o_start, .int o_sort, .int o_value, .int o_fault, w_o_draft, w_o_sayings, w_o_leaves, w_o_signs, w_o_words, w_o_word, w_o_isKept, w_o_some, w_o_every, .int o_deep, .int o_many, w_o_length, w_o_found, .int o_foundMany])), (a_values, .inl (cI, 3, .inl f_values))]) hF hA hZ hK hP hD hS (c_X11_alikeTo l D cI cB cZ a_o o_trace w_o_text o_typed o_choices o_worlds o_at o_start o_sort o_value o_fault w_o_draft w_o_sayings w_o_leaves w_o_signs w_o_words w_o_word w_o_isKept w_o_some w_o_every o_deep o_many w_o_length w_o_found o_foundMany a_values f_values p1 p2 p3 z_4 hc_4) rfl gX11_knows_X11_alikeTo hdX11_alikeTo ⟨rfl, rfl⟩ (Nat.le_of_ble_eq_true rfl) (Nat.le_of_ble_eq_true rfl) 10 0 rfl rfl [0, 1] [] rfl rfl rfl rfl (by decide) rfl hl.1 rfl (Nat.le_of_ble_eq_true rfl) (Nat.zero_le _) (Nat.zero_le _) dX11_knows_4 (fun H locs hP hD hS => ?_)
  refine lv_iconst (v := 1) hx hb dX11_knows_7 ic_1 ?_
  refine lv_iload_n hx hb dX11_knows_8 rfl (lv_at hl 2 rfl) ?_
  refine lv_ishl hx hb dX11_knows_9 ?_
  refine lv_icmp_ne (tgt := 17) hx hb dX11_knows_10 (by decide) (fun c_10 => ?_) (fun c_10 => ?_)
  · replace h := if_e c_10 h
    refine lv_iconst (v := 0) hx hb dX11_knows_17 ic_0 ?_
    have hz := Option.some.inj h
    subst hz
    exact hret H locs 18 ls (fun ty h => by cases h; exact nar_0) hP hD hS dX11_knows_18
  · replace h := it_e c_10 h
    refine lv_iconst (v := 1) hx hb dX11_knows_13 ic_1 ?_
    refine lv_goto (tgt := 18) hx hb dX11_knows_14 (by decide) ?_
    have hz := Option.some.inj h
    subst hz
    exact hret H locs 18 ls (fun ty h => by cases h; exact nar_1) hP hD hS dX11_knows_18
abbrev rmX11_silent : Room := { frames := 3, cells := 0, slots := 0, locals := 74 }
theorem hdX11_silent : yX11_silent.cls = RX11 ∧ yX11_silent.cls ≠ "java/lang/invoke/MethodHandle" ∧ yX11_silent.cls ≠ "java/lang/invoke/VarHandle" ∧ (parseMethodDescriptor yX11_silent.desc).map (fun d => d.parameters.length) = some 2 := by decide +kernel
set_option maxRecDepth 100000 in
set_option maxHeartbeats 4000000 in
theorem c_X11_silent (l : Launch) (D : va_G) (cI cB cZ : ClassId) (a_o : Nat) (o_trace : Int64) (w_o_text : Value) (o_typed : Int32) (o_choices : Int32) (o_worlds : Int32) (o_at : Int32) (o_start : Int32) (o_sort : Int32) (o_value : Int32) (o_fault : Int32) (w_o_draft : Value) (w_o_sayings : Value) (w_o_leaves : Value) (w_o_signs : Value) (w_o_words : Value) (w_o_word : Value) (w_o_isKept : Value) (w_o_some : Value) (w_o_every : Value) (o_deep : Int32) (o_many : Int32) (w_o_length : Value) (w_o_found : Value) (o_foundMany : Int32) (a_values : Nat) (f_values : Nat → Int32) (p1 : Int32) (p2 : Int32) (z : Int32) (h : P_X11_silent p1 p2 o_choices o_worlds f_values = some z) : KI l yX11_silent wsX11_silent rmX11_silent D [(cI, .int), (cB, .byte), (cZ, .boolean)] [.ref a_o, .int p1, .int p2] [(a_o, .inr (10, [.long o_trace, w_o_text, .int o_typed, .int o_choices, .int o_worlds, .ref a_values, .int o_at, .int o_start, .int o_sort, .int o_value, .int o_fault, w_o_draft, w_o_sayings, w_o_leaves, w_o_signs, w_o_words, w_o_word, w_o_isKept, w_o_some, w_o_every, .int o_deep, .int o_many, w_o_length, w_o_found, .int o_foundMany])), (a_values, .inl (cI, 3, .inl f_values))] [(a_o, .inr (10, [.long o_trace, w_o_text, .int o_typed, .int o_choices, .int o_worlds, .ref a_values, .int o_at, .int o_start, .int o_sort, .int o_value, .int o_fault, w_o_draft, w_o_sayings, w_o_leaves, w_o_signs, w_o_words, w_o_word, w_o_isKept, w_o_some, w_o_every, .int o_deep, .int o_many, w_o_length, w_o_found, .int o_foundMany])), (a_values, .inl (cI, 3, .inl f_values))] z := by
  refine KI_of (own := RX11) (cc := cX11_silent) (maxL := 5) (ret := some .int) (by decide) rfl rfl (Nat.le_of_ble_eq_true rfl) (Or.inl rfl) ?_
  intro p e s m args below meth c A Q hx hb hml hown hts hA hZ hK hret H locs ls hP hD hS hl
  have hl : lv_has ls 5 [(0, .ref a_o), (1, .int p1), (2, .int p2)] := hl
  have hF : CallFix p m c cX11_silent 5 s args wsX11_silent RX11 := ⟨hx, hb, hml, hown, hts⟩
  have u_X11 : ∀ w ∈ u_ws RX11 TX11 25, w ∈ wsX11_silent := by decide +kernel
  have k_f0 := hts (.fieldLink RX11 51 "NoWordNoModel" "worlds" "I") (by decide +kernel)
  unfold P_X11_silent at h
  refine lv_iload_n hx hb dX11_silent_0 rfl (lv_at hl 2 rfl) ?_
  refine lv_istore_n (lv' := [(3, .int p2), (0, .ref a_o), (1, .int p1), (2, .int p2)]) hx hb dX11_silent_1 rfl hl (by decide) rfl (fun ls hl => ?_)
  refine lv_iconst (v := 0) hx hb dX11_silent_2 ic_0 ?_
  refine lv_istore (lv' := [(4, .int 0), (3, .int p2), (0, .ref a_o), (1, .int p1), (2, .int p2)]) hx hb dX11_silent_3 hl (by decide) rfl (fun ls hl => ?_)
  have L5 : ∀ (n : Nat), ∀ (x5_l3 : Int32) (x5_l4 : Int32) (H : Heap) (locs : List Loc) (ls : Array Slot), P_X11_silent_5 p1 p2 o_choices o_worlds f_values n x5_l3 x5_l4 = some z → va_P D vwCl [(a_o, .inr (10, [.long o_trace, w_o_text, .int o_typed, .int o_choices, .int o_worlds, .ref a_values, .int o_at, .int o_start, .int o_sort, .int o_value, .int o_fault, w_o_draft, w_o_sayings, w_o_leaves, w_o_signs, w_o_words, w_o_word, w_o_isKept, w_o_some, w_o_every, .int o_deep, .int o_many, w_o_length, w_o_found, .int o_foundMany])), (a_values, .inl (cI, 3, .inl f_values))] H → va_D A [(a_o, .inr (10, [.long o_trace, w_o_text, .int o_typed, .int o_choices, .int o_worlds, .ref a_values, .int o_at, .int o_start, .int o_sort, .int o_value, .int o_fault, w_o_draft, w_o_sayings, w_o_leaves, w_o_signs, w_o_words, w_o_word, w_o_isKept, w_o_some, w_o_every, .int o_deep, .int o_many, w_o_length, w_o_found, .int o_foundMany])), (a_values, .inl (cI, 3, .inl f_values))] → va_S A s.heap H locs → lv_has ls 5 [(0, .ref a_o), (1, .int p1), (2, .int p2), (3, .int x5_l3), (4, .int x5_l4)] → W p l e rmX11_silent s m args below meth c H locs 0 0 Q (F0 m 5 ls []) := by
    intro n
    induction n with
    | zero =>
      intro x5_l3 x5_l4 H locs ls h
      exact no_e h
    | succ n ih5 =>
      intro x5_l3 x5_l4 H locs ls h hP hD hS hl
      rw [P_X11_silent_5] at h
      refine lv_iload hx hb dX11_silent_5 (lv_at hl 4 rfl) ?_
      refine lv_aload_n hx hb dX11_silent_7 rfl (lv_at hl 0 rfl) ?_
      refine va_get (D := D) (ci := 10) (v := .int o_worlds) (C := RX11) (T := TX11) (N := 25) hx hb hts u_X11 hown hK hP 0 rfl rfl 4 (by decide) k_f0 (fun _ h9 => h9) rfl dX11_silent_8 ?_
      refine lv_icmp_ge (tgt := 54) hx hb dX11_silent_11 (by decide) (fun c_11 => ?_) (fun c_11 => ?_)
      · replace h := it_e c_11 h
        refine lv_iload_n hx hb dX11_silent_54 rfl (lv_at hl 3 rfl) ?_
        have hz := Option.some.inj h
        subst hz
        exact hret H locs 55 ls (fun ty h => by cases h; rfl) hP hD hS dX11_silent_55
      · replace h := if_e c_11 h
        refine lv_iload_n hx hb dX11_silent_14 rfl (lv_at hl 3 rfl) ?_
        refine lv_iload_n hx hb dX11_silent_15 rfl (lv_at hl 2 rfl) ?_
        refine lv_iload hx hb dX11_silent_16 (lv_at hl 4 rfl) ?_
        refine lv_ishr hx hb dX11_silent_18 ?_
        refine lv_iconst (v := 1) hx hb dX11_silent_19 ic_1 ?_
        refine lv_iand hx hb dX11_silent_20 ?_
        refine lv_iconst (v := 1) hx hb dX11_silent_21 ic_1 ?_
        obtain ⟨j45, hj45, h⟩ := jn_e h
        have Jj45 : ∀ (H : Heap) (locs : List Loc) (ls : Array Slot), j45 () = some z → va_P D vwCl [(a_o, .inr (10, [.long o_trace, w_o_text, .int o_typed, .int o_choices, .int o_worlds, .ref a_values, .int o_at, .int o_start, .int o_sort, .int o_value, .int o_fault, w_o_draft, w_o_sayings, w_o_leaves, w_o_signs, w_o_words, w_o_word, w_o_isKept, w_o_some, w_o_every, .int o_deep, .int o_many, w_o_length, w_o_found, .int o_foundMany])), (a_values, .inl (cI, 3, .inl f_values))] H → va_D A [(a_o, .inr (10, [.long o_trace, w_o_text, .int o_typed, .int o_choices, .int o_worlds, .ref a_values, .int o_at, .int o_start, .int o_sort, .int o_value, .int o_fault, w_o_draft, w_o_sayings, w_o_leaves, w_o_signs, w_o_words, w_o_word, w_o_isKept, w_o_some, w_o_every, .int o_deep, .int o_many, w_o_length, w_o_found, .int o_foundMany])), (a_values, .inl (cI, 3, .inl f_values))] → va_S A s.heap H locs → lv_has ls 5 [(0, .ref a_o), (1, .int p1), (2, .int p2), (4, .int x5_l4)] → W p l e rmX11_silent s m args below meth c H locs 0 0 Q (F0 m 45 ls [.int x5_l3]) := by
          intro H locs ls h hP hD hS hl
          rw [hj45] at h
          refine lv_iconst (v := (-1)) hx hb dX11_silent_45 ic_m1 ?_
          refine lv_iand hx hb dX11_silent_46 ?_
          refine lv_istore_n (lv' := [(3, .int (x5_l3 &&& (-1))), (0, .ref a_o), (1, .int p1), (2, .int p2), (4, .int x5_l4)]) hx hb dX11_silent_47 rfl hl (by decide) rfl (fun ls hl => ?_)
          refine lv_iinc (v := x5_l4 + 1) (lv' := [(4, .int (x5_l4 + 1)), (3, .int (x5_l3 &&& (-1))), (0, .ref a_o), (1, .int p1), (2, .int p2)]) hx hb dX11_silent_48 hl (k := 4) rfl (congrArg (x5_l4 + ·) ic_1) (by decide) rfl (fun ls hl => ?_)
          refine lv_goto (tgt := 5) hx hb dX11_silent_51 (by decide) ?_
          exact ih5 (x5_l3 &&& (-1)) (x5_l4 + 1) H locs ls h hP hD hS (lv_sub hl [2, 3, 4, 1, 0] rfl)
        obtain ⟨j46, hj46, h⟩ := jn_e h
        have Jj46 : ∀ (x46_s1 : Int32) (H : Heap) (locs : List Loc) (ls : Array Slot), j46 x46_s1 = some z → va_P D vwCl [(a_o, .inr (10, [.long o_trace, w_o_text, .int o_typed, .int o_choices, .int o_worlds, .ref a_values, .int o_at, .int o_start, .int o_sort, .int o_value, .int o_fault, w_o_draft, w_o_sayings, w_o_leaves, w_o_signs, w_o_words, w_o_word, w_o_isKept, w_o_some, w_o_every, .int o_deep, .int o_many, w_o_length, w_o_found, .int o_foundMany])), (a_values, .inl (cI, 3, .inl f_values))] H → va_D A [(a_o, .inr (10, [.long o_trace, w_o_text, .int o_typed, .int o_choices, .int o_worlds, .ref a_values, .int o_at, .int o_start, .int o_sort, .int o_value, .int o_fault, w_o_draft, w_o_sayings, w_o_leaves, w_o_signs, w_o_words, w_o_word, w_o_isKept, w_o_some, w_o_every, .int o_deep, .int o_many, w_o_length, w_o_found, .int o_foundMany])), (a_values, .inl (cI, 3, .inl f_values))] → va_S A s.heap H locs → lv_has ls 5 [(0, .ref a_o), (1, .int p1), (2, .int p2), (4, .int x5_l4)] → W p l e rmX11_silent s m args below meth c H locs 0 0 Q (F0 m 46 ls [.int x46_s1, .int x5_l3]) := by
          intro x46_s1 H locs ls h hP hD hS hl
          rw [hj46] at h
          refine lv_iand hx hb dX11_silent_46 ?_
          refine lv_istore_n (lv' := [(3, .int (x5_l3 &&& x46_s1)), (0, .ref a_o), (1, .int p1), (2, .int p2), (4, .int x5_l4)]) hx hb dX11_silent_47 rfl hl (by decide) rfl (fun ls hl => ?_)
          refine lv_iinc (v := x5_l4 + 1) (lv' := [(4, .int (x5_l4 + 1)), (3, .int (x5_l3 &&& x46_s1)), (0, .ref a_o), (1, .int p1), (2, .int p2)]) hx hb dX11_silent_48 hl (k := 4) rfl (congrArg (x5_l4 + ·) ic_1) (by decide) rfl (fun ls hl => ?_)
          refine lv_goto (tgt := 5) hx hb dX11_silent_51 (by decide) ?_
          exact ih5 (x5_l3 &&& x46_s1) (x5_l4 + 1) H locs ls h hP hD hS (lv_sub hl [2, 3, 4, 1, 0] rfl)
        refine lv_icmp_ne (tgt := 45) hx hb dX11_silent_22 (by decide) (fun c_22 => ?_) (fun c_22 => ?_)
        · replace h := if_e c_22 h
          exact Jj45  H locs ls h hP hD hS (lv_sub hl [0, 1, 2, 4] rfl)
        · replace h := it_e c_22 h
          refine lv_aload_n hx hb dX11_silent_25 rfl (lv_at hl 0 rfl) ?_
          refine lv_iload_n hx hb dX11_silent_26 rfl (lv_at hl 1 rfl) ?_
          refine lv_iload hx hb dX11_silent_27 (lv_at hl 4 rfl) ?_
          refine lv_iload_n hx hb dX11_silent_29 rfl (lv_at hl 2 rfl) ?_
          obtain ⟨z_30, hc_30, h⟩ := bd_e h
          refine q_iV (As := [.int p1, .int x5_l4, .int p2]) (rest := [.int x5_l3]) (wF := [(a_o, .inr (10, [.long o_trace, w_o_text, .int o_typed, .int o_choices, .int o_worlds, .ref a_values, .int o_at, .int o_start, .int o_sort, .int o_value, .int o_fault, w_o_draft, w_o_sayings, w_o_leaves, w_o_signs, w_o_words, w_o_word, w_o_isKept, w_o_some, w_o_every, .int o_deep, .int o_many, w_o_length, w_o_found, .int o_foundMany])), (a_values, .inl (cI, 3, .inl f_values))]) hF hA hZ hK hP hD hS (c_X11_knows l D cI cB cZ a_o o_trace w_o_text o_typed o_choices o_worlds o_at o_start o_sort o_value o_fault w_o_draft w_o_sayings w_o_leaves w_o_signs w_o_words w_o_word w_o_isKept w_o_some w_o_every o_deep o_many w_o_length w_o_found o_foundMany a_values f_values p1 x5_l4 p2 z_30 hc_30) rfl gX11_silent_X11_knows hdX11_knows ⟨rfl, rfl⟩ (Nat.le_of_ble_eq_true rfl) (Nat.le_of_ble_eq_true rfl) 10 0 rfl rfl [0, 1] [] rfl rfl rfl rfl (by decide) rfl hl.1 rfl (Nat.le_of_ble_eq_true rfl) (Nat.zero_le _) (Nat.zero_le _) dX11_silent_30 (fun H locs hP hD hS => ?_)
          refine lv_if_eq (tgt := 45) hx hb dX11_silent_33 (by decide) (fun c_33 => ?_) (fun c_33 => ?_)
          · replace h := it_e c_33 h
            exact Jj45  H locs ls h hP hD hS (lv_sub hl [0, 1, 2, 4] rfl)
          · replace h := if_e c_33 h
            refine lv_iconst (v := 1) hx hb dX11_silent_36 ic_1 ?_
            refine lv_iload hx hb dX11_silent_37 (lv_at hl 4 rfl) ?_
            refine lv_ishl hx hb dX11_silent_39 ?_
            refine lv_iconst (v := (-1)) hx hb dX11_silent_40 ic_m1 ?_
            refine lv_ixor hx hb dX11_silent_41 ?_
            refine lv_goto (tgt := 46) hx hb dX11_silent_42 (by decide) ?_
            exact Jj46 ((1 <<< (x5_l4 &&& 31)) ^^^ (-1)) H locs ls h hP hD hS (lv_sub hl [0, 1, 2, 4] rfl)
  exact L5 QF p2 0 H locs ls h hP hD hS (lv_sub hl [2, 3, 4, 1, 0] rfl)
abbrev rmX11_talk : Room := { frames := 4, cells := 0, slots := 0, locals := 98 }
theorem hdX11_talk : yX11_talk.cls = RX11 ∧ yX11_talk.cls ≠ "java/lang/invoke/MethodHandle" ∧ yX11_talk.cls ≠ "java/lang/invoke/VarHandle" ∧ (parseMethodDescriptor yX11_talk.desc).map (fun d => d.parameters.length) = some 3 := by decide +kernel
set_option maxRecDepth 100000 in
set_option maxHeartbeats 4000000 in
theorem c_X11_talk (l : Launch) (D : va_G) (cI cB cZ : ClassId) (a_o : Nat) (o_trace : Int64) (w_o_text : Value) (o_typed : Int32) (o_choices : Int32) (o_worlds : Int32) (o_at : Int32) (o_start : Int32) (o_sort : Int32) (o_value : Int32) (o_fault : Int32) (w_o_draft : Value) (w_o_signs : Value) (w_o_words : Value) (w_o_word : Value) (w_o_isKept : Value) (w_o_some : Value) (w_o_every : Value) (o_deep : Int32) (o_many : Int32) (w_o_length : Value) (w_o_found : Value) (o_foundMany : Int32) (a_values : Nat) (f_values : Nat → Int32) (a_sayings : Nat) (f_sayings : Nat → Int32) (a_leaves : Nat) (f_leaves : Nat → Int32) (p1 : Int32) (p2 : Int32) (p3 : Int32) (z : Int32) (h : P_X11_talk p1 p2 p3 o_choices o_worlds f_values f_sayings f_leaves = some z) : KI l yX11_talk wsX11_talk rmX11_talk D [(cI, .int), (cB, .byte), (cZ, .boolean)] [.ref a_o, .int p1, .int p2, .int p3] [(a_o, .inr (10, [.long o_trace, w_o_text, .int o_typed, .int o_choices, .int o_worlds, .ref a_values, .int o_at, .int o_start, .int o_sort, .int o_value, .int o_fault, w_o_draft, .ref a_sayings, .ref a_leaves, w_o_signs, w_o_words, w_o_word, w_o_isKept, w_o_some, w_o_every, .int o_deep, .int o_many, w_o_length, w_o_found, .int o_foundMany])), (a_values, .inl (cI, 3, .inl f_values)), (a_sayings, .inl (cI, 3, .inl f_sayings)), (a_leaves, .inl (cI, 24, .inl f_leaves))] [(a_o, .inr (10, [.long o_trace, w_o_text, .int o_typed, .int o_choices, .int o_worlds, .ref a_values, .int o_at, .int o_start, .int o_sort, .int o_value, .int o_fault, w_o_draft, .ref a_sayings, .ref a_leaves, w_o_signs, w_o_words, w_o_word, w_o_isKept, w_o_some, w_o_every, .int o_deep, .int o_many, w_o_length, w_o_found, .int o_foundMany])), (a_values, .inl (cI, 3, .inl f_values)), (a_sayings, .inl (cI, 3, .inl f_sayings)), (a_leaves, .inl (cI, 24, .inl f_leaves))] z := by
  refine KI_of (own := RX11) (cc := cX11_talk) (maxL := 7) (ret := some .int) (by decide) rfl rfl (Nat.le_of_ble_eq_true rfl) (Or.inl rfl) ?_
  intro p e s m args below meth c A Q hx hb hml hown hts hA hZ hK hret H locs ls hP hD hS hl
  have hl : lv_has ls 7 [(0, .ref a_o), (1, .int p1), (2, .int p2), (3, .int p3)] := hl
  have hF : CallFix p m c cX11_talk 7 s args wsX11_talk RX11 := ⟨hx, hb, hml, hown, hts⟩
  have u_X11 : ∀ w ∈ u_ws RX11 TX11 25, w ∈ wsX11_talk := by decide +kernel
  have k_f0 := hts (.fieldLink RX11 51 "NoWordNoModel" "worlds" "I") (by decide +kernel)
  unfold P_X11_talk at h
  refine lv_aload_n hx hb dX11_talk_0 rfl (lv_at hl 0 rfl) ?_
  refine lv_iload_n hx hb dX11_talk_1 rfl (lv_at hl 1 rfl) ?_
  refine lv_iload_n hx hb dX11_talk_2 rfl (lv_at hl 2 rfl) ?_
  obtain ⟨z_3, hc_3, h⟩ := bd_e h
  refine q_iV (As := [.int p1, .int p2]) (rest := []) (wF := [(a_values, .inl (cI, 3, .inl f_values)), (a_sayings, .inl (cI, 3, .inl f_sayings)), (a_leaves, .inl (cI, 24, .inl f_leaves)), (a_o, .inr (10, [.long o_trace, w_o_text, .int o_typed, .int o_choices, .int o_worlds, .ref a_values, .int o_at, .int o_start, .int o_sort, .int o_value, .int o_fault, w_o_draft, .ref a_sayings, .ref a_leaves, w_o_signs, w_o_words, w_o_word, w_o_isKept, w_o_some, w_o_every, .int o_deep, .int o_many, w_o_length, w_o_found, .int o_foundMany]))]) hF hA hZ hK hP hD hS (c_X11_isSeen l D cI cB cZ a_o o_trace w_o_text o_typed o_choices o_worlds (.ref a_values) o_at o_start o_sort o_value o_fault w_o_draft (.ref a_sayings) (.ref a_leaves) w_o_signs w_o_words w_o_word w_o_isKept w_o_some w_o_every o_deep o_many w_o_length w_o_found o_foundMany p1 p2 z_3 hc_3) rfl gX11_talk_X11_isSeen hdX11_isSeen ⟨rfl, rfl⟩ (Nat.le_of_ble_eq_true rfl) (Nat.le_of_ble_eq_true rfl) 10 0 rfl rfl [0] [1, 2, 3] rfl rfl rfl rfl (by decide) rfl hl.1 rfl (Nat.le_of_ble_eq_true rfl) (Nat.zero_le _) (Nat.zero_le _) dX11_talk_3 (fun H locs hP hD hS => ?_)
  refine lv_if_eq (tgt := 23) hx hb dX11_talk_6 (by decide) (fun c_6 => ?_) (fun c_6 => ?_)
  · replace h := it_e c_6 h
    refine lv_iconst (v := (-1)) hx hb dX11_talk_23 ic_m1 ?_
    have hz := Option.some.inj h
    subst hz
    exact hret H locs 24 ls (fun ty h => by cases h; rfl) (hP.sub [3, 0, 1, 2] rfl) (hD.sub [3, 0, 1, 2] (by decide) rfl) hS dX11_talk_24
  · replace h := if_e c_6 h
    refine lv_iload_n hx hb dX11_talk_9 rfl (lv_at hl 3 rfl) ?_
    refine lv_iconst (v := 0) hx hb dX11_talk_10 ic_0 ?_
    refine lv_aload_n hx hb dX11_talk_11 rfl (lv_at hl 0 rfl) ?_
    refine va_get (D := D) (ci := 10) (v := .int o_worlds) (C := RX11) (T := TX11) (N := 25) hx hb hts u_X11 hown hK hP 3 rfl rfl 4 (by decide) k_f0 (fun _ h9 => h9) rfl dX11_talk_12 ?_
    refine lv_iconst (v := 1) hx hb dX11_talk_15 ic_1 ?_
    refine lv_isub hx hb dX11_talk_16 ?_
    obtain ⟨z_17, hc_17, h⟩ := bd_e h
    refine q_iS (As := [.int p3, .int 0, .int (o_worlds - 1)]) (rest := []) (wF := [(a_values, .inl (cI, 3, .inl f_values)), (a_sayings, .inl (cI, 3, .inl f_sayings)), (a_leaves, .inl (cI, 24, .inl f_leaves)), (a_o, .inr (10, [.long o_trace, w_o_text, .int o_typed, .int o_choices, .int o_worlds, .ref a_values, .int o_at, .int o_start, .int o_sort, .int o_value, .int o_fault, w_o_draft, .ref a_sayings, .ref a_leaves, w_o_signs, w_o_words, w_o_word, w_o_isKept, w_o_some, w_o_every, .int o_deep, .int o_many, w_o_length, w_o_found, .int o_foundMany]))]) hF hA hZ hK hP hD hS (c_X11_in l D cI cB cZ p3 0 (o_worlds - 1) z_17 hc_17) rfl gX11_talk_X11_in hdX11_in ⟨rfl, rfl⟩ (Nat.le_of_ble_eq_true rfl) (Nat.le_of_ble_eq_true rfl) [] [0, 1, 2, 3] rfl rfl rfl rfl (by decide) rfl hl.1 rfl (Nat.le_of_ble_eq_true rfl) (Nat.zero_le _) (Nat.zero_le _) dX11_talk_17 (fun H locs hP hD hS => ?_)
    refine lv_if_ne (tgt := 25) hx hb dX11_talk_20 (by decide) (fun c_20 => ?_) (fun c_20 => ?_)
    · replace h := if_e c_20 h
      refine lv_aload_n hx hb dX11_talk_25 rfl (lv_at hl 0 rfl) ?_
      refine lv_bipush (v := (-9)) hx hb dX11_talk_26 bc_m9 ?_
      obtain ⟨z_28, hc_28, h⟩ := bd_e h
      refine q_iV (As := [.int (-9)]) (rest := []) (wF := [(a_values, .inl (cI, 3, .inl f_values)), (a_o, .inr (10, [.long o_trace, w_o_text, .int o_typed, .int o_choices, .int o_worlds, .ref a_values, .int o_at, .int o_start, .int o_sort, .int o_value, .int o_fault, w_o_draft, .ref a_sayings, .ref a_leaves, w_o_signs, w_o_words, w_o_word, w_o_isKept, w_o_some, w_o_every, .int o_deep, .int o_many, w_o_length, w_o_found, .int o_foundMany])), (a_sayings, .inl (cI, 3, .inl f_sayings)), (a_leaves, .inl (cI, 24, .inl f_leaves))]) hF hA hZ hK hP hD hS (c_X11_contractBut l D cI cB cZ a_o o_trace w_o_text o_typed o_choices o_worlds (.ref a_values) o_at o_start o_sort o_value o_fault w_o_draft w_o_signs w_o_words w_o_word w_o_isKept w_o_some w_o_every o_deep o_many w_o_length w_o_found o_foundMany a_sayings f_sayings a_leaves f_leaves (-9) z_28 hc_28) rfl gX11_talk_X11_contractBut hdX11_contractBut ⟨rfl, rfl⟩ (Nat.le_of_ble_eq_true rfl) (Nat.le_of_ble_eq_true rfl) 10 0 rfl rfl [3, 1, 2] [0] rfl rfl rfl rfl (by decide) rfl hl.1 rfl (Nat.le_of_ble_eq_true rfl) (Nat.zero_le _) (Nat.zero_le _) dX11_talk_28 (fun H locs hP hD hS => ?_)
      refine lv_istore (lv' := [(4, .int z_28), (0, .ref a_o), (1, .int p1), (2, .int p2), (3, .int p3)]) hx hb dX11_talk_31 hl (by decide) rfl (fun ls hl => ?_)
      refine lv_iload hx hb dX11_talk_33 (lv_at hl 0 rfl) ?_
      refine lv_iload_n hx hb dX11_talk_35 rfl (lv_at hl 4 rfl) ?_
      refine lv_ishr hx hb dX11_talk_36 ?_
      refine lv_iconst (v := 1) hx hb dX11_talk_37 ic_1 ?_
      refine lv_iand hx hb dX11_talk_38 ?_
      refine lv_if_ne (tgt := 45) hx hb dX11_talk_39 (by decide) (fun c_39 => ?_) (fun c_39 => ?_)
      · replace h := if_e c_39 h
        refine lv_iconst (v := 1) hx hb dX11_talk_45 ic_1 ?_
        refine lv_istore (lv' := [(5, .int 1), (4, .int z_28), (0, .ref a_o), (1, .int p1), (2, .int p2), (3, .int p3)]) hx hb dX11_talk_46 hl (by decide) rfl (fun ls hl => ?_)
        have L48 : ∀ (n : Nat), ∀ (x48_l4 : Int32) (x48_l5 : Int32) (H : Heap) (locs : List Loc) (ls : Array Slot), P_X11_talk_48 p1 p2 p3 o_choices o_worlds f_values n x48_l4 x48_l5 = some z → va_P D vwCl [(a_values, .inl (cI, 3, .inl f_values)), (a_o, .inr (10, [.long o_trace, w_o_text, .int o_typed, .int o_choices, .int o_worlds, .ref a_values, .int o_at, .int o_start, .int o_sort, .int o_value, .int o_fault, w_o_draft, .ref a_sayings, .ref a_leaves, w_o_signs, w_o_words, w_o_word, w_o_isKept, w_o_some, w_o_every, .int o_deep, .int o_many, w_o_length, w_o_found, .int o_foundMany])), (a_sayings, .inl (cI, 3, .inl f_sayings)), (a_leaves, .inl (cI, 24, .inl f_leaves))] H → va_D A [(a_values, .inl (cI, 3, .inl f_values)), (a_o, .inr (10, [.long o_trace, w_o_text, .int o_typed, .int o_choices, .int o_worlds, .ref a_values, .int o_at, .int o_start, .int o_sort, .int o_value, .int o_fault, w_o_draft, .ref a_sayings, .ref a_leaves, w_o_signs, w_o_words, w_o_word, w_o_isKept, w_o_some, w_o_every, .int o_deep, .int o_many, w_o_length, w_o_found, .int o_foundMany])), (a_sayings, .inl (cI, 3, .inl f_sayings)), (a_leaves, .inl (cI, 24, .inl f_leaves))] → va_S A s.heap H locs → lv_has ls 7 [(0, .ref a_o), (1, .int p1), (2, .int p2), (3, .int p3), (4, .int x48_l4), (5, .int x48_l5)] → W p l e rmX11_talk s m args below meth c H locs 0 0 Q (F0 m 48 ls []) := by
          intro n
          induction n with
          | zero =>
            intro x48_l4 x48_l5 H locs ls h
            exact no_e h
          | succ n ih48 =>
            intro x48_l4 x48_l5 H locs ls h hP hD hS hl
            rw [P_X11_talk_48] at h
            refine lv_iload hx hb dX11_talk_48 (lv_at hl 5 rfl) ?_
            refine lv_bipush (v := 30) hx hb dX11_talk_50 bc_30 ?_
            refine lv_icmp_gt (tgt := 101) hx hb dX11_talk_52 (by decide) (fun c_52 => ?_) (fun c_52 => ?_)
            · replace h := it_e c_52 h
              refine lv_bipush (v := (-9)) hx hb dX11_talk_101 bc_m9 ?_
              have hz := Option.some.inj h
              subst hz
              exact hret H locs 103 ls (fun ty h => by cases h; rfl) (hP.sub [1, 0, 2, 3] rfl) (hD.sub [1, 0, 2, 3] (by decide) rfl) hS dX11_talk_103
            · replace h := if_e c_52 h
              refine lv_iload hx hb dX11_talk_55 (lv_at hl 5 rfl) ?_
              refine lv_iconst (v := 2) hx hb dX11_talk_57 ic_2 ?_
              refine lv_irem hx hb dX11_talk_58 (by decide) ?_
              refine lv_iconst (v := 1) hx hb dX11_talk_59 ic_1 ?_
              obtain ⟨j68, hj68, h⟩ := jn_e h
              have Jj68 : ∀ (x68_s0 : Int32) (H : Heap) (locs : List Loc) (ls : Array Slot), j68 x68_s0 = some z → va_P D vwCl [(a_values, .inl (cI, 3, .inl f_values)), (a_o, .inr (10, [.long o_trace, w_o_text, .int o_typed, .int o_choices, .int o_worlds, .ref a_values, .int o_at, .int o_start, .int o_sort, .int o_value, .int o_fault, w_o_draft, .ref a_sayings, .ref a_leaves, w_o_signs, w_o_words, w_o_word, w_o_isKept, w_o_some, w_o_every, .int o_deep, .int o_many, w_o_length, w_o_found, .int o_foundMany])), (a_sayings, .inl (cI, 3, .inl f_sayings)), (a_leaves, .inl (cI, 24, .inl f_leaves))] H → va_D A [(a_values, .inl (cI, 3, .inl f_values)), (a_o, .inr (10, [.long o_trace, w_o_text, .int o_typed, .int o_choices, .int o_worlds, .ref a_values, .int o_at, .int o_start, .int o_sort, .int o_value, .int o_fault, w_o_draft, .ref a_sayings, .ref a_leaves, w_o_signs, w_o_words, w_o_word, w_o_isKept, w_o_some, w_o_every, .int o_deep, .int o_many, w_o_length, w_o_found, .int o_foundMany])), (a_sayings, .inl (cI, 3, .inl f_sayings)), (a_leaves, .inl (cI, 24, .inl f_leaves))] → va_S A s.heap H locs → lv_has ls 7 [(0, .ref a_o), (1, .int p1), (2, .int p2), (3, .int p3), (4, .int x48_l4), (5, .int x48_l5)] → W p l e rmX11_talk s m args below meth c H locs 0 0 Q (F0 m 68 ls [.int x68_s0]) := by
                intro x68_s0 H locs ls h hP hD hS hl
                rw [hj68] at h
                refine lv_istore (lv' := [(6, .int x68_s0), (0, .ref a_o), (1, .int p1), (2, .int p2), (3, .int p3), (4, .int x48_l4), (5, .int x48_l5)]) hx hb dX11_talk_68 hl (by decide) rfl (fun ls hl => ?_)
                refine lv_aload_n hx hb dX11_talk_70 rfl (lv_at hl 1 rfl) ?_
                refine lv_iload hx hb dX11_talk_71 (lv_at hl 0 rfl) ?_
                refine lv_iload_n hx hb dX11_talk_73 rfl (lv_at hl 4 rfl) ?_
                refine lv_iload hx hb dX11_talk_74 (lv_at hl 5 rfl) ?_
                obtain ⟨z_76, hc_76, h⟩ := bd_e h
                refine q_iV (As := [.int x68_s0, .int p3, .int x48_l4]) (rest := []) (wF := [(a_sayings, .inl (cI, 3, .inl f_sayings)), (a_leaves, .inl (cI, 24, .inl f_leaves)), (a_o, .inr (10, [.long o_trace, w_o_text, .int o_typed, .int o_choices, .int o_worlds, .ref a_values, .int o_at, .int o_start, .int o_sort, .int o_value, .int o_fault, w_o_draft, .ref a_sayings, .ref a_leaves, w_o_signs, w_o_words, w_o_word, w_o_isKept, w_o_some, w_o_every, .int o_deep, .int o_many, w_o_length, w_o_found, .int o_foundMany])), (a_values, .inl (cI, 3, .inl f_values))]) hF hA hZ hK hP hD hS (c_X11_knows l D cI cB cZ a_o o_trace w_o_text o_typed o_choices o_worlds o_at o_start o_sort o_value o_fault w_o_draft (.ref a_sayings) (.ref a_leaves) w_o_signs w_o_words w_o_word w_o_isKept w_o_some w_o_every o_deep o_many w_o_length w_o_found o_foundMany a_values f_values x68_s0 p3 x48_l4 z_76 hc_76) rfl gX11_talk_X11_knows hdX11_knows ⟨rfl, rfl⟩ (Nat.le_of_ble_eq_true rfl) (Nat.le_of_ble_eq_true rfl) 10 0 rfl rfl [1, 0] [2, 3] rfl rfl rfl rfl (by decide) rfl hl.1 rfl (Nat.le_of_ble_eq_true rfl) (Nat.zero_le _) (Nat.zero_le _) dX11_talk_76 (fun H locs hP hD hS => ?_)
                refine lv_if_eq (tgt := 85) hx hb dX11_talk_79 (by decide) (fun c_79 => ?_) (fun c_79 => ?_)
                · replace h := it_e c_79 h
                  refine lv_aload_n hx hb dX11_talk_85 rfl (lv_at hl 1 rfl) ?_
                  refine lv_iload hx hb dX11_talk_86 (lv_at hl 0 rfl) ?_
                  refine lv_iload hx hb dX11_talk_88 (lv_at hl 5 rfl) ?_
                  obtain ⟨z_90, hc_90, h⟩ := bd_e h
                  refine q_iV (As := [.int x68_s0, .int x48_l4]) (rest := []) (wF := [(a_sayings, .inl (cI, 3, .inl f_sayings)), (a_leaves, .inl (cI, 24, .inl f_leaves)), (a_o, .inr (10, [.long o_trace, w_o_text, .int o_typed, .int o_choices, .int o_worlds, .ref a_values, .int o_at, .int o_start, .int o_sort, .int o_value, .int o_fault, w_o_draft, .ref a_sayings, .ref a_leaves, w_o_signs, w_o_words, w_o_word, w_o_isKept, w_o_some, w_o_every, .int o_deep, .int o_many, w_o_length, w_o_found, .int o_foundMany])), (a_values, .inl (cI, 3, .inl f_values))]) hF hA hZ hK hP hD hS (c_X11_silent l D cI cB cZ a_o o_trace w_o_text o_typed o_choices o_worlds o_at o_start o_sort o_value o_fault w_o_draft (.ref a_sayings) (.ref a_leaves) w_o_signs w_o_words w_o_word w_o_isKept w_o_some w_o_every o_deep o_many w_o_length w_o_found o_foundMany a_values f_values x68_s0 x48_l4 z_90 hc_90) rfl gX11_talk_X11_silent hdX11_silent ⟨rfl, rfl⟩ (Nat.le_of_ble_eq_true rfl) (Nat.le_of_ble_eq_true rfl) 10 0 rfl rfl [2, 3] [0, 1] rfl rfl rfl rfl (by decide) rfl hl.1 rfl (Nat.le_of_ble_eq_true rfl) (Nat.zero_le _) (Nat.zero_le _) dX11_talk_90 (fun H locs hP hD hS => ?_)
                  refine lv_istore (lv' := [(4, .int z_90), (6, .int x68_s0), (0, .ref a_o), (1, .int p1), (2, .int p2), (3, .int p3), (5, .int x48_l5)]) hx hb dX11_talk_93 hl (by decide) rfl (fun ls hl => ?_)
                  refine lv_iinc (v := x48_l5 + 1) (lv' := [(5, .int (x48_l5 + 1)), (4, .int z_90), (6, .int x68_s0), (0, .ref a_o), (1, .int p1), (2, .int p2), (3, .int p3)]) hx hb dX11_talk_95 hl (k := 6) rfl (congrArg (x48_l5 + ·) ic_1) (by decide) rfl (fun ls hl => ?_)
                  refine lv_goto (tgt := 48) hx hb dX11_talk_98 (by decide) ?_
                  exact ih48 z_90 (x48_l5 + 1) H locs ls h (hP.sub [3, 2, 0, 1] rfl) (hD.sub [3, 2, 0, 1] (by decide) rfl) hS (lv_sub hl [3, 4, 5, 6, 1, 0] rfl)
                · replace h := if_e c_79 h
                  refine lv_iload hx hb dX11_talk_82 (lv_at hl 6 rfl) ?_
                  have hz := Option.some.inj h
                  subst hz
                  exact hret H locs 84 ls (fun ty h => by cases h; rfl) (hP.sub [2, 3, 0, 1] rfl) (hD.sub [2, 3, 0, 1] (by decide) rfl) hS dX11_talk_84
              refine lv_icmp_ne (tgt := 67) hx hb dX11_talk_60 (by decide) (fun c_60 => ?_) (fun c_60 => ?_)
              · replace h := if_e c_60 h
                refine lv_iload_n hx hb dX11_talk_67 rfl (lv_at hl 2 rfl) ?_
                exact Jj68 p2 H locs ls h hP hD hS hl
              · replace h := it_e c_60 h
                refine lv_iload_n hx hb dX11_talk_63 rfl (lv_at hl 1 rfl) ?_
                refine lv_goto (tgt := 68) hx hb dX11_talk_64 (by decide) ?_
                exact Jj68 p1 H locs ls h hP hD hS hl
        exact L48 QF z_28 1 H locs ls h hP hD hS (lv_sub hl [2, 3, 4, 5, 1, 0] rfl)
      · replace h := it_e c_39 h
        refine lv_bipush (v := (-2)) hx hb dX11_talk_42 bc_m2 ?_
        have hz := Option.some.inj h
        subst hz
        exact hret H locs 44 ls (fun ty h => by cases h; rfl) (hP.sub [1, 0, 2, 3] rfl) (hD.sub [1, 0, 2, 3] (by decide) rfl) hS dX11_talk_44
    · replace h := it_e c_20 h
      refine lv_iconst (v := (-1)) hx hb dX11_talk_23 ic_m1 ?_
      have hz := Option.some.inj h
      subst hz
      exact hret H locs 24 ls (fun ty h => by cases h; rfl) (hP.sub [3, 0, 1, 2] rfl) (hD.sub [3, 0, 1, 2] (by decide) rfl) hS dX11_talk_24
abbrev rmX11_silence : Room := { frames := 4, cells := 0, slots := 0, locals := 98 }
theorem hdX11_silence : yX11_silence.cls = RX11 ∧ yX11_silence.cls ≠ "java/lang/invoke/MethodHandle" ∧ yX11_silence.cls ≠ "java/lang/invoke/VarHandle" ∧ (parseMethodDescriptor yX11_silence.desc).map (fun d => d.parameters.length) = some 3 := by decide +kernel
set_option maxRecDepth 100000 in
set_option maxHeartbeats 4000000 in
theorem c_X11_silence (l : Launch) (D : va_G) (cI cB cZ : ClassId) (a_o : Nat) (o_trace : Int64) (w_o_text : Value) (o_typed : Int32) (o_choices : Int32) (o_worlds : Int32) (o_at : Int32) (o_start : Int32) (o_sort : Int32) (o_value : Int32) (o_fault : Int32) (w_o_draft : Value) (w_o_signs : Value) (w_o_words : Value) (w_o_word : Value) (w_o_isKept : Value) (w_o_some : Value) (w_o_every : Value) (o_deep : Int32) (o_many : Int32) (w_o_length : Value) (w_o_found : Value) (o_foundMany : Int32) (a_values : Nat) (f_values : Nat → Int32) (a_sayings : Nat) (f_sayings : Nat → Int32) (a_leaves : Nat) (f_leaves : Nat → Int32) (p1 : Int32) (p2 : Int32) (p3 : Int32) (z : Int32) (h : P_X11_silence p1 p2 p3 o_choices o_worlds f_values f_sayings f_leaves = some z) : KI l yX11_silence wsX11_silence rmX11_silence D [(cI, .int), (cB, .byte), (cZ, .boolean)] [.ref a_o, .int p1, .int p2, .int p3] [(a_o, .inr (10, [.long o_trace, w_o_text, .int o_typed, .int o_choices, .int o_worlds, .ref a_values, .int o_at, .int o_start, .int o_sort, .int o_value, .int o_fault, w_o_draft, .ref a_sayings, .ref a_leaves, w_o_signs, w_o_words, w_o_word, w_o_isKept, w_o_some, w_o_every, .int o_deep, .int o_many, w_o_length, w_o_found, .int o_foundMany])), (a_values, .inl (cI, 3, .inl f_values)), (a_sayings, .inl (cI, 3, .inl f_sayings)), (a_leaves, .inl (cI, 24, .inl f_leaves))] [(a_o, .inr (10, [.long o_trace, w_o_text, .int o_typed, .int o_choices, .int o_worlds, .ref a_values, .int o_at, .int o_start, .int o_sort, .int o_value, .int o_fault, w_o_draft, .ref a_sayings, .ref a_leaves, w_o_signs, w_o_words, w_o_word, w_o_isKept, w_o_some, w_o_every, .int o_deep, .int o_many, w_o_length, w_o_found, .int o_foundMany])), (a_values, .inl (cI, 3, .inl f_values)), (a_sayings, .inl (cI, 3, .inl f_sayings)), (a_leaves, .inl (cI, 24, .inl f_leaves))] z := by
  refine KI_of (own := RX11) (cc := cX11_silence) (maxL := 6) (ret := some .int) (by decide) rfl rfl (Nat.le_of_ble_eq_true rfl) (Or.inl rfl) ?_
  intro p e s m args below meth c A Q hx hb hml hown hts hA hZ hK hret H locs ls hP hD hS hl
  have hl : lv_has ls 6 [(0, .ref a_o), (1, .int p1), (2, .int p2), (3, .int p3)] := hl
  have hF : CallFix p m c cX11_silence 6 s args wsX11_silence RX11 := ⟨hx, hb, hml, hown, hts⟩
  unfold P_X11_silence at h
  refine lv_aload_n hx hb dX11_silence_0 rfl (lv_at hl 0 rfl) ?_
  refine lv_iload_n hx hb dX11_silence_1 rfl (lv_at hl 1 rfl) ?_
  refine lv_iload_n hx hb dX11_silence_2 rfl (lv_at hl 2 rfl) ?_
  obtain ⟨z_3, hc_3, h⟩ := bd_e h
  refine q_iV (As := [.int p1, .int p2]) (rest := []) (wF := [(a_values, .inl (cI, 3, .inl f_values)), (a_sayings, .inl (cI, 3, .inl f_sayings)), (a_leaves, .inl (cI, 24, .inl f_leaves)), (a_o, .inr (10, [.long o_trace, w_o_text, .int o_typed, .int o_choices, .int o_worlds, .ref a_values, .int o_at, .int o_start, .int o_sort, .int o_value, .int o_fault, w_o_draft, .ref a_sayings, .ref a_leaves, w_o_signs, w_o_words, w_o_word, w_o_isKept, w_o_some, w_o_every, .int o_deep, .int o_many, w_o_length, w_o_found, .int o_foundMany]))]) hF hA hZ hK hP hD hS (c_X11_isSeen l D cI cB cZ a_o o_trace w_o_text o_typed o_choices o_worlds (.ref a_values) o_at o_start o_sort o_value o_fault w_o_draft (.ref a_sayings) (.ref a_leaves) w_o_signs w_o_words w_o_word w_o_isKept w_o_some w_o_every o_deep o_many w_o_length w_o_found o_foundMany p1 p2 z_3 hc_3) rfl gX11_silence_X11_isSeen hdX11_isSeen ⟨rfl, rfl⟩ (Nat.le_of_ble_eq_true rfl) (Nat.le_of_ble_eq_true rfl) 10 0 rfl rfl [0] [1, 2, 3] rfl rfl rfl rfl (by decide) rfl hl.1 rfl (Nat.le_of_ble_eq_true rfl) (Nat.zero_le _) (Nat.zero_le _) dX11_silence_3 (fun H locs hP hD hS => ?_)
  refine lv_if_eq (tgt := 19) hx hb dX11_silence_6 (by decide) (fun c_6 => ?_) (fun c_6 => ?_)
  · replace h := it_e c_6 h
    refine lv_iconst (v := (-1)) hx hb dX11_silence_19 ic_m1 ?_
    have hz := Option.some.inj h
    subst hz
    exact hret H locs 20 ls (fun ty h => by cases h; rfl) (hP.sub [3, 0, 1, 2] rfl) (hD.sub [3, 0, 1, 2] (by decide) rfl) hS dX11_silence_20
  · replace h := if_e c_6 h
    refine lv_iload_n hx hb dX11_silence_9 rfl (lv_at hl 3 rfl) ?_
    refine lv_iconst (v := 0) hx hb dX11_silence_10 ic_0 ?_
    refine lv_bipush (v := 30) hx hb dX11_silence_11 bc_30 ?_
    obtain ⟨z_13, hc_13, h⟩ := bd_e h
    refine q_iS (As := [.int p3, .int 0, .int 30]) (rest := []) (wF := [(a_values, .inl (cI, 3, .inl f_values)), (a_sayings, .inl (cI, 3, .inl f_sayings)), (a_leaves, .inl (cI, 24, .inl f_leaves)), (a_o, .inr (10, [.long o_trace, w_o_text, .int o_typed, .int o_choices, .int o_worlds, .ref a_values, .int o_at, .int o_start, .int o_sort, .int o_value, .int o_fault, w_o_draft, .ref a_sayings, .ref a_leaves, w_o_signs, w_o_words, w_o_word, w_o_isKept, w_o_some, w_o_every, .int o_deep, .int o_many, w_o_length, w_o_found, .int o_foundMany]))]) hF hA hZ hK hP hD hS (c_X11_in l D cI cB cZ p3 0 30 z_13 hc_13) rfl gX11_silence_X11_in hdX11_in ⟨rfl, rfl⟩ (Nat.le_of_ble_eq_true rfl) (Nat.le_of_ble_eq_true rfl) [] [0, 1, 2, 3] rfl rfl rfl rfl (by decide) rfl hl.1 rfl (Nat.le_of_ble_eq_true rfl) (Nat.zero_le _) (Nat.zero_le _) dX11_silence_13 (fun H locs hP hD hS => ?_)
    refine lv_if_ne (tgt := 21) hx hb dX11_silence_16 (by decide) (fun c_16 => ?_) (fun c_16 => ?_)
    · replace h := if_e c_16 h
      refine lv_aload_n hx hb dX11_silence_21 rfl (lv_at hl 0 rfl) ?_
      refine lv_bipush (v := (-9)) hx hb dX11_silence_22 bc_m9 ?_
      obtain ⟨z_24, hc_24, h⟩ := bd_e h
      refine q_iV (As := [.int (-9)]) (rest := []) (wF := [(a_values, .inl (cI, 3, .inl f_values)), (a_o, .inr (10, [.long o_trace, w_o_text, .int o_typed, .int o_choices, .int o_worlds, .ref a_values, .int o_at, .int o_start, .int o_sort, .int o_value, .int o_fault, w_o_draft, .ref a_sayings, .ref a_leaves, w_o_signs, w_o_words, w_o_word, w_o_isKept, w_o_some, w_o_every, .int o_deep, .int o_many, w_o_length, w_o_found, .int o_foundMany])), (a_sayings, .inl (cI, 3, .inl f_sayings)), (a_leaves, .inl (cI, 24, .inl f_leaves))]) hF hA hZ hK hP hD hS (c_X11_contractBut l D cI cB cZ a_o o_trace w_o_text o_typed o_choices o_worlds (.ref a_values) o_at o_start o_sort o_value o_fault w_o_draft w_o_signs w_o_words w_o_word w_o_isKept w_o_some w_o_every o_deep o_many w_o_length w_o_found o_foundMany a_sayings f_sayings a_leaves f_leaves (-9) z_24 hc_24) rfl gX11_silence_X11_contractBut hdX11_contractBut ⟨rfl, rfl⟩ (Nat.le_of_ble_eq_true rfl) (Nat.le_of_ble_eq_true rfl) 10 0 rfl rfl [3, 1, 2] [0] rfl rfl rfl rfl (by decide) rfl hl.1 rfl (Nat.le_of_ble_eq_true rfl) (Nat.zero_le _) (Nat.zero_le _) dX11_silence_24 (fun H locs hP hD hS => ?_)
      refine lv_istore (lv' := [(4, .int z_24), (0, .ref a_o), (1, .int p1), (2, .int p2), (3, .int p3)]) hx hb dX11_silence_27 hl (by decide) rfl (fun ls hl => ?_)
      refine lv_iconst (v := 1) hx hb dX11_silence_29 ic_1 ?_
      refine lv_istore (lv' := [(5, .int 1), (4, .int z_24), (0, .ref a_o), (1, .int p1), (2, .int p2), (3, .int p3)]) hx hb dX11_silence_30 hl (by decide) rfl (fun ls hl => ?_)
      have L32 : ∀ (n : Nat), ∀ (x32_l4 : Int32) (x32_l5 : Int32) (H : Heap) (locs : List Loc) (ls : Array Slot), P_X11_silence_32 p1 p2 p3 o_choices o_worlds f_values n x32_l4 x32_l5 = some z → va_P D vwCl [(a_values, .inl (cI, 3, .inl f_values)), (a_o, .inr (10, [.long o_trace, w_o_text, .int o_typed, .int o_choices, .int o_worlds, .ref a_values, .int o_at, .int o_start, .int o_sort, .int o_value, .int o_fault, w_o_draft, .ref a_sayings, .ref a_leaves, w_o_signs, w_o_words, w_o_word, w_o_isKept, w_o_some, w_o_every, .int o_deep, .int o_many, w_o_length, w_o_found, .int o_foundMany])), (a_sayings, .inl (cI, 3, .inl f_sayings)), (a_leaves, .inl (cI, 24, .inl f_leaves))] H → va_D A [(a_values, .inl (cI, 3, .inl f_values)), (a_o, .inr (10, [.long o_trace, w_o_text, .int o_typed, .int o_choices, .int o_worlds, .ref a_values, .int o_at, .int o_start, .int o_sort, .int o_value, .int o_fault, w_o_draft, .ref a_sayings, .ref a_leaves, w_o_signs, w_o_words, w_o_word, w_o_isKept, w_o_some, w_o_every, .int o_deep, .int o_many, w_o_length, w_o_found, .int o_foundMany])), (a_sayings, .inl (cI, 3, .inl f_sayings)), (a_leaves, .inl (cI, 24, .inl f_leaves))] → va_S A s.heap H locs → lv_has ls 6 [(0, .ref a_o), (1, .int p1), (2, .int p2), (3, .int p3), (4, .int x32_l4), (5, .int x32_l5)] → W p l e rmX11_silence s m args below meth c H locs 0 0 Q (F0 m 32 ls []) := by
        intro n
        induction n with
        | zero =>
          intro x32_l4 x32_l5 H locs ls h
          exact no_e h
        | succ n ih32 =>
          intro x32_l4 x32_l5 H locs ls h hP hD hS hl
          rw [P_X11_silence_32] at h
          refine lv_iload hx hb dX11_silence_32 (lv_at hl 5 rfl) ?_
          refine lv_iload_n hx hb dX11_silence_34 rfl (lv_at hl 3 rfl) ?_
          refine lv_icmp_gt (tgt := 65) hx hb dX11_silence_35 (by decide) (fun c_35 => ?_) (fun c_35 => ?_)
          · replace h := it_e c_35 h
            refine lv_iload hx hb dX11_silence_65 (lv_at hl 4 rfl) ?_
            have hz := Option.some.inj h
            subst hz
            exact hret H locs 67 ls (fun ty h => by cases h; rfl) (hP.sub [1, 0, 2, 3] rfl) (hD.sub [1, 0, 2, 3] (by decide) rfl) hS dX11_silence_67
          · replace h := if_e c_35 h
            refine lv_aload_n hx hb dX11_silence_38 rfl (lv_at hl 0 rfl) ?_
            refine lv_iload hx hb dX11_silence_39 (lv_at hl 5 rfl) ?_
            refine lv_iconst (v := 2) hx hb dX11_silence_41 ic_2 ?_
            refine lv_irem hx hb dX11_silence_42 (by decide) ?_
            refine lv_iconst (v := 1) hx hb dX11_silence_43 ic_1 ?_
            obtain ⟨j52, hj52, h⟩ := jn_e h
            have Jj52 : ∀ (x52_s1 : Int32) (H : Heap) (locs : List Loc) (ls : Array Slot), j52 x52_s1 = some z → va_P D vwCl [(a_values, .inl (cI, 3, .inl f_values)), (a_o, .inr (10, [.long o_trace, w_o_text, .int o_typed, .int o_choices, .int o_worlds, .ref a_values, .int o_at, .int o_start, .int o_sort, .int o_value, .int o_fault, w_o_draft, .ref a_sayings, .ref a_leaves, w_o_signs, w_o_words, w_o_word, w_o_isKept, w_o_some, w_o_every, .int o_deep, .int o_many, w_o_length, w_o_found, .int o_foundMany])), (a_sayings, .inl (cI, 3, .inl f_sayings)), (a_leaves, .inl (cI, 24, .inl f_leaves))] H → va_D A [(a_values, .inl (cI, 3, .inl f_values)), (a_o, .inr (10, [.long o_trace, w_o_text, .int o_typed, .int o_choices, .int o_worlds, .ref a_values, .int o_at, .int o_start, .int o_sort, .int o_value, .int o_fault, w_o_draft, .ref a_sayings, .ref a_leaves, w_o_signs, w_o_words, w_o_word, w_o_isKept, w_o_some, w_o_every, .int o_deep, .int o_many, w_o_length, w_o_found, .int o_foundMany])), (a_sayings, .inl (cI, 3, .inl f_sayings)), (a_leaves, .inl (cI, 24, .inl f_leaves))] → va_S A s.heap H locs → lv_has ls 6 [(0, .ref a_o), (1, .int p1), (2, .int p2), (3, .int p3), (4, .int x32_l4), (5, .int x32_l5)] → W p l e rmX11_silence s m args below meth c H locs 0 0 Q (F0 m 52 ls [.int x52_s1, .ref a_o]) := by
              intro x52_s1 H locs ls h hP hD hS hl
              rw [hj52] at h
              refine lv_iload hx hb dX11_silence_52 (lv_at hl 4 rfl) ?_
              obtain ⟨z_54, hc_54, h⟩ := bd_e h
              refine q_iV (As := [.int x52_s1, .int x32_l4]) (rest := []) (wF := [(a_sayings, .inl (cI, 3, .inl f_sayings)), (a_leaves, .inl (cI, 24, .inl f_leaves)), (a_o, .inr (10, [.long o_trace, w_o_text, .int o_typed, .int o_choices, .int o_worlds, .ref a_values, .int o_at, .int o_start, .int o_sort, .int o_value, .int o_fault, w_o_draft, .ref a_sayings, .ref a_leaves, w_o_signs, w_o_words, w_o_word, w_o_isKept, w_o_some, w_o_every, .int o_deep, .int o_many, w_o_length, w_o_found, .int o_foundMany])), (a_values, .inl (cI, 3, .inl f_values))]) hF hA hZ hK hP hD hS (c_X11_silent l D cI cB cZ a_o o_trace w_o_text o_typed o_choices o_worlds o_at o_start o_sort o_value o_fault w_o_draft (.ref a_sayings) (.ref a_leaves) w_o_signs w_o_words w_o_word w_o_isKept w_o_some w_o_every o_deep o_many w_o_length w_o_found o_foundMany a_values f_values x52_s1 x32_l4 z_54 hc_54) rfl gX11_silence_X11_silent hdX11_silent ⟨rfl, rfl⟩ (Nat.le_of_ble_eq_true rfl) (Nat.le_of_ble_eq_true rfl) 10 0 rfl rfl [1, 0] [2, 3] rfl rfl rfl rfl (by decide) rfl hl.1 rfl (Nat.le_of_ble_eq_true rfl) (Nat.zero_le _) (Nat.zero_le _) dX11_silence_54 (fun H locs hP hD hS => ?_)
              refine lv_istore (lv' := [(4, .int z_54), (0, .ref a_o), (1, .int p1), (2, .int p2), (3, .int p3), (5, .int x32_l5)]) hx hb dX11_silence_57 hl (by decide) rfl (fun ls hl => ?_)
              refine lv_iinc (v := x32_l5 + 1) (lv' := [(5, .int (x32_l5 + 1)), (4, .int z_54), (0, .ref a_o), (1, .int p1), (2, .int p2), (3, .int p3)]) hx hb dX11_silence_59 hl (k := 5) rfl (congrArg (x32_l5 + ·) ic_1) (by decide) rfl (fun ls hl => ?_)
              refine lv_goto (tgt := 32) hx hb dX11_silence_62 (by decide) ?_
              exact ih32 z_54 (x32_l5 + 1) H locs ls h (hP.sub [3, 2, 0, 1] rfl) (hD.sub [3, 2, 0, 1] (by decide) rfl) hS (lv_sub hl [2, 3, 4, 5, 1, 0] rfl)
            refine lv_icmp_ne (tgt := 51) hx hb dX11_silence_44 (by decide) (fun c_44 => ?_) (fun c_44 => ?_)
            · replace h := if_e c_44 h
              refine lv_iload_n hx hb dX11_silence_51 rfl (lv_at hl 2 rfl) ?_
              exact Jj52 p2 H locs ls h hP hD hS hl
            · replace h := it_e c_44 h
              refine lv_iload_n hx hb dX11_silence_47 rfl (lv_at hl 1 rfl) ?_
              refine lv_goto (tgt := 52) hx hb dX11_silence_48 (by decide) ?_
              exact Jj52 p1 H locs ls h hP hD hS hl
      exact L32 QF z_24 1 H locs ls h hP hD hS (lv_sub hl [2, 3, 4, 5, 1, 0] rfl)
    · replace h := it_e c_16 h
      refine lv_iconst (v := (-1)) hx hb dX11_silence_19 ic_m1 ?_
      have hz := Option.some.inj h
      subst hz
      exact hret H locs 20 ls (fun ty h => by cases h; rfl) (hP.sub [3, 0, 1, 2] rfl) (hD.sub [3, 0, 1, 2] (by decide) rfl) hS dX11_silence_20
abbrev rmX11_mark : Room := { frames := 3, cells := 0, slots := 0, locals := 73 }
theorem hdX11_mark : yX11_mark.cls = RX11 ∧ yX11_mark.cls ≠ "java/lang/invoke/MethodHandle" ∧ yX11_mark.cls ≠ "java/lang/invoke/VarHandle" ∧ (parseMethodDescriptor yX11_mark.desc).map (fun d => d.parameters.length) = some 2 := by decide +kernel
set_option maxRecDepth 100000 in
set_option maxHeartbeats 4000000 in
theorem c_X11_mark (l : Launch) (D : va_G) (cI cB cZ : ClassId) (a_o : Nat) (o_trace : Int64) (w_o_text : Value) (o_typed : Int32) (o_choices : Int32) (o_worlds : Int32) (o_at : Int32) (o_start : Int32) (o_sort : Int32) (o_value : Int32) (o_fault : Int32) (w_o_draft : Value) (w_o_isKept : Value) (w_o_some : Value) (w_o_every : Value) (o_deep : Int32) (o_many : Int32) (o_foundMany : Int32) (a_values : Nat) (f_values : Nat → Int32) (a_sayings : Nat) (f_sayings : Nat → Int32) (a_leaves : Nat) (f_leaves : Nat → Int32) (a_signs : Nat) (f_signs : Nat → Int32) (a_words : Nat) (f_words : Nat → Int32) (a_word : Nat) (f_word : Nat → Int32) (a_length : Nat) (f_length : Nat → Int32) (a_found : Nat) (f_found : Nat → Int32) (p1 : Int32) (p2 : Int32) (z : Int32 × Int64 × Int32 × (Nat → Int32) × (Nat → Int32)) (h : P_X11_mark p1 p2 o_trace o_choices o_worlds o_foundMany f_values f_sayings f_leaves f_signs f_words f_word f_length f_found = some z) : KI l yX11_mark wsX11_mark rmX11_mark D [(cI, .int), (cB, .byte), (cZ, .boolean)] [.ref a_o, .int p1, .int p2] [(a_o, .inr (10, [.long o_trace, w_o_text, .int o_typed, .int o_choices, .int o_worlds, .ref a_values, .int o_at, .int o_start, .int o_sort, .int o_value, .int o_fault, w_o_draft, .ref a_sayings, .ref a_leaves, .ref a_signs, .ref a_words, .ref a_word, w_o_isKept, w_o_some, w_o_every, .int o_deep, .int o_many, .ref a_length, .ref a_found, .int o_foundMany])), (a_values, .inl (cI, 3, .inl f_values)), (a_sayings, .inl (cI, 3, .inl f_sayings)), (a_leaves, .inl (cI, 24, .inl f_leaves)), (a_signs, .inl (cI, 24, .inl f_signs)), (a_words, .inl (cI, 3, .inl f_words)), (a_word, .inl (cI, 9, .inl f_word)), (a_length, .inl (cI, 512, .inl f_length)), (a_found, .inl (cI, 512, .inl f_found))] [(a_o, .inr (10, [.long z.2.1, w_o_text, .int o_typed, .int o_choices, .int o_worlds, .ref a_values, .int o_at, .int o_start, .int o_sort, .int o_value, .int o_fault, w_o_draft, .ref a_sayings, .ref a_leaves, .ref a_signs, .ref a_words, .ref a_word, w_o_isKept, w_o_some, w_o_every, .int o_deep, .int o_many, .ref a_length, .ref a_found, .int z.2.2.1])), (a_values, .inl (cI, 3, .inl f_values)), (a_sayings, .inl (cI, 3, .inl f_sayings)), (a_leaves, .inl (cI, 24, .inl f_leaves)), (a_signs, .inl (cI, 24, .inl f_signs)), (a_words, .inl (cI, 3, .inl f_words)), (a_word, .inl (cI, 9, .inl f_word)), (a_length, .inl (cI, 512, .inl z.2.2.2.1)), (a_found, .inl (cI, 512, .inl z.2.2.2.2))] z.1 := by
  refine KI_of (own := RX11) (cc := cX11_mark) (maxL := 3) (ret := some .int) (by decide) rfl rfl (Nat.le_of_ble_eq_true rfl) (Or.inl rfl) ?_
  intro p e s m args below meth c A Q hx hb hml hown hts hA hZ hK hret H locs ls hP hD hS hl
  have hl : lv_has ls 3 [(0, .ref a_o), (1, .int p1), (2, .int p2)] := hl
  have hF : CallFix p m c cX11_mark 3 s args wsX11_mark RX11 := ⟨hx, hb, hml, hown, hts⟩
  have u_X11 : ∀ w ∈ u_ws RX11 TX11 25, w ∈ wsX11_mark := by decide +kernel
  have k_c0 := hts (.constant RX11 182 (-1000000)) (by decide +kernel)
  have k_f1 := hts (.fieldLink RX11 183 "NoWordNoModel" "trace" "J") (by decide +kernel)
  have k_f2 := hts (.fieldLink RX11 26 "NoWordNoModel" "signs" "[I") (by decide +kernel)
  have k_L3 := hts (.constantLong RX11 187 (11)) (by decide +kernel)
  have k_f4 := hts (.fieldLink RX11 23 "NoWordNoModel" "leaves" "[I") (by decide +kernel)
  have k_L5 := hts (.constantLong RX11 189 (101)) (by decide +kernel)
  have k_L6 := hts (.constantLong RX11 191 (1101)) (by decide +kernel)
  have k_L7 := hts (.constantLong RX11 193 (10011)) (by decide +kernel)
  have k_L8 := hts (.constantLong RX11 195 (100001)) (by decide +kernel)
  have k_f9 := hts (.fieldLink RX11 45 "NoWordNoModel" "length" "[I") (by decide +kernel)
  unfold P_X11_mark at h
  refine lv_iload_n hx hb dX11_mark_0 rfl (lv_at hl 1 rfl) ?_
  refine lv_iconst (v := 0) hx hb dX11_mark_1 ic_0 ?_
  refine lv_iconst (v := 5) hx hb dX11_mark_2 ic_5 ?_
  obtain ⟨z_3, hc_3, h⟩ := bd_e h
  refine q_iS (As := [.int p1, .int 0, .int 5]) (rest := []) (wF := [(a_o, .inr (10, [.long o_trace, w_o_text, .int o_typed, .int o_choices, .int o_worlds, .ref a_values, .int o_at, .int o_start, .int o_sort, .int o_value, .int o_fault, w_o_draft, .ref a_sayings, .ref a_leaves, .ref a_signs, .ref a_words, .ref a_word, w_o_isKept, w_o_some, w_o_every, .int o_deep, .int o_many, .ref a_length, .ref a_found, .int o_foundMany])), (a_values, .inl (cI, 3, .inl f_values)), (a_sayings, .inl (cI, 3, .inl f_sayings)), (a_leaves, .inl (cI, 24, .inl f_leaves)), (a_signs, .inl (cI, 24, .inl f_signs)), (a_words, .inl (cI, 3, .inl f_words)), (a_word, .inl (cI, 9, .inl f_word)), (a_length, .inl (cI, 512, .inl f_length)), (a_found, .inl (cI, 512, .inl f_found))]) hF hA hZ hK hP hD hS (c_X11_in l D cI cB cZ p1 0 5 z_3 hc_3) rfl gX11_mark_X11_in hdX11_in ⟨rfl, rfl⟩ (Nat.le_of_ble_eq_true rfl) (Nat.le_of_ble_eq_true rfl) [] [0, 1, 2, 3, 4, 5, 6, 7, 8] rfl rfl rfl rfl (by decide) rfl hl.1 rfl (Nat.le_of_ble_eq_true rfl) (Nat.zero_le _) (Nat.zero_le _) dX11_mark_3 (fun H locs hP hD hS => ?_)
  refine lv_if_eq (tgt := 17) hx hb dX11_mark_6 (by decide) (fun c_6 => ?_) (fun c_6 => ?_)
  · replace h := it_e c_6 h
    refine lv_ldc (v := (-1000000)) hx hb hown k_c0 dX11_mark_17 ?_
    have hz := Option.some.inj h
    subst hz
    exact hret H locs 19 ls (fun ty h => by cases h; rfl) hP hD hS dX11_mark_19
  · replace h := if_e c_6 h
    refine lv_aload_n hx hb dX11_mark_9 rfl (lv_at hl 0 rfl) ?_
    refine lv_iload_n hx hb dX11_mark_10 rfl (lv_at hl 2 rfl) ?_
    obtain ⟨z_11, hc_11, h⟩ := bd_e h
    refine q_iV (As := [.int p2]) (rest := []) (wF := [(a_values, .inl (cI, 3, .inl f_values)), (a_leaves, .inl (cI, 24, .inl f_leaves)), (a_signs, .inl (cI, 24, .inl f_signs)), (a_words, .inl (cI, 3, .inl f_words)), (a_word, .inl (cI, 9, .inl f_word)), (a_length, .inl (cI, 512, .inl f_length)), (a_found, .inl (cI, 512, .inl f_found)), (a_o, .inr (10, [.long o_trace, w_o_text, .int o_typed, .int o_choices, .int o_worlds, .ref a_values, .int o_at, .int o_start, .int o_sort, .int o_value, .int o_fault, w_o_draft, .ref a_sayings, .ref a_leaves, .ref a_signs, .ref a_words, .ref a_word, w_o_isKept, w_o_some, w_o_every, .int o_deep, .int o_many, .ref a_length, .ref a_found, .int o_foundMany])), (a_sayings, .inl (cI, 3, .inl f_sayings))]) hF hA hZ hK hP hD hS (c_X11_isSaying l D cI cB cZ a_o o_trace w_o_text o_typed o_choices o_worlds (.ref a_values) o_at o_start o_sort o_value o_fault w_o_draft (.ref a_leaves) (.ref a_signs) (.ref a_words) (.ref a_word) w_o_isKept w_o_some w_o_every o_deep o_many (.ref a_length) (.ref a_found) o_foundMany a_sayings f_sayings p2 z_11 hc_11) rfl gX11_mark_X11_isSaying hdX11_isSaying ⟨rfl, rfl⟩ (Nat.le_of_ble_eq_true rfl) (Nat.le_of_ble_eq_true rfl) 10 0 rfl rfl [0, 2] [1, 3, 4, 5, 6, 7, 8] rfl rfl rfl rfl (by decide) rfl hl.1 rfl (Nat.le_of_ble_eq_true rfl) (Nat.zero_le _) (Nat.zero_le _) dX11_mark_11 (fun H locs hP hD hS => ?_)
    refine lv_if_ne (tgt := 20) hx hb dX11_mark_14 (by decide) (fun c_14 => ?_) (fun c_14 => ?_)
    · replace h := if_e c_14 h
      refine lv_iload_n hx hb dX11_mark_20 rfl (lv_at hl 1 rfl) ?_
      by_cases c_21_0 : p1 = 0
      · replace h := it_e c_21_0 h
        refine lv_tableIn (tgt := 56) hx hb dX11_mark_21 (by rw [c_21_0]; decide) (by rw [c_21_0]; decide) (by rw [c_21_0]; rfl) (by decide) ?_
        refine lv_aload_n hx hb dX11_mark_56 rfl (lv_at hl 0 rfl) ?_
        refine lv_dup hx hb dX11_mark_57 rfl ?_
        refine va_get (D := D) (ci := 10) (v := .long o_trace) (C := RX11) (T := TX11) (N := 25) hx hb hts u_X11 hown hK hP 7 rfl rfl 0 (by decide) k_f1 (fun _ h9 => h9) rfl dX11_mark_58 ?_
        refine lv_lconst (v := 1) hx hb dX11_mark_61 (by decide) ?_
        refine lv_ladd hx hb dX11_mark_62 ?_
        refine va_put (D := D) (ci := 10) (v := .long (o_trace + 1)) (ty := .long) (C := RX11) (T := TX11) (N := 25) hx hb hts u_X11 tyX11 tyX11_ok nmX11 hown hK hP hD hS 7 rfl rfl 0 (by decide) k_f1 (fun _ h9 => h9) rfl (tyX11_ok 0 (by decide)) rfl rfl (Nat.le_of_ble_eq_true rfl) dX11_mark_63 (fun H locs hP hD hS => ?_)
        have hP : va_P D vwCl [(a_values, .inl (cI, 3, .inl f_values)), (a_leaves, .inl (cI, 24, .inl f_leaves)), (a_signs, .inl (cI, 24, .inl f_signs)), (a_words, .inl (cI, 3, .inl f_words)), (a_word, .inl (cI, 9, .inl f_word)), (a_length, .inl (cI, 512, .inl f_length)), (a_found, .inl (cI, 512, .inl f_found)), (a_o, .inr (10, [.long (o_trace + 1), w_o_text, .int o_typed, .int o_choices, .int o_worlds, .ref a_values, .int o_at, .int o_start, .int o_sort, .int o_value, .int o_fault, w_o_draft, .ref a_sayings, .ref a_leaves, .ref a_signs, .ref a_words, .ref a_word, w_o_isKept, w_o_some, w_o_every, .int o_deep, .int o_many, .ref a_length, .ref a_found, .int o_foundMany])), (a_sayings, .inl (cI, 3, .inl f_sayings))] H := hP
        have hD : va_D A [(a_values, .inl (cI, 3, .inl f_values)), (a_leaves, .inl (cI, 24, .inl f_leaves)), (a_signs, .inl (cI, 24, .inl f_signs)), (a_words, .inl (cI, 3, .inl f_words)), (a_word, .inl (cI, 9, .inl f_word)), (a_length, .inl (cI, 512, .inl f_length)), (a_found, .inl (cI, 512, .inl f_found)), (a_o, .inr (10, [.long (o_trace + 1), w_o_text, .int o_typed, .int o_choices, .int o_worlds, .ref a_values, .int o_at, .int o_start, .int o_sort, .int o_value, .int o_fault, w_o_draft, .ref a_sayings, .ref a_leaves, .ref a_signs, .ref a_words, .ref a_word, w_o_isKept, w_o_some, w_o_every, .int o_deep, .int o_many, .ref a_length, .ref a_found, .int o_foundMany])), (a_sayings, .inl (cI, 3, .inl f_sayings))] := hD
        refine lv_aload_n hx hb dX11_mark_66 rfl (lv_at hl 0 rfl) ?_
        refine va_get (D := D) (ci := 10) (v := .ref a_signs) (C := RX11) (T := TX11) (N := 25) hx hb hts u_X11 hown hK hP 7 rfl rfl 14 (by decide) k_f2 (fun _ h9 => h9) rfl dX11_mark_67 ?_
        refine lv_iload_n hx hb dX11_mark_70 rfl (lv_at hl 2 rfl) ?_
        obtain ⟨hi_71, h⟩ := ck_e h
        refine va_iald hx hb hK hP 2 0 rfl rfl hi_71 dX11_mark_71 ?_
        have hz := Option.some.inj h
        subst hz
        exact hret H locs 72 ls (fun ty h => by cases h; rfl) (hP.sub [7, 0, 8, 1, 2, 3, 4, 5, 6] rfl) (hD.sub [7, 0, 8, 1, 2, 3, 4, 5, 6] (by decide) rfl) hS dX11_mark_72
      replace h := if_e c_21_0 h
      by_cases c_21_1 : p1 = 1
      · replace h := it_e c_21_1 h
        refine lv_tableIn (tgt := 73) hx hb dX11_mark_21 (by rw [c_21_1]; decide) (by rw [c_21_1]; decide) (by rw [c_21_1]; rfl) (by decide) ?_
        refine lv_aload_n hx hb dX11_mark_73 rfl (lv_at hl 0 rfl) ?_
        refine lv_dup hx hb dX11_mark_74 rfl ?_
        refine va_get (D := D) (ci := 10) (v := .long o_trace) (C := RX11) (T := TX11) (N := 25) hx hb hts u_X11 hown hK hP 7 rfl rfl 0 (by decide) k_f1 (fun _ h9 => h9) rfl dX11_mark_75 ?_
        refine lv_ldc2 (v := 11) hx hb hown k_L3 dX11_mark_78 ?_
        refine lv_ladd hx hb dX11_mark_81 ?_
        refine va_put (D := D) (ci := 10) (v := .long (o_trace + 11)) (ty := .long) (C := RX11) (T := TX11) (N := 25) hx hb hts u_X11 tyX11 tyX11_ok nmX11 hown hK hP hD hS 7 rfl rfl 0 (by decide) k_f1 (fun _ h9 => h9) rfl (tyX11_ok 0 (by decide)) rfl rfl (Nat.le_of_ble_eq_true rfl) dX11_mark_82 (fun H locs hP hD hS => ?_)
        have hP : va_P D vwCl [(a_values, .inl (cI, 3, .inl f_values)), (a_leaves, .inl (cI, 24, .inl f_leaves)), (a_signs, .inl (cI, 24, .inl f_signs)), (a_words, .inl (cI, 3, .inl f_words)), (a_word, .inl (cI, 9, .inl f_word)), (a_length, .inl (cI, 512, .inl f_length)), (a_found, .inl (cI, 512, .inl f_found)), (a_o, .inr (10, [.long (o_trace + 11), w_o_text, .int o_typed, .int o_choices, .int o_worlds, .ref a_values, .int o_at, .int o_start, .int o_sort, .int o_value, .int o_fault, w_o_draft, .ref a_sayings, .ref a_leaves, .ref a_signs, .ref a_words, .ref a_word, w_o_isKept, w_o_some, w_o_every, .int o_deep, .int o_many, .ref a_length, .ref a_found, .int o_foundMany])), (a_sayings, .inl (cI, 3, .inl f_sayings))] H := hP
        have hD : va_D A [(a_values, .inl (cI, 3, .inl f_values)), (a_leaves, .inl (cI, 24, .inl f_leaves)), (a_signs, .inl (cI, 24, .inl f_signs)), (a_words, .inl (cI, 3, .inl f_words)), (a_word, .inl (cI, 9, .inl f_word)), (a_length, .inl (cI, 512, .inl f_length)), (a_found, .inl (cI, 512, .inl f_found)), (a_o, .inr (10, [.long (o_trace + 11), w_o_text, .int o_typed, .int o_choices, .int o_worlds, .ref a_values, .int o_at, .int o_start, .int o_sort, .int o_value, .int o_fault, w_o_draft, .ref a_sayings, .ref a_leaves, .ref a_signs, .ref a_words, .ref a_word, w_o_isKept, w_o_some, w_o_every, .int o_deep, .int o_many, .ref a_length, .ref a_found, .int o_foundMany])), (a_sayings, .inl (cI, 3, .inl f_sayings))] := hD
        refine lv_aload_n hx hb dX11_mark_85 rfl (lv_at hl 0 rfl) ?_
        refine va_get (D := D) (ci := 10) (v := .ref a_signs) (C := RX11) (T := TX11) (N := 25) hx hb hts u_X11 hown hK hP 7 rfl rfl 14 (by decide) k_f2 (fun _ h9 => h9) rfl dX11_mark_86 ?_
        refine lv_iload_n hx hb dX11_mark_89 rfl (lv_at hl 2 rfl) ?_
        obtain ⟨hi_90, h⟩ := ck_e h
        refine va_iald hx hb hK hP 2 0 rfl rfl hi_90 dX11_mark_90 ?_
        refine lv_aload_n hx hb dX11_mark_91 rfl (lv_at hl 0 rfl) ?_
        refine va_get (D := D) (ci := 10) (v := .ref a_leaves) (C := RX11) (T := TX11) (N := 25) hx hb hts u_X11 hown hK hP 7 rfl rfl 13 (by decide) k_f4 (fun _ h9 => h9) rfl dX11_mark_92 ?_
        refine lv_iload_n hx hb dX11_mark_95 rfl (lv_at hl 2 rfl) ?_
        obtain ⟨hi_96, h⟩ := ck_e h
        refine va_iald hx hb hK hP 1 0 rfl rfl hi_96 dX11_mark_96 ?_
        obtain ⟨z_97, hc_97, h⟩ := bd_e h
        refine q_iS (As := [.int (f_leaves p2.toNatClampNeg)]) (rest := [.int (f_signs p2.toNatClampNeg)]) (wF := [(a_values, .inl (cI, 3, .inl f_values)), (a_leaves, .inl (cI, 24, .inl f_leaves)), (a_signs, .inl (cI, 24, .inl f_signs)), (a_words, .inl (cI, 3, .inl f_words)), (a_word, .inl (cI, 9, .inl f_word)), (a_length, .inl (cI, 512, .inl f_length)), (a_found, .inl (cI, 512, .inl f_found)), (a_o, .inr (10, [.long (o_trace + 11), w_o_text, .int o_typed, .int o_choices, .int o_worlds, .ref a_values, .int o_at, .int o_start, .int o_sort, .int o_value, .int o_fault, w_o_draft, .ref a_sayings, .ref a_leaves, .ref a_signs, .ref a_words, .ref a_word, w_o_isKept, w_o_some, w_o_every, .int o_deep, .int o_many, .ref a_length, .ref a_found, .int o_foundMany])), (a_sayings, .inl (cI, 3, .inl f_sayings))]) hF hA hZ hK hP hD hS (c_X11_bitsIn l D cI cB cZ (f_leaves p2.toNatClampNeg) z_97 hc_97) rfl gX11_mark_X11_bitsIn hdX11_bitsIn ⟨rfl, rfl⟩ (Nat.le_of_ble_eq_true rfl) (Nat.le_of_ble_eq_true rfl) [] [0, 1, 2, 3, 4, 5, 6, 7, 8] rfl rfl rfl rfl (by decide) rfl hl.1 rfl (Nat.le_of_ble_eq_true rfl) (Nat.zero_le _) (Nat.zero_le _) dX11_mark_97 (fun H locs hP hD hS => ?_)
        refine lv_iadd hx hb dX11_mark_100 ?_
        have hz := Option.some.inj h
        subst hz
        exact hret H locs 101 ls (fun ty h => by cases h; rfl) (hP.sub [7, 0, 8, 1, 2, 3, 4, 5, 6] rfl) (hD.sub [7, 0, 8, 1, 2, 3, 4, 5, 6] (by decide) rfl) hS dX11_mark_101
      replace h := if_e c_21_1 h
      by_cases c_21_2 : p1 = 2
      · replace h := it_e c_21_2 h
        refine lv_tableIn (tgt := 102) hx hb dX11_mark_21 (by rw [c_21_2]; decide) (by rw [c_21_2]; decide) (by rw [c_21_2]; rfl) (by decide) ?_
        refine lv_aload_n hx hb dX11_mark_102 rfl (lv_at hl 0 rfl) ?_
        refine lv_dup hx hb dX11_mark_103 rfl ?_
        refine va_get (D := D) (ci := 10) (v := .long o_trace) (C := RX11) (T := TX11) (N := 25) hx hb hts u_X11 hown hK hP 7 rfl rfl 0 (by decide) k_f1 (fun _ h9 => h9) rfl dX11_mark_104 ?_
        refine lv_ldc2 (v := 101) hx hb hown k_L5 dX11_mark_107 ?_
        refine lv_ladd hx hb dX11_mark_110 ?_
        refine va_put (D := D) (ci := 10) (v := .long (o_trace + 101)) (ty := .long) (C := RX11) (T := TX11) (N := 25) hx hb hts u_X11 tyX11 tyX11_ok nmX11 hown hK hP hD hS 7 rfl rfl 0 (by decide) k_f1 (fun _ h9 => h9) rfl (tyX11_ok 0 (by decide)) rfl rfl (Nat.le_of_ble_eq_true rfl) dX11_mark_111 (fun H locs hP hD hS => ?_)
        have hP : va_P D vwCl [(a_values, .inl (cI, 3, .inl f_values)), (a_leaves, .inl (cI, 24, .inl f_leaves)), (a_signs, .inl (cI, 24, .inl f_signs)), (a_words, .inl (cI, 3, .inl f_words)), (a_word, .inl (cI, 9, .inl f_word)), (a_length, .inl (cI, 512, .inl f_length)), (a_found, .inl (cI, 512, .inl f_found)), (a_o, .inr (10, [.long (o_trace + 101), w_o_text, .int o_typed, .int o_choices, .int o_worlds, .ref a_values, .int o_at, .int o_start, .int o_sort, .int o_value, .int o_fault, w_o_draft, .ref a_sayings, .ref a_leaves, .ref a_signs, .ref a_words, .ref a_word, w_o_isKept, w_o_some, w_o_every, .int o_deep, .int o_many, .ref a_length, .ref a_found, .int o_foundMany])), (a_sayings, .inl (cI, 3, .inl f_sayings))] H := hP
        have hD : va_D A [(a_values, .inl (cI, 3, .inl f_values)), (a_leaves, .inl (cI, 24, .inl f_leaves)), (a_signs, .inl (cI, 24, .inl f_signs)), (a_words, .inl (cI, 3, .inl f_words)), (a_word, .inl (cI, 9, .inl f_word)), (a_length, .inl (cI, 512, .inl f_length)), (a_found, .inl (cI, 512, .inl f_found)), (a_o, .inr (10, [.long (o_trace + 101), w_o_text, .int o_typed, .int o_choices, .int o_worlds, .ref a_values, .int o_at, .int o_start, .int o_sort, .int o_value, .int o_fault, w_o_draft, .ref a_sayings, .ref a_leaves, .ref a_signs, .ref a_words, .ref a_word, w_o_isKept, w_o_some, w_o_every, .int o_deep, .int o_many, .ref a_length, .ref a_found, .int o_foundMany])), (a_sayings, .inl (cI, 3, .inl f_sayings))] := hD
        refine lv_iconst (v := 2) hx hb dX11_mark_114 ic_2 ?_
        refine lv_aload_n hx hb dX11_mark_115 rfl (lv_at hl 0 rfl) ?_
        refine va_get (D := D) (ci := 10) (v := .ref a_signs) (C := RX11) (T := TX11) (N := 25) hx hb hts u_X11 hown hK hP 7 rfl rfl 14 (by decide) k_f2 (fun _ h9 => h9) rfl dX11_mark_116 ?_
        refine lv_iload_n hx hb dX11_mark_119 rfl (lv_at hl 2 rfl) ?_
        obtain ⟨hi_120, h⟩ := ck_e h
        refine va_iald hx hb hK hP 2 0 rfl rfl hi_120 dX11_mark_120 ?_
        refine lv_imul hx hb dX11_mark_121 ?_
        have hz := Option.some.inj h
        subst hz
        exact hret H locs 122 ls (fun ty h => by cases h; rfl) (hP.sub [7, 0, 8, 1, 2, 3, 4, 5, 6] rfl) (hD.sub [7, 0, 8, 1, 2, 3, 4, 5, 6] (by decide) rfl) hS dX11_mark_122
      replace h := if_e c_21_2 h
      by_cases c_21_3 : p1 = 3
      · replace h := it_e c_21_3 h
        refine lv_tableIn (tgt := 123) hx hb dX11_mark_21 (by rw [c_21_3]; decide) (by rw [c_21_3]; decide) (by rw [c_21_3]; rfl) (by decide) ?_
        refine lv_aload_n hx hb dX11_mark_123 rfl (lv_at hl 0 rfl) ?_
        refine lv_dup hx hb dX11_mark_124 rfl ?_
        refine va_get (D := D) (ci := 10) (v := .long o_trace) (C := RX11) (T := TX11) (N := 25) hx hb hts u_X11 hown hK hP 7 rfl rfl 0 (by decide) k_f1 (fun _ h9 => h9) rfl dX11_mark_125 ?_
        refine lv_ldc2 (v := 1101) hx hb hown k_L6 dX11_mark_128 ?_
        refine lv_ladd hx hb dX11_mark_131 ?_
        refine va_put (D := D) (ci := 10) (v := .long (o_trace + 1101)) (ty := .long) (C := RX11) (T := TX11) (N := 25) hx hb hts u_X11 tyX11 tyX11_ok nmX11 hown hK hP hD hS 7 rfl rfl 0 (by decide) k_f1 (fun _ h9 => h9) rfl (tyX11_ok 0 (by decide)) rfl rfl (Nat.le_of_ble_eq_true rfl) dX11_mark_132 (fun H locs hP hD hS => ?_)
        have hP : va_P D vwCl [(a_values, .inl (cI, 3, .inl f_values)), (a_leaves, .inl (cI, 24, .inl f_leaves)), (a_signs, .inl (cI, 24, .inl f_signs)), (a_words, .inl (cI, 3, .inl f_words)), (a_word, .inl (cI, 9, .inl f_word)), (a_length, .inl (cI, 512, .inl f_length)), (a_found, .inl (cI, 512, .inl f_found)), (a_o, .inr (10, [.long (o_trace + 1101), w_o_text, .int o_typed, .int o_choices, .int o_worlds, .ref a_values, .int o_at, .int o_start, .int o_sort, .int o_value, .int o_fault, w_o_draft, .ref a_sayings, .ref a_leaves, .ref a_signs, .ref a_words, .ref a_word, w_o_isKept, w_o_some, w_o_every, .int o_deep, .int o_many, .ref a_length, .ref a_found, .int o_foundMany])), (a_sayings, .inl (cI, 3, .inl f_sayings))] H := hP
        have hD : va_D A [(a_values, .inl (cI, 3, .inl f_values)), (a_leaves, .inl (cI, 24, .inl f_leaves)), (a_signs, .inl (cI, 24, .inl f_signs)), (a_words, .inl (cI, 3, .inl f_words)), (a_word, .inl (cI, 9, .inl f_word)), (a_length, .inl (cI, 512, .inl f_length)), (a_found, .inl (cI, 512, .inl f_found)), (a_o, .inr (10, [.long (o_trace + 1101), w_o_text, .int o_typed, .int o_choices, .int o_worlds, .ref a_values, .int o_at, .int o_start, .int o_sort, .int o_value, .int o_fault, w_o_draft, .ref a_sayings, .ref a_leaves, .ref a_signs, .ref a_words, .ref a_word, w_o_isKept, w_o_some, w_o_every, .int o_deep, .int o_many, .ref a_length, .ref a_found, .int o_foundMany])), (a_sayings, .inl (cI, 3, .inl f_sayings))] := hD
        refine lv_iconst (v := 2) hx hb dX11_mark_135 ic_2 ?_
        refine lv_aload_n hx hb dX11_mark_136 rfl (lv_at hl 0 rfl) ?_
        refine va_get (D := D) (ci := 10) (v := .ref a_signs) (C := RX11) (T := TX11) (N := 25) hx hb hts u_X11 hown hK hP 7 rfl rfl 14 (by decide) k_f2 (fun _ h9 => h9) rfl dX11_mark_137 ?_
        refine lv_iload_n hx hb dX11_mark_140 rfl (lv_at hl 2 rfl) ?_
        obtain ⟨hi_141, h⟩ := ck_e h
        refine va_iald hx hb hK hP 2 0 rfl rfl hi_141 dX11_mark_141 ?_
        refine lv_imul hx hb dX11_mark_142 ?_
        refine lv_aload_n hx hb dX11_mark_143 rfl (lv_at hl 0 rfl) ?_
        refine lv_iload_n hx hb dX11_mark_144 rfl (lv_at hl 2 rfl) ?_
        obtain ⟨z_145, hc_145, h⟩ := bd_e h
        refine q_iV (As := [.int p2]) (rest := [.int (2 * (f_signs p2.toNatClampNeg))]) (wF := [(a_values, .inl (cI, 3, .inl f_values)), (a_signs, .inl (cI, 24, .inl f_signs)), (a_words, .inl (cI, 3, .inl f_words)), (a_word, .inl (cI, 9, .inl f_word)), (a_length, .inl (cI, 512, .inl f_length)), (a_found, .inl (cI, 512, .inl f_found)), (a_o, .inr (10, [.long (o_trace + 1101), w_o_text, .int o_typed, .int o_choices, .int o_worlds, .ref a_values, .int o_at, .int o_start, .int o_sort, .int o_value, .int o_fault, w_o_draft, .ref a_sayings, .ref a_leaves, .ref a_signs, .ref a_words, .ref a_word, w_o_isKept, w_o_some, w_o_every, .int o_deep, .int o_many, .ref a_length, .ref a_found, .int o_foundMany])), (a_sayings, .inl (cI, 3, .inl f_sayings)), (a_leaves, .inl (cI, 24, .inl f_leaves))]) hF hA hZ hK hP hD hS (c_X11_lostBy l D cI cB cZ a_o (o_trace + 1101) w_o_text o_typed o_choices o_worlds (.ref a_values) o_at o_start o_sort o_value o_fault w_o_draft (.ref a_signs) (.ref a_words) (.ref a_word) w_o_isKept w_o_some w_o_every o_deep o_many (.ref a_length) (.ref a_found) o_foundMany a_sayings f_sayings a_leaves f_leaves p2 z_145 hc_145) rfl gX11_mark_X11_lostBy hdX11_lostBy ⟨rfl, rfl⟩ (Nat.le_of_ble_eq_true rfl) (Nat.le_of_ble_eq_true rfl) 10 0 rfl rfl [7, 8, 1] [0, 2, 3, 4, 5, 6] rfl rfl rfl rfl (by decide) rfl hl.1 rfl (Nat.le_of_ble_eq_true rfl) (Nat.zero_le _) (Nat.zero_le _) dX11_mark_145 (fun H locs hP hD hS => ?_)
        refine lv_iadd hx hb dX11_mark_148 ?_
        have hz := Option.some.inj h
        subst hz
        exact hret H locs 149 ls (fun ty h => by cases h; rfl) (hP.sub [6, 0, 7, 8, 1, 2, 3, 4, 5] rfl) (hD.sub [6, 0, 7, 8, 1, 2, 3, 4, 5] (by decide) rfl) hS dX11_mark_149
      replace h := if_e c_21_3 h
      by_cases c_21_4 : p1 = 4
      · replace h := it_e c_21_4 h
        refine lv_tableIn (tgt := 150) hx hb dX11_mark_21 (by rw [c_21_4]; decide) (by rw [c_21_4]; decide) (by rw [c_21_4]; rfl) (by decide) ?_
        refine lv_aload_n hx hb dX11_mark_150 rfl (lv_at hl 0 rfl) ?_
        refine lv_dup hx hb dX11_mark_151 rfl ?_
        refine va_get (D := D) (ci := 10) (v := .long o_trace) (C := RX11) (T := TX11) (N := 25) hx hb hts u_X11 hown hK hP 7 rfl rfl 0 (by decide) k_f1 (fun _ h9 => h9) rfl dX11_mark_152 ?_
        refine lv_ldc2 (v := 10011) hx hb hown k_L7 dX11_mark_155 ?_
        refine lv_ladd hx hb dX11_mark_158 ?_
        refine va_put (D := D) (ci := 10) (v := .long (o_trace + 10011)) (ty := .long) (C := RX11) (T := TX11) (N := 25) hx hb hts u_X11 tyX11 tyX11_ok nmX11 hown hK hP hD hS 7 rfl rfl 0 (by decide) k_f1 (fun _ h9 => h9) rfl (tyX11_ok 0 (by decide)) rfl rfl (Nat.le_of_ble_eq_true rfl) dX11_mark_159 (fun H locs hP hD hS => ?_)
        have hP : va_P D vwCl [(a_values, .inl (cI, 3, .inl f_values)), (a_leaves, .inl (cI, 24, .inl f_leaves)), (a_signs, .inl (cI, 24, .inl f_signs)), (a_words, .inl (cI, 3, .inl f_words)), (a_word, .inl (cI, 9, .inl f_word)), (a_length, .inl (cI, 512, .inl f_length)), (a_found, .inl (cI, 512, .inl f_found)), (a_o, .inr (10, [.long (o_trace + 10011), w_o_text, .int o_typed, .int o_choices, .int o_worlds, .ref a_values, .int o_at, .int o_start, .int o_sort, .int o_value, .int o_fault, w_o_draft, .ref a_sayings, .ref a_leaves, .ref a_signs, .ref a_words, .ref a_word, w_o_isKept, w_o_some, w_o_every, .int o_deep, .int o_many, .ref a_length, .ref a_found, .int o_foundMany])), (a_sayings, .inl (cI, 3, .inl f_sayings))] H := hP
        have hD : va_D A [(a_values, .inl (cI, 3, .inl f_values)), (a_leaves, .inl (cI, 24, .inl f_leaves)), (a_signs, .inl (cI, 24, .inl f_signs)), (a_words, .inl (cI, 3, .inl f_words)), (a_word, .inl (cI, 9, .inl f_word)), (a_length, .inl (cI, 512, .inl f_length)), (a_found, .inl (cI, 512, .inl f_found)), (a_o, .inr (10, [.long (o_trace + 10011), w_o_text, .int o_typed, .int o_choices, .int o_worlds, .ref a_values, .int o_at, .int o_start, .int o_sort, .int o_value, .int o_fault, w_o_draft, .ref a_sayings, .ref a_leaves, .ref a_signs, .ref a_words, .ref a_word, w_o_isKept, w_o_some, w_o_every, .int o_deep, .int o_many, .ref a_length, .ref a_found, .int o_foundMany])), (a_sayings, .inl (cI, 3, .inl f_sayings))] := hD
        refine lv_aload_n hx hb dX11_mark_162 rfl (lv_at hl 0 rfl) ?_
        refine va_get (D := D) (ci := 10) (v := .ref a_signs) (C := RX11) (T := TX11) (N := 25) hx hb hts u_X11 hown hK hP 7 rfl rfl 14 (by decide) k_f2 (fun _ h9 => h9) rfl dX11_mark_163 ?_
        refine lv_iload_n hx hb dX11_mark_166 rfl (lv_at hl 2 rfl) ?_
        obtain ⟨hi_167, h⟩ := ck_e h
        refine va_iald hx hb hK hP 2 0 rfl rfl hi_167 dX11_mark_167 ?_
        refine lv_aload_n hx hb dX11_mark_168 rfl (lv_at hl 0 rfl) ?_
        refine va_get (D := D) (ci := 10) (v := .ref a_leaves) (C := RX11) (T := TX11) (N := 25) hx hb hts u_X11 hown hK hP 7 rfl rfl 13 (by decide) k_f4 (fun _ h9 => h9) rfl dX11_mark_169 ?_
        refine lv_iload_n hx hb dX11_mark_172 rfl (lv_at hl 2 rfl) ?_
        obtain ⟨hi_173, h⟩ := ck_e h
        refine va_iald hx hb hK hP 1 0 rfl rfl hi_173 dX11_mark_173 ?_
        obtain ⟨z_174, hc_174, h⟩ := bd_e h
        refine q_iS (As := [.int (f_leaves p2.toNatClampNeg)]) (rest := [.int (f_signs p2.toNatClampNeg)]) (wF := [(a_values, .inl (cI, 3, .inl f_values)), (a_leaves, .inl (cI, 24, .inl f_leaves)), (a_signs, .inl (cI, 24, .inl f_signs)), (a_words, .inl (cI, 3, .inl f_words)), (a_word, .inl (cI, 9, .inl f_word)), (a_length, .inl (cI, 512, .inl f_length)), (a_found, .inl (cI, 512, .inl f_found)), (a_o, .inr (10, [.long (o_trace + 10011), w_o_text, .int o_typed, .int o_choices, .int o_worlds, .ref a_values, .int o_at, .int o_start, .int o_sort, .int o_value, .int o_fault, w_o_draft, .ref a_sayings, .ref a_leaves, .ref a_signs, .ref a_words, .ref a_word, w_o_isKept, w_o_some, w_o_every, .int o_deep, .int o_many, .ref a_length, .ref a_found, .int o_foundMany])), (a_sayings, .inl (cI, 3, .inl f_sayings))]) hF hA hZ hK hP hD hS (c_X11_bitsIn l D cI cB cZ (f_leaves p2.toNatClampNeg) z_174 hc_174) rfl gX11_mark_X11_bitsIn hdX11_bitsIn ⟨rfl, rfl⟩ (Nat.le_of_ble_eq_true rfl) (Nat.le_of_ble_eq_true rfl) [] [0, 1, 2, 3, 4, 5, 6, 7, 8] rfl rfl rfl rfl (by decide) rfl hl.1 rfl (Nat.le_of_ble_eq_true rfl) (Nat.zero_le _) (Nat.zero_le _) dX11_mark_174 (fun H locs hP hD hS => ?_)
        refine lv_iadd hx hb dX11_mark_177 ?_
        refine lv_iload_n hx hb dX11_mark_178 rfl (lv_at hl 2 rfl) ?_
        refine lv_isub hx hb dX11_mark_179 ?_
        have hz := Option.some.inj h
        subst hz
        exact hret H locs 180 ls (fun ty h => by cases h; rfl) (hP.sub [7, 0, 8, 1, 2, 3, 4, 5, 6] rfl) (hD.sub [7, 0, 8, 1, 2, 3, 4, 5, 6] (by decide) rfl) hS dX11_mark_180
      replace h := if_e c_21_4 h
      refine lv_tableOut (tgt := 181) hx hb dX11_mark_21 (q_out5 c_21_0 c_21_1 c_21_2 c_21_3 c_21_4) (by decide) ?_
      refine lv_aload_n hx hb dX11_mark_181 rfl (lv_at hl 0 rfl) ?_
      refine lv_dup hx hb dX11_mark_182 rfl ?_
      refine va_get (D := D) (ci := 10) (v := .long o_trace) (C := RX11) (T := TX11) (N := 25) hx hb hts u_X11 hown hK hP 7 rfl rfl 0 (by decide) k_f1 (fun _ h9 => h9) rfl dX11_mark_183 ?_
      refine lv_ldc2 (v := 100001) hx hb hown k_L8 dX11_mark_186 ?_
      refine lv_ladd hx hb dX11_mark_189 ?_
      refine va_put (D := D) (ci := 10) (v := .long (o_trace + 100001)) (ty := .long) (C := RX11) (T := TX11) (N := 25) hx hb hts u_X11 tyX11 tyX11_ok nmX11 hown hK hP hD hS 7 rfl rfl 0 (by decide) k_f1 (fun _ h9 => h9) rfl (tyX11_ok 0 (by decide)) rfl rfl (Nat.le_of_ble_eq_true rfl) dX11_mark_190 (fun H locs hP hD hS => ?_)
      have hP : va_P D vwCl [(a_values, .inl (cI, 3, .inl f_values)), (a_leaves, .inl (cI, 24, .inl f_leaves)), (a_signs, .inl (cI, 24, .inl f_signs)), (a_words, .inl (cI, 3, .inl f_words)), (a_word, .inl (cI, 9, .inl f_word)), (a_length, .inl (cI, 512, .inl f_length)), (a_found, .inl (cI, 512, .inl f_found)), (a_o, .inr (10, [.long (o_trace + 100001), w_o_text, .int o_typed, .int o_choices, .int o_worlds, .ref a_values, .int o_at, .int o_start, .int o_sort, .int o_value, .int o_fault, w_o_draft, .ref a_sayings, .ref a_leaves, .ref a_signs, .ref a_words, .ref a_word, w_o_isKept, w_o_some, w_o_every, .int o_deep, .int o_many, .ref a_length, .ref a_found, .int o_foundMany])), (a_sayings, .inl (cI, 3, .inl f_sayings))] H := hP
      have hD : va_D A [(a_values, .inl (cI, 3, .inl f_values)), (a_leaves, .inl (cI, 24, .inl f_leaves)), (a_signs, .inl (cI, 24, .inl f_signs)), (a_words, .inl (cI, 3, .inl f_words)), (a_word, .inl (cI, 9, .inl f_word)), (a_length, .inl (cI, 512, .inl f_length)), (a_found, .inl (cI, 512, .inl f_found)), (a_o, .inr (10, [.long (o_trace + 100001), w_o_text, .int o_typed, .int o_choices, .int o_worlds, .ref a_values, .int o_at, .int o_start, .int o_sort, .int o_value, .int o_fault, w_o_draft, .ref a_sayings, .ref a_leaves, .ref a_signs, .ref a_words, .ref a_word, w_o_isKept, w_o_some, w_o_every, .int o_deep, .int o_many, .ref a_length, .ref a_found, .int o_foundMany])), (a_sayings, .inl (cI, 3, .inl f_sayings))] := hD
      refine lv_aload_n hx hb dX11_mark_193 rfl (lv_at hl 0 rfl) ?_
      refine lv_iconst (v := (-1)) hx hb dX11_mark_194 ic_m1 ?_
      obtain ⟨z_195, hc_195, h⟩ := bd_e h
      refine q_vV (As := [.int (-1)]) (rest := []) (wF := [(a_leaves, .inl (cI, 24, .inl f_leaves)), (a_signs, .inl (cI, 24, .inl f_signs)), (a_sayings, .inl (cI, 3, .inl f_sayings)), (a_o, .inr (10, [.long (o_trace + 100001), w_o_text, .int o_typed, .int o_choices, .int o_worlds, .ref a_values, .int o_at, .int o_start, .int o_sort, .int o_value, .int o_fault, w_o_draft, .ref a_sayings, .ref a_leaves, .ref a_signs, .ref a_words, .ref a_word, w_o_isKept, w_o_some, w_o_every, .int o_deep, .int o_many, .ref a_length, .ref a_found, .int z_195.1])), (a_values, .inl (cI, 3, .inl f_values)), (a_words, .inl (cI, 3, .inl f_words)), (a_word, .inl (cI, 9, .inl f_word)), (a_length, .inl (cI, 512, .inl z_195.2.1)), (a_found, .inl (cI, 512, .inl z_195.2.2))]) hF hA hZ hK hP hD hS (c_X11_findAll l D cI cB cZ a_o (o_trace + 100001) w_o_text o_typed o_choices o_worlds o_at o_start o_sort o_value o_fault w_o_draft (.ref a_sayings) (.ref a_leaves) (.ref a_signs) w_o_isKept w_o_some w_o_every o_deep o_many o_foundMany a_values f_values a_words f_words a_word f_word a_length f_length a_found f_found (-1) z_195 hc_195) rfl gX11_mark_X11_findAll hdX11_findAll ⟨rfl, rfl⟩ (Nat.le_of_ble_eq_true rfl) (Nat.le_of_ble_eq_true rfl) 10 0 rfl rfl [7, 0, 3, 4, 5, 6] [1, 2, 8] rfl rfl rfl rfl (by decide) rfl hl.1 rfl (Nat.le_of_ble_eq_true rfl) (Nat.zero_le _) (Nat.zero_le _) dX11_mark_195 (fun H locs hP hD hS => ?_)
      refine lv_aload_n hx hb dX11_mark_198 rfl (lv_at hl 0 rfl) ?_
      refine va_get (D := D) (ci := 10) (v := .ref a_signs) (C := RX11) (T := TX11) (N := 25) hx hb hts u_X11 hown hK hP 3 rfl rfl 14 (by decide) k_f2 (fun _ h9 => h9) rfl dX11_mark_199 ?_
      refine lv_iload_n hx hb dX11_mark_202 rfl (lv_at hl 2 rfl) ?_
      obtain ⟨hi_203, h⟩ := ck_e h
      refine va_iald hx hb hK hP 1 0 rfl rfl hi_203 dX11_mark_203 ?_
      refine lv_aload_n hx hb dX11_mark_204 rfl (lv_at hl 0 rfl) ?_
      refine va_get (D := D) (ci := 10) (v := .ref a_length) (C := RX11) (T := TX11) (N := 25) hx hb hts u_X11 hown hK hP 3 rfl rfl 22 (by decide) k_f9 (fun _ h9 => h9) rfl dX11_mark_205 ?_
      refine lv_aload_n hx hb dX11_mark_208 rfl (lv_at hl 0 rfl) ?_
      refine va_get (D := D) (ci := 10) (v := .ref a_leaves) (C := RX11) (T := TX11) (N := 25) hx hb hts u_X11 hown hK hP 3 rfl rfl 13 (by decide) k_f4 (fun _ h9 => h9) rfl dX11_mark_209 ?_
      refine lv_iload_n hx hb dX11_mark_212 rfl (lv_at hl 2 rfl) ?_
      obtain ⟨hi_213, h⟩ := ck_e h
      refine va_iald hx hb hK hP 0 0 rfl rfl hi_213 dX11_mark_213 ?_
      obtain ⟨hi_214, h⟩ := ck_e h
      refine va_iald hx hb hK hP 7 0 rfl rfl hi_214 dX11_mark_214 ?_
      refine lv_iadd hx hb dX11_mark_215 ?_
      have hz := Option.some.inj h
      subst hz
      exact hret H locs 216 ls (fun ty h => by cases h; rfl) (hP.sub [3, 4, 2, 0, 1, 5, 6, 7, 8] rfl) (hD.sub [3, 4, 2, 0, 1, 5, 6, 7, 8] (by decide) rfl) hS dX11_mark_216
    · replace h := it_e c_14 h
      refine lv_ldc (v := (-1000000)) hx hb hown k_c0 dX11_mark_17 ?_
      have hz := Option.some.inj h
      subst hz
      exact hret H locs 19 ls (fun ty h => by cases h; rfl) (hP.sub [7, 0, 8, 1, 2, 3, 4, 5, 6] rfl) (hD.sub [7, 0, 8, 1, 2, 3, 4, 5, 6] (by decide) rfl) hS dX11_mark_19
abbrev rmX11_copy : Room := { frames := 0, cells := 0, slots := 0, locals := 0 }
theorem hdX11_copy : yX11_copy.cls = RX11 ∧ yX11_copy.cls ≠ "java/lang/invoke/MethodHandle" ∧ yX11_copy.cls ≠ "java/lang/invoke/VarHandle" ∧ (parseMethodDescriptor yX11_copy.desc).map (fun d => d.parameters.length) = some 2 := by decide +kernel
set_option maxRecDepth 100000 in
set_option maxHeartbeats 4000000 in
theorem c_X11_copy (l : Launch) (D : va_G) (cI cB cZ : ClassId) (a_o : Nat) (o_trace : Int64) (w_o_text : Value) (o_typed : Int32) (o_choices : Int32) (o_worlds : Int32) (w_o_values : Value) (o_at : Int32) (o_start : Int32) (o_sort : Int32) (o_value : Int32) (o_fault : Int32) (w_o_draft : Value) (w_o_isKept : Value) (w_o_some : Value) (w_o_every : Value) (o_deep : Int32) (o_many : Int32) (w_o_length : Value) (w_o_found : Value) (o_foundMany : Int32) (a_sayings : Nat) (f_sayings : Nat → Int32) (a_leaves : Nat) (f_leaves : Nat → Int32) (a_signs : Nat) (f_signs : Nat → Int32) (a_words : Nat) (f_words : Nat → Int32) (a_word : Nat) (f_word : Nat → Int32) (p1 : Int32) (p2 : Int32) (z : (Nat → Int32) × (Nat → Int32) × (Nat → Int32) × (Nat → Int32) × (Nat → Int32)) (h : P_X11_copy p1 p2 f_sayings f_leaves f_signs f_words f_word = some z) : KV l yX11_copy wsX11_copy rmX11_copy D [(cI, .int), (cB, .byte), (cZ, .boolean)] [.ref a_o, .int p1, .int p2] [(a_o, .inr (10, [.long o_trace, w_o_text, .int o_typed, .int o_choices, .int o_worlds, w_o_values, .int o_at, .int o_start, .int o_sort, .int o_value, .int o_fault, w_o_draft, .ref a_sayings, .ref a_leaves, .ref a_signs, .ref a_words, .ref a_word, w_o_isKept, w_o_some, w_o_every, .int o_deep, .int o_many, w_o_length, w_o_found, .int o_foundMany])), (a_sayings, .inl (cI, 3, .inl f_sayings)), (a_leaves, .inl (cI, 24, .inl f_leaves)), (a_signs, .inl (cI, 24, .inl f_signs)), (a_words, .inl (cI, 3, .inl f_words)), (a_word, .inl (cI, 9, .inl f_word))] [(a_o, .inr (10, [.long o_trace, w_o_text, .int o_typed, .int o_choices, .int o_worlds, w_o_values, .int o_at, .int o_start, .int o_sort, .int o_value, .int o_fault, w_o_draft, .ref a_sayings, .ref a_leaves, .ref a_signs, .ref a_words, .ref a_word, w_o_isKept, w_o_some, w_o_every, .int o_deep, .int o_many, w_o_length, w_o_found, .int o_foundMany])), (a_sayings, .inl (cI, 3, .inl z.1)), (a_leaves, .inl (cI, 24, .inl z.2.1)), (a_signs, .inl (cI, 24, .inl z.2.2.1)), (a_words, .inl (cI, 3, .inl z.2.2.2.1)), (a_word, .inl (cI, 9, .inl z.2.2.2.2))] := by
  refine KV_of (own := RX11) (cc := cX11_copy) (maxL := 4) (by decide) rfl rfl (Nat.le_of_ble_eq_true rfl) ?_
  intro p e s m args below meth c A Q hx hb hml hown hts hA hZ hK hret H locs ls hP hD hS hl
  have hl : lv_has ls 4 [(0, .ref a_o), (1, .int p1), (2, .int p2)] := hl
  have hF : CallFix p m c cX11_copy 4 s args wsX11_copy RX11 := ⟨hx, hb, hml, hown, hts⟩
  have u_X11 : ∀ w ∈ u_ws RX11 TX11 25, w ∈ wsX11_copy := by decide +kernel
  have k_f0 := hts (.fieldLink RX11 20 "NoWordNoModel" "sayings" "[I") (by decide +kernel)
  have k_f1 := hts (.fieldLink RX11 29 "NoWordNoModel" "words" "[I") (by decide +kernel)
  have k_f2 := hts (.fieldLink RX11 32 "NoWordNoModel" "word" "[I") (by decide +kernel)
  have k_f3 := hts (.fieldLink RX11 23 "NoWordNoModel" "leaves" "[I") (by decide +kernel)
  have k_f4 := hts (.fieldLink RX11 26 "NoWordNoModel" "signs" "[I") (by decide +kernel)
  unfold P_X11_copy at h
  refine lv_aload_n hx hb dX11_copy_0 rfl (lv_at hl 0 rfl) ?_
  refine va_get (D := D) (ci := 10) (v := .ref a_sayings) (C := RX11) (T := TX11) (N := 25) hx hb hts u_X11 hown hK hP 0 rfl rfl 12 (by decide) k_f0 (fun _ h9 => h9) rfl dX11_copy_1 ?_
  refine lv_iload_n hx hb dX11_copy_4 rfl (lv_at hl 2 rfl) ?_
  refine lv_aload_n hx hb dX11_copy_5 rfl (lv_at hl 0 rfl) ?_
  refine va_get (D := D) (ci := 10) (v := .ref a_sayings) (C := RX11) (T := TX11) (N := 25) hx hb hts u_X11 hown hK hP 0 rfl rfl 12 (by decide) k_f0 (fun _ h9 => h9) rfl dX11_copy_6 ?_
  refine lv_iload_n hx hb dX11_copy_9 rfl (lv_at hl 1 rfl) ?_
  obtain ⟨hi_10, h⟩ := ck_e h
  refine va_iald hx hb hK hP 1 0 rfl rfl hi_10 dX11_copy_10 ?_
  obtain ⟨hi_11, h⟩ := ck_e h
  refine va_iast hx hb hK hP hD hS 1 0 rfl rfl hi_11 dX11_copy_11 (fun H locs hP hD hS => ?_)
  have hP : va_P D vwCl [(a_o, .inr (10, [.long o_trace, w_o_text, .int o_typed, .int o_choices, .int o_worlds, w_o_values, .int o_at, .int o_start, .int o_sort, .int o_value, .int o_fault, w_o_draft, .ref a_sayings, .ref a_leaves, .ref a_signs, .ref a_words, .ref a_word, w_o_isKept, w_o_some, w_o_every, .int o_deep, .int o_many, w_o_length, w_o_found, .int o_foundMany])), (a_sayings, .inl (cI, 3, .inl (upd f_sayings p2.toNatClampNeg (f_sayings p1.toNatClampNeg)))), (a_leaves, .inl (cI, 24, .inl f_leaves)), (a_signs, .inl (cI, 24, .inl f_signs)), (a_words, .inl (cI, 3, .inl f_words)), (a_word, .inl (cI, 9, .inl f_word))] H := hP
  have hD : va_D A [(a_o, .inr (10, [.long o_trace, w_o_text, .int o_typed, .int o_choices, .int o_worlds, w_o_values, .int o_at, .int o_start, .int o_sort, .int o_value, .int o_fault, w_o_draft, .ref a_sayings, .ref a_leaves, .ref a_signs, .ref a_words, .ref a_word, w_o_isKept, w_o_some, w_o_every, .int o_deep, .int o_many, w_o_length, w_o_found, .int o_foundMany])), (a_sayings, .inl (cI, 3, .inl (upd f_sayings p2.toNatClampNeg (f_sayings p1.toNatClampNeg)))), (a_leaves, .inl (cI, 24, .inl f_leaves)), (a_signs, .inl (cI, 24, .inl f_signs)), (a_words, .inl (cI, 3, .inl f_words)), (a_word, .inl (cI, 9, .inl f_word))] := hD
  refine lv_aload_n hx hb dX11_copy_12 rfl (lv_at hl 0 rfl) ?_
  refine va_get (D := D) (ci := 10) (v := .ref a_words) (C := RX11) (T := TX11) (N := 25) hx hb hts u_X11 hown hK hP 0 rfl rfl 15 (by decide) k_f1 (fun _ h9 => h9) rfl dX11_copy_13 ?_
  refine lv_iload_n hx hb dX11_copy_16 rfl (lv_at hl 2 rfl) ?_
  refine lv_aload_n hx hb dX11_copy_17 rfl (lv_at hl 0 rfl) ?_
  refine va_get (D := D) (ci := 10) (v := .ref a_words) (C := RX11) (T := TX11) (N := 25) hx hb hts u_X11 hown hK hP 0 rfl rfl 15 (by decide) k_f1 (fun _ h9 => h9) rfl dX11_copy_18 ?_
  refine lv_iload_n hx hb dX11_copy_21 rfl (lv_at hl 1 rfl) ?_
  obtain ⟨hi_22, h⟩ := ck_e h
  refine va_iald hx hb hK hP 4 0 rfl rfl hi_22 dX11_copy_22 ?_
  obtain ⟨hi_23, h⟩ := ck_e h
  refine va_iast hx hb hK hP hD hS 4 0 rfl rfl hi_23 dX11_copy_23 (fun H locs hP hD hS => ?_)
  have hP : va_P D vwCl [(a_o, .inr (10, [.long o_trace, w_o_text, .int o_typed, .int o_choices, .int o_worlds, w_o_values, .int o_at, .int o_start, .int o_sort, .int o_value, .int o_fault, w_o_draft, .ref a_sayings, .ref a_leaves, .ref a_signs, .ref a_words, .ref a_word, w_o_isKept, w_o_some, w_o_every, .int o_deep, .int o_many, w_o_length, w_o_found, .int o_foundMany])), (a_sayings, .inl (cI, 3, .inl (upd f_sayings p2.toNatClampNeg (f_sayings p1.toNatClampNeg)))), (a_leaves, .inl (cI, 24, .inl f_leaves)), (a_signs, .inl (cI, 24, .inl f_signs)), (a_words, .inl (cI, 3, .inl (upd f_words p2.toNatClampNeg (f_words p1.toNatClampNeg)))), (a_word, .inl (cI, 9, .inl f_word))] H := hP
  have hD : va_D A [(a_o, .inr (10, [.long o_trace, w_o_text, .int o_typed, .int o_choices, .int o_worlds, w_o_values, .int o_at, .int o_start, .int o_sort, .int o_value, .int o_fault, w_o_draft, .ref a_sayings, .ref a_leaves, .ref a_signs, .ref a_words, .ref a_word, w_o_isKept, w_o_some, w_o_every, .int o_deep, .int o_many, w_o_length, w_o_found, .int o_foundMany])), (a_sayings, .inl (cI, 3, .inl (upd f_sayings p2.toNatClampNeg (f_sayings p1.toNatClampNeg)))), (a_leaves, .inl (cI, 24, .inl f_leaves)), (a_signs, .inl (cI, 24, .inl f_signs)), (a_words, .inl (cI, 3, .inl (upd f_words p2.toNatClampNeg (f_words p1.toNatClampNeg)))), (a_word, .inl (cI, 9, .inl f_word))] := hD
  refine lv_iconst (v := 0) hx hb dX11_copy_24 ic_0 ?_
  refine lv_istore_n (lv' := [(3, .int 0), (0, .ref a_o), (1, .int p1), (2, .int p2)]) hx hb dX11_copy_25 rfl hl (by decide) rfl (fun ls hl => ?_)
  obtain ⟨k82, hk82, h⟩ := jn_e h
  have Jk82 : ∀ (x82_f_leaves : (Nat → Int32)) (x82_f_signs : (Nat → Int32)) (H : Heap) (locs : List Loc) (ls : Array Slot), k82 x82_f_leaves x82_f_signs = some z → va_P D vwCl [(a_o, .inr (10, [.long o_trace, w_o_text, .int o_typed, .int o_choices, .int o_worlds, w_o_values, .int o_at, .int o_start, .int o_sort, .int o_value, .int o_fault, w_o_draft, .ref a_sayings, .ref a_leaves, .ref a_signs, .ref a_words, .ref a_word, w_o_isKept, w_o_some, w_o_every, .int o_deep, .int o_many, w_o_length, w_o_found, .int o_foundMany])), (a_sayings, .inl (cI, 3, .inl (upd f_sayings p2.toNatClampNeg (f_sayings p1.toNatClampNeg)))), (a_leaves, .inl (cI, 24, .inl x82_f_leaves)), (a_signs, .inl (cI, 24, .inl x82_f_signs)), (a_words, .inl (cI, 3, .inl (upd f_words p2.toNatClampNeg (f_words p1.toNatClampNeg)))), (a_word, .inl (cI, 9, .inl f_word))] H → va_D A [(a_o, .inr (10, [.long o_trace, w_o_text, .int o_typed, .int o_choices, .int o_worlds, w_o_values, .int o_at, .int o_start, .int o_sort, .int o_value, .int o_fault, w_o_draft, .ref a_sayings, .ref a_leaves, .ref a_signs, .ref a_words, .ref a_word, w_o_isKept, w_o_some, w_o_every, .int o_deep, .int o_many, w_o_length, w_o_found, .int o_foundMany])), (a_sayings, .inl (cI, 3, .inl (upd f_sayings p2.toNatClampNeg (f_sayings p1.toNatClampNeg)))), (a_leaves, .inl (cI, 24, .inl x82_f_leaves)), (a_signs, .inl (cI, 24, .inl x82_f_signs)), (a_words, .inl (cI, 3, .inl (upd f_words p2.toNatClampNeg (f_words p1.toNatClampNeg)))), (a_word, .inl (cI, 9, .inl f_word))] → va_S A s.heap H locs → lv_has ls 4 [(0, .ref a_o), (1, .int p1), (2, .int p2)] → W p l e rmX11_copy s m args below meth c H locs 0 0 Q (F0 m 82 ls []) := by
    intro x82_f_leaves x82_f_signs H locs ls h hP hD hS hl
    rw [hk82] at h
    refine lv_iconst (v := 0) hx hb dX11_copy_82 ic_0 ?_
    refine lv_istore_n (lv' := [(3, .int 0), (0, .ref a_o), (1, .int p1), (2, .int p2)]) hx hb dX11_copy_83 rfl hl (by decide) rfl (fun ls hl => ?_)
    have L84 : ∀ (n : Nat), ∀ (x84_l3 : Int32) (x84_f_word : (Nat → Int32)) (H : Heap) (locs : List Loc) (ls : Array Slot), P_X11_copy_84 p1 p2 f_sayings f_words x82_f_leaves x82_f_signs n x84_l3 x84_f_word = some z → va_P D vwCl [(a_o, .inr (10, [.long o_trace, w_o_text, .int o_typed, .int o_choices, .int o_worlds, w_o_values, .int o_at, .int o_start, .int o_sort, .int o_value, .int o_fault, w_o_draft, .ref a_sayings, .ref a_leaves, .ref a_signs, .ref a_words, .ref a_word, w_o_isKept, w_o_some, w_o_every, .int o_deep, .int o_many, w_o_length, w_o_found, .int o_foundMany])), (a_sayings, .inl (cI, 3, .inl (upd f_sayings p2.toNatClampNeg (f_sayings p1.toNatClampNeg)))), (a_leaves, .inl (cI, 24, .inl x82_f_leaves)), (a_signs, .inl (cI, 24, .inl x82_f_signs)), (a_words, .inl (cI, 3, .inl (upd f_words p2.toNatClampNeg (f_words p1.toNatClampNeg)))), (a_word, .inl (cI, 9, .inl x84_f_word))] H → va_D A [(a_o, .inr (10, [.long o_trace, w_o_text, .int o_typed, .int o_choices, .int o_worlds, w_o_values, .int o_at, .int o_start, .int o_sort, .int o_value, .int o_fault, w_o_draft, .ref a_sayings, .ref a_leaves, .ref a_signs, .ref a_words, .ref a_word, w_o_isKept, w_o_some, w_o_every, .int o_deep, .int o_many, w_o_length, w_o_found, .int o_foundMany])), (a_sayings, .inl (cI, 3, .inl (upd f_sayings p2.toNatClampNeg (f_sayings p1.toNatClampNeg)))), (a_leaves, .inl (cI, 24, .inl x82_f_leaves)), (a_signs, .inl (cI, 24, .inl x82_f_signs)), (a_words, .inl (cI, 3, .inl (upd f_words p2.toNatClampNeg (f_words p1.toNatClampNeg)))), (a_word, .inl (cI, 9, .inl x84_f_word))] → va_S A s.heap H locs → lv_has ls 4 [(0, .ref a_o), (1, .int p1), (2, .int p2), (3, .int x84_l3)] → W p l e rmX11_copy s m args below meth c H locs 0 0 Q (F0 m 84 ls []) := by
      intro n
      induction n with
      | zero =>
        intro x84_l3 x84_f_word H locs ls h
        exact no_e h
      | succ n ih84 =>
        intro x84_l3 x84_f_word H locs ls h hP hD hS hl
        rw [P_X11_copy_84] at h
        refine lv_iload_n hx hb dX11_copy_84 rfl (lv_at hl 3 rfl) ?_
        refine lv_iconst (v := 3) hx hb dX11_copy_85 ic_3 ?_
        refine lv_icmp_ge (tgt := 115) hx hb dX11_copy_86 (by decide) (fun c_86 => ?_) (fun c_86 => ?_)
        · replace h := it_e c_86 h
          have hz := Option.some.inj h
          subst hz
          exact hret H locs 115 ls hP hD hS dX11_copy_115
        · replace h := if_e c_86 h
          refine lv_aload_n hx hb dX11_copy_89 rfl (lv_at hl 0 rfl) ?_
          refine va_get (D := D) (ci := 10) (v := .ref a_word) (C := RX11) (T := TX11) (N := 25) hx hb hts u_X11 hown hK hP 0 rfl rfl 16 (by decide) k_f2 (fun _ h9 => h9) rfl dX11_copy_90 ?_
          refine lv_iconst (v := 3) hx hb dX11_copy_93 ic_3 ?_
          refine lv_iload_n hx hb dX11_copy_94 rfl (lv_at hl 2 rfl) ?_
          refine lv_imul hx hb dX11_copy_95 ?_
          refine lv_iload_n hx hb dX11_copy_96 rfl (lv_at hl 3 rfl) ?_
          refine lv_iadd hx hb dX11_copy_97 ?_
          refine lv_aload_n hx hb dX11_copy_98 rfl (lv_at hl 0 rfl) ?_
          refine va_get (D := D) (ci := 10) (v := .ref a_word) (C := RX11) (T := TX11) (N := 25) hx hb hts u_X11 hown hK hP 0 rfl rfl 16 (by decide) k_f2 (fun _ h9 => h9) rfl dX11_copy_99 ?_
          refine lv_iconst (v := 3) hx hb dX11_copy_102 ic_3 ?_
          refine lv_iload_n hx hb dX11_copy_103 rfl (lv_at hl 1 rfl) ?_
          refine lv_imul hx hb dX11_copy_104 ?_
          refine lv_iload_n hx hb dX11_copy_105 rfl (lv_at hl 3 rfl) ?_
          refine lv_iadd hx hb dX11_copy_106 ?_
          obtain ⟨hi_107, h⟩ := ck_e h
          refine va_iald hx hb hK hP 5 0 rfl rfl hi_107 dX11_copy_107 ?_
          obtain ⟨hi_108, h⟩ := ck_e h
          refine va_iast hx hb hK hP hD hS 5 0 rfl rfl hi_108 dX11_copy_108 (fun H locs hP hD hS => ?_)
          have hP : va_P D vwCl [(a_o, .inr (10, [.long o_trace, w_o_text, .int o_typed, .int o_choices, .int o_worlds, w_o_values, .int o_at, .int o_start, .int o_sort, .int o_value, .int o_fault, w_o_draft, .ref a_sayings, .ref a_leaves, .ref a_signs, .ref a_words, .ref a_word, w_o_isKept, w_o_some, w_o_every, .int o_deep, .int o_many, w_o_length, w_o_found, .int o_foundMany])), (a_sayings, .inl (cI, 3, .inl (upd f_sayings p2.toNatClampNeg (f_sayings p1.toNatClampNeg)))), (a_leaves, .inl (cI, 24, .inl x82_f_leaves)), (a_signs, .inl (cI, 24, .inl x82_f_signs)), (a_words, .inl (cI, 3, .inl (upd f_words p2.toNatClampNeg (f_words p1.toNatClampNeg)))), (a_word, .inl (cI, 9, .inl (upd x84_f_word ((3 * p2) + x84_l3).toNatClampNeg (x84_f_word ((3 * p1) + x84_l3).toNatClampNeg))))] H := hP
          have hD : va_D A [(a_o, .inr (10, [.long o_trace, w_o_text, .int o_typed, .int o_choices, .int o_worlds, w_o_values, .int o_at, .int o_start, .int o_sort, .int o_value, .int o_fault, w_o_draft, .ref a_sayings, .ref a_leaves, .ref a_signs, .ref a_words, .ref a_word, w_o_isKept, w_o_some, w_o_every, .int o_deep, .int o_many, w_o_length, w_o_found, .int o_foundMany])), (a_sayings, .inl (cI, 3, .inl (upd f_sayings p2.toNatClampNeg (f_sayings p1.toNatClampNeg)))), (a_leaves, .inl (cI, 24, .inl x82_f_leaves)), (a_signs, .inl (cI, 24, .inl x82_f_signs)), (a_words, .inl (cI, 3, .inl (upd f_words p2.toNatClampNeg (f_words p1.toNatClampNeg)))), (a_word, .inl (cI, 9, .inl (upd x84_f_word ((3 * p2) + x84_l3).toNatClampNeg (x84_f_word ((3 * p1) + x84_l3).toNatClampNeg))))] := hD
          refine lv_iinc (v := x84_l3 + 1) (lv' := [(3, .int (x84_l3 + 1)), (0, .ref a_o), (1, .int p1), (2, .int p2)]) hx hb dX11_copy_109 hl (k := 3) rfl (congrArg (x84_l3 + ·) ic_1) (by decide) rfl (fun ls hl => ?_)
          refine lv_goto (tgt := 84) hx hb dX11_copy_112 (by decide) ?_
          exact ih84 (x84_l3 + 1) (upd x84_f_word ((3 * p2) + x84_l3).toNatClampNeg (x84_f_word ((3 * p1) + x84_l3).toNatClampNeg)) H locs ls h hP hD hS (lv_sub hl [1, 2, 3, 0] rfl)
    exact L84 QF 0 f_word H locs ls h hP hD hS (lv_sub hl [1, 2, 3, 0] rfl)
  have L26 : ∀ (n : Nat), ∀ (x26_l3 : Int32) (x26_f_leaves : (Nat → Int32)) (x26_f_signs : (Nat → Int32)) (H : Heap) (locs : List Loc) (ls : Array Slot), P_X11_copy_26 p1 p2 k82 n x26_l3 x26_f_leaves x26_f_signs = some z → va_P D vwCl [(a_o, .inr (10, [.long o_trace, w_o_text, .int o_typed, .int o_choices, .int o_worlds, w_o_values, .int o_at, .int o_start, .int o_sort, .int o_value, .int o_fault, w_o_draft, .ref a_sayings, .ref a_leaves, .ref a_signs, .ref a_words, .ref a_word, w_o_isKept, w_o_some, w_o_every, .int o_deep, .int o_many, w_o_length, w_o_found, .int o_foundMany])), (a_sayings, .inl (cI, 3, .inl (upd f_sayings p2.toNatClampNeg (f_sayings p1.toNatClampNeg)))), (a_leaves, .inl (cI, 24, .inl x26_f_leaves)), (a_signs, .inl (cI, 24, .inl x26_f_signs)), (a_words, .inl (cI, 3, .inl (upd f_words p2.toNatClampNeg (f_words p1.toNatClampNeg)))), (a_word, .inl (cI, 9, .inl f_word))] H → va_D A [(a_o, .inr (10, [.long o_trace, w_o_text, .int o_typed, .int o_choices, .int o_worlds, w_o_values, .int o_at, .int o_start, .int o_sort, .int o_value, .int o_fault, w_o_draft, .ref a_sayings, .ref a_leaves, .ref a_signs, .ref a_words, .ref a_word, w_o_isKept, w_o_some, w_o_every, .int o_deep, .int o_many, w_o_length, w_o_found, .int o_foundMany])), (a_sayings, .inl (cI, 3, .inl (upd f_sayings p2.toNatClampNeg (f_sayings p1.toNatClampNeg)))), (a_leaves, .inl (cI, 24, .inl x26_f_leaves)), (a_signs, .inl (cI, 24, .inl x26_f_signs)), (a_words, .inl (cI, 3, .inl (upd f_words p2.toNatClampNeg (f_words p1.toNatClampNeg)))), (a_word, .inl (cI, 9, .inl f_word))] → va_S A s.heap H locs → lv_has ls 4 [(0, .ref a_o), (1, .int p1), (2, .int p2), (3, .int x26_l3)] → W p l e rmX11_copy s m args below meth c H locs 0 0 Q (F0 m 26 ls []) := by
    intro n
    induction n with
    | zero =>
      intro x26_l3 x26_f_leaves x26_f_signs H locs ls h
      exact no_e h
    | succ n ih26 =>
      intro x26_l3 x26_f_leaves x26_f_signs H locs ls h hP hD hS hl
      rw [P_X11_copy_26] at h
      refine lv_iload_n hx hb dX11_copy_26 rfl (lv_at hl 3 rfl) ?_
      refine lv_bipush (v := 8) hx hb dX11_copy_27 bc_8 ?_
      refine lv_icmp_ge (tgt := 82) hx hb dX11_copy_29 (by decide) (fun c_29 => ?_) (fun c_29 => ?_)
      · replace h := it_e c_29 h
        exact Jk82 x26_f_leaves x26_f_signs H locs ls h hP hD hS (lv_sub hl [0, 1, 2] rfl)
      · replace h := if_e c_29 h
        refine lv_aload_n hx hb dX11_copy_32 rfl (lv_at hl 0 rfl) ?_
        refine va_get (D := D) (ci := 10) (v := .ref a_leaves) (C := RX11) (T := TX11) (N := 25) hx hb hts u_X11 hown hK hP 0 rfl rfl 13 (by decide) k_f3 (fun _ h9 => h9) rfl dX11_copy_33 ?_
        refine lv_bipush (v := 8) hx hb dX11_copy_36 bc_8 ?_
        refine lv_iload_n hx hb dX11_copy_38 rfl (lv_at hl 2 rfl) ?_
        refine lv_imul hx hb dX11_copy_39 ?_
        refine lv_iload_n hx hb dX11_copy_40 rfl (lv_at hl 3 rfl) ?_
        refine lv_iadd hx hb dX11_copy_41 ?_
        refine lv_aload_n hx hb dX11_copy_42 rfl (lv_at hl 0 rfl) ?_
        refine va_get (D := D) (ci := 10) (v := .ref a_leaves) (C := RX11) (T := TX11) (N := 25) hx hb hts u_X11 hown hK hP 0 rfl rfl 13 (by decide) k_f3 (fun _ h9 => h9) rfl dX11_copy_43 ?_
        refine lv_bipush (v := 8) hx hb dX11_copy_46 bc_8 ?_
        refine lv_iload_n hx hb dX11_copy_48 rfl (lv_at hl 1 rfl) ?_
        refine lv_imul hx hb dX11_copy_49 ?_
        refine lv_iload_n hx hb dX11_copy_50 rfl (lv_at hl 3 rfl) ?_
        refine lv_iadd hx hb dX11_copy_51 ?_
        obtain ⟨hi_52, h⟩ := ck_e h
        refine va_iald hx hb hK hP 2 0 rfl rfl hi_52 dX11_copy_52 ?_
        obtain ⟨hi_53, h⟩ := ck_e h
        refine va_iast hx hb hK hP hD hS 2 0 rfl rfl hi_53 dX11_copy_53 (fun H locs hP hD hS => ?_)
        have hP : va_P D vwCl [(a_o, .inr (10, [.long o_trace, w_o_text, .int o_typed, .int o_choices, .int o_worlds, w_o_values, .int o_at, .int o_start, .int o_sort, .int o_value, .int o_fault, w_o_draft, .ref a_sayings, .ref a_leaves, .ref a_signs, .ref a_words, .ref a_word, w_o_isKept, w_o_some, w_o_every, .int o_deep, .int o_many, w_o_length, w_o_found, .int o_foundMany])), (a_sayings, .inl (cI, 3, .inl (upd f_sayings p2.toNatClampNeg (f_sayings p1.toNatClampNeg)))), (a_leaves, .inl (cI, 24, .inl (upd x26_f_leaves ((8 * p2) + x26_l3).toNatClampNeg (x26_f_leaves ((8 * p1) + x26_l3).toNatClampNeg)))), (a_signs, .inl (cI, 24, .inl x26_f_signs)), (a_words, .inl (cI, 3, .inl (upd f_words p2.toNatClampNeg (f_words p1.toNatClampNeg)))), (a_word, .inl (cI, 9, .inl f_word))] H := hP
        have hD : va_D A [(a_o, .inr (10, [.long o_trace, w_o_text, .int o_typed, .int o_choices, .int o_worlds, w_o_values, .int o_at, .int o_start, .int o_sort, .int o_value, .int o_fault, w_o_draft, .ref a_sayings, .ref a_leaves, .ref a_signs, .ref a_words, .ref a_word, w_o_isKept, w_o_some, w_o_every, .int o_deep, .int o_many, w_o_length, w_o_found, .int o_foundMany])), (a_sayings, .inl (cI, 3, .inl (upd f_sayings p2.toNatClampNeg (f_sayings p1.toNatClampNeg)))), (a_leaves, .inl (cI, 24, .inl (upd x26_f_leaves ((8 * p2) + x26_l3).toNatClampNeg (x26_f_leaves ((8 * p1) + x26_l3).toNatClampNeg)))), (a_signs, .inl (cI, 24, .inl x26_f_signs)), (a_words, .inl (cI, 3, .inl (upd f_words p2.toNatClampNeg (f_words p1.toNatClampNeg)))), (a_word, .inl (cI, 9, .inl f_word))] := hD
        refine lv_aload_n hx hb dX11_copy_54 rfl (lv_at hl 0 rfl) ?_
        refine va_get (D := D) (ci := 10) (v := .ref a_signs) (C := RX11) (T := TX11) (N := 25) hx hb hts u_X11 hown hK hP 0 rfl rfl 14 (by decide) k_f4 (fun _ h9 => h9) rfl dX11_copy_55 ?_
        refine lv_bipush (v := 8) hx hb dX11_copy_58 bc_8 ?_
        refine lv_iload_n hx hb dX11_copy_60 rfl (lv_at hl 2 rfl) ?_
        refine lv_imul hx hb dX11_copy_61 ?_
        refine lv_iload_n hx hb dX11_copy_62 rfl (lv_at hl 3 rfl) ?_
        refine lv_iadd hx hb dX11_copy_63 ?_
        refine lv_aload_n hx hb dX11_copy_64 rfl (lv_at hl 0 rfl) ?_
        refine va_get (D := D) (ci := 10) (v := .ref a_signs) (C := RX11) (T := TX11) (N := 25) hx hb hts u_X11 hown hK hP 0 rfl rfl 14 (by decide) k_f4 (fun _ h9 => h9) rfl dX11_copy_65 ?_
        refine lv_bipush (v := 8) hx hb dX11_copy_68 bc_8 ?_
        refine lv_iload_n hx hb dX11_copy_70 rfl (lv_at hl 1 rfl) ?_
        refine lv_imul hx hb dX11_copy_71 ?_
        refine lv_iload_n hx hb dX11_copy_72 rfl (lv_at hl 3 rfl) ?_
        refine lv_iadd hx hb dX11_copy_73 ?_
        obtain ⟨hi_74, h⟩ := ck_e h
        refine va_iald hx hb hK hP 3 0 rfl rfl hi_74 dX11_copy_74 ?_
        obtain ⟨hi_75, h⟩ := ck_e h
        refine va_iast hx hb hK hP hD hS 3 0 rfl rfl hi_75 dX11_copy_75 (fun H locs hP hD hS => ?_)
        have hP : va_P D vwCl [(a_o, .inr (10, [.long o_trace, w_o_text, .int o_typed, .int o_choices, .int o_worlds, w_o_values, .int o_at, .int o_start, .int o_sort, .int o_value, .int o_fault, w_o_draft, .ref a_sayings, .ref a_leaves, .ref a_signs, .ref a_words, .ref a_word, w_o_isKept, w_o_some, w_o_every, .int o_deep, .int o_many, w_o_length, w_o_found, .int o_foundMany])), (a_sayings, .inl (cI, 3, .inl (upd f_sayings p2.toNatClampNeg (f_sayings p1.toNatClampNeg)))), (a_leaves, .inl (cI, 24, .inl (upd x26_f_leaves ((8 * p2) + x26_l3).toNatClampNeg (x26_f_leaves ((8 * p1) + x26_l3).toNatClampNeg)))), (a_signs, .inl (cI, 24, .inl (upd x26_f_signs ((8 * p2) + x26_l3).toNatClampNeg (x26_f_signs ((8 * p1) + x26_l3).toNatClampNeg)))), (a_words, .inl (cI, 3, .inl (upd f_words p2.toNatClampNeg (f_words p1.toNatClampNeg)))), (a_word, .inl (cI, 9, .inl f_word))] H := hP
        have hD : va_D A [(a_o, .inr (10, [.long o_trace, w_o_text, .int o_typed, .int o_choices, .int o_worlds, w_o_values, .int o_at, .int o_start, .int o_sort, .int o_value, .int o_fault, w_o_draft, .ref a_sayings, .ref a_leaves, .ref a_signs, .ref a_words, .ref a_word, w_o_isKept, w_o_some, w_o_every, .int o_deep, .int o_many, w_o_length, w_o_found, .int o_foundMany])), (a_sayings, .inl (cI, 3, .inl (upd f_sayings p2.toNatClampNeg (f_sayings p1.toNatClampNeg)))), (a_leaves, .inl (cI, 24, .inl (upd x26_f_leaves ((8 * p2) + x26_l3).toNatClampNeg (x26_f_leaves ((8 * p1) + x26_l3).toNatClampNeg)))), (a_signs, .inl (cI, 24, .inl (upd x26_f_signs ((8 * p2) + x26_l3).toNatClampNeg (x26_f_signs ((8 * p1) + x26_l3).toNatClampNeg)))), (a_words, .inl (cI, 3, .inl (upd f_words p2.toNatClampNeg (f_words p1.toNatClampNeg)))), (a_word, .inl (cI, 9, .inl f_word))] := hD
        refine lv_iinc (v := x26_l3 + 1) (lv' := [(3, .int (x26_l3 + 1)), (0, .ref a_o), (1, .int p1), (2, .int p2)]) hx hb dX11_copy_76 hl (k := 3) rfl (congrArg (x26_l3 + ·) ic_1) (by decide) rfl (fun ls hl => ?_)
        refine lv_goto (tgt := 26) hx hb dX11_copy_79 (by decide) ?_
        exact ih26 (x26_l3 + 1) (upd x26_f_leaves ((8 * p2) + x26_l3).toNatClampNeg (x26_f_leaves ((8 * p1) + x26_l3).toNatClampNeg)) (upd x26_f_signs ((8 * p2) + x26_l3).toNatClampNeg (x26_f_signs ((8 * p1) + x26_l3).toNatClampNeg)) H locs ls h hP hD hS (lv_sub hl [1, 2, 3, 0] rfl)
  exact L26 QF 0 f_leaves f_signs H locs ls h hP hD hS (lv_sub hl [1, 2, 3, 0] rfl)
abbrev rmX11_keep : Room := { frames := 1, cells := 0, slots := 0, locals := 23 }
theorem hdX11_keep : yX11_keep.cls = RX11 ∧ yX11_keep.cls ≠ "java/lang/invoke/MethodHandle" ∧ yX11_keep.cls ≠ "java/lang/invoke/VarHandle" ∧ (parseMethodDescriptor yX11_keep.desc).map (fun d => d.parameters.length) = some 1 := by decide +kernel
set_option maxRecDepth 100000 in
set_option maxHeartbeats 4000000 in
theorem c_X11_keep (l : Launch) (D : va_G) (cI cB cZ : ClassId) (a_o : Nat) (o_trace : Int64) (w_o_text : Value) (o_typed : Int32) (o_choices : Int32) (o_worlds : Int32) (w_o_values : Value) (o_at : Int32) (o_start : Int32) (o_sort : Int32) (o_value : Int32) (o_fault : Int32) (w_o_draft : Value) (w_o_some : Value) (w_o_every : Value) (o_deep : Int32) (o_many : Int32) (w_o_length : Value) (w_o_found : Value) (o_foundMany : Int32) (a_sayings : Nat) (f_sayings : Nat → Int32) (a_leaves : Nat) (f_leaves : Nat → Int32) (a_signs : Nat) (f_signs : Nat → Int32) (a_words : Nat) (f_words : Nat → Int32) (a_word : Nat) (f_word : Nat → Int32) (a_isKept : Nat) (f_isKept : Nat → Int32) (p1 : Int32) (z : Int32 × (Nat → Int32) × (Nat → Int32) × (Nat → Int32) × (Nat → Int32) × (Nat → Int32) × (Nat → Int32)) (h : P_X11_keep p1 f_sayings f_leaves f_signs f_words f_word f_isKept = some z) : KI l yX11_keep wsX11_keep rmX11_keep D [(cI, .int), (cB, .byte), (cZ, .boolean)] [.ref a_o, .int p1] [(a_o, .inr (10, [.long o_trace, w_o_text, .int o_typed, .int o_choices, .int o_worlds, w_o_values, .int o_at, .int o_start, .int o_sort, .int o_value, .int o_fault, w_o_draft, .ref a_sayings, .ref a_leaves, .ref a_signs, .ref a_words, .ref a_word, .ref a_isKept, w_o_some, w_o_every, .int o_deep, .int o_many, w_o_length, w_o_found, .int o_foundMany])), (a_sayings, .inl (cI, 3, .inl f_sayings)), (a_leaves, .inl (cI, 24, .inl f_leaves)), (a_signs, .inl (cI, 24, .inl f_signs)), (a_words, .inl (cI, 3, .inl f_words)), (a_word, .inl (cI, 9, .inl f_word)), (a_isKept, .inl (cZ, 2, .inl f_isKept))] [(a_o, .inr (10, [.long o_trace, w_o_text, .int o_typed, .int o_choices, .int o_worlds, w_o_values, .int o_at, .int o_start, .int o_sort, .int o_value, .int o_fault, w_o_draft, .ref a_sayings, .ref a_leaves, .ref a_signs, .ref a_words, .ref a_word, .ref a_isKept, w_o_some, w_o_every, .int o_deep, .int o_many, w_o_length, w_o_found, .int o_foundMany])), (a_sayings, .inl (cI, 3, .inl z.2.1)), (a_leaves, .inl (cI, 24, .inl z.2.2.1)), (a_signs, .inl (cI, 24, .inl z.2.2.2.1)), (a_words, .inl (cI, 3, .inl z.2.2.2.2.1)), (a_word, .inl (cI, 9, .inl z.2.2.2.2.2.1)), (a_isKept, .inl (cZ, 2, .inl z.2.2.2.2.2.2))] z.1 := by
  refine KI_of (own := RX11) (cc := cX11_keep) (maxL := 2) (ret := some .int) (by decide) rfl rfl (Nat.le_of_ble_eq_true rfl) (Or.inl rfl) ?_
  intro p e s m args below meth c A Q hx hb hml hown hts hA hZ hK hret H locs ls hP hD hS hl
  have hl : lv_has ls 2 [(0, .ref a_o), (1, .int p1)] := hl
  have hF : CallFix p m c cX11_keep 2 s args wsX11_keep RX11 := ⟨hx, hb, hml, hown, hts⟩
  have u_X11 : ∀ w ∈ u_ws RX11 TX11 25, w ∈ wsX11_keep := by decide +kernel
  have k_f0 := hts (.fieldLink RX11 35 "NoWordNoModel" "isKept" "[Z") (by decide +kernel)
  have k_f1 := hts (.fieldLink RX11 20 "NoWordNoModel" "sayings" "[I") (by decide +kernel)
  unfold P_X11_keep at h
  refine lv_iload_n hx hb dX11_keep_0 rfl (lv_at hl 1 rfl) ?_
  refine lv_iconst (v := 0) hx hb dX11_keep_1 ic_0 ?_
  refine lv_iconst (v := 1) hx hb dX11_keep_2 ic_1 ?_
  obtain ⟨z_3, hc_3, h⟩ := bd_e h
  refine q_iS (As := [.int p1, .int 0, .int 1]) (rest := []) (wF := [(a_o, .inr (10, [.long o_trace, w_o_text, .int o_typed, .int o_choices, .int o_worlds, w_o_values, .int o_at, .int o_start, .int o_sort, .int o_value, .int o_fault, w_o_draft, .ref a_sayings, .ref a_leaves, .ref a_signs, .ref a_words, .ref a_word, .ref a_isKept, w_o_some, w_o_every, .int o_deep, .int o_many, w_o_length, w_o_found, .int o_foundMany])), (a_sayings, .inl (cI, 3, .inl f_sayings)), (a_leaves, .inl (cI, 24, .inl f_leaves)), (a_signs, .inl (cI, 24, .inl f_signs)), (a_words, .inl (cI, 3, .inl f_words)), (a_word, .inl (cI, 9, .inl f_word)), (a_isKept, .inl (cZ, 2, .inl f_isKept))]) hF hA hZ hK hP hD hS (c_X11_in l D cI cB cZ p1 0 1 z_3 hc_3) rfl gX11_keep_X11_in hdX11_in ⟨rfl, rfl⟩ (Nat.le_of_ble_eq_true rfl) (Nat.le_of_ble_eq_true rfl) [] [0, 1, 2, 3, 4, 5, 6] rfl rfl rfl rfl (by decide) rfl hl.1 rfl (Nat.le_of_ble_eq_true rfl) (Nat.zero_le _) (Nat.zero_le _) dX11_keep_3 (fun H locs hP hD hS => ?_)
  refine lv_if_ne (tgt := 11) hx hb dX11_keep_6 (by decide) (fun c_6 => ?_) (fun c_6 => ?_)
  · replace h := if_e c_6 h
    refine lv_aload_n hx hb dX11_keep_11 rfl (lv_at hl 0 rfl) ?_
    refine lv_iconst (v := 0) hx hb dX11_keep_12 ic_0 ?_
    refine lv_iconst (v := 1) hx hb dX11_keep_13 ic_1 ?_
    refine lv_iload_n hx hb dX11_keep_14 rfl (lv_at hl 1 rfl) ?_
    refine lv_iadd hx hb dX11_keep_15 ?_
    obtain ⟨z_16, hc_16, h⟩ := bd_e h
    refine q_vV (As := [.int 0, .int (1 + p1)]) (rest := []) (wF := [(a_isKept, .inl (cZ, 2, .inl f_isKept)), (a_o, .inr (10, [.long o_trace, w_o_text, .int o_typed, .int o_choices, .int o_worlds, w_o_values, .int o_at, .int o_start, .int o_sort, .int o_value, .int o_fault, w_o_draft, .ref a_sayings, .ref a_leaves, .ref a_signs, .ref a_words, .ref a_word, .ref a_isKept, w_o_some, w_o_every, .int o_deep, .int o_many, w_o_length, w_o_found, .int o_foundMany])), (a_sayings, .inl (cI, 3, .inl z_16.1)), (a_leaves, .inl (cI, 24, .inl z_16.2.1)), (a_signs, .inl (cI, 24, .inl z_16.2.2.1)), (a_words, .inl (cI, 3, .inl z_16.2.2.2.1)), (a_word, .inl (cI, 9, .inl z_16.2.2.2.2))]) hF hA hZ hK hP hD hS (c_X11_copy l D cI cB cZ a_o o_trace w_o_text o_typed o_choices o_worlds w_o_values o_at o_start o_sort o_value o_fault w_o_draft (.ref a_isKept) w_o_some w_o_every o_deep o_many w_o_length w_o_found o_foundMany a_sayings f_sayings a_leaves f_leaves a_signs f_signs a_words f_words a_word f_word 0 (1 + p1) z_16 hc_16) rfl gX11_keep_X11_copy hdX11_copy ⟨rfl, rfl⟩ (Nat.le_of_ble_eq_true rfl) (Nat.le_of_ble_eq_true rfl) 10 0 rfl rfl [0, 1, 2, 3, 4, 5] [6] rfl rfl rfl rfl (by decide) rfl hl.1 rfl (Nat.le_of_ble_eq_true rfl) (Nat.zero_le _) (Nat.zero_le _) dX11_keep_16 (fun H locs hP hD hS => ?_)
    refine lv_aload_n hx hb dX11_keep_19 rfl (lv_at hl 0 rfl) ?_
    refine va_get (D := D) (ci := 10) (v := .ref a_isKept) (C := RX11) (T := TX11) (N := 25) hx hb hts u_X11 hown hK hP 1 rfl rfl 17 (by decide) k_f0 (fun _ h9 => h9) rfl dX11_keep_20 ?_
    refine lv_iload_n hx hb dX11_keep_23 rfl (lv_at hl 1 rfl) ?_
    refine lv_iconst (v := 1) hx hb dX11_keep_24 ic_1 ?_
    obtain ⟨hi_25, h⟩ := ck_e h
    refine va_zast hx hb hK hP hD hS 0 2 rfl rfl hi_25 dX11_keep_25 (fun H locs hP hD hS => ?_)
    have hP : va_P D vwCl [(a_isKept, .inl (cZ, 2, .inl (upd f_isKept p1.toNatClampNeg (vp_nar .boolean 1)))), (a_o, .inr (10, [.long o_trace, w_o_text, .int o_typed, .int o_choices, .int o_worlds, w_o_values, .int o_at, .int o_start, .int o_sort, .int o_value, .int o_fault, w_o_draft, .ref a_sayings, .ref a_leaves, .ref a_signs, .ref a_words, .ref a_word, .ref a_isKept, w_o_some, w_o_every, .int o_deep, .int o_many, w_o_length, w_o_found, .int o_foundMany])), (a_sayings, .inl (cI, 3, .inl z_16.1)), (a_leaves, .inl (cI, 24, .inl z_16.2.1)), (a_signs, .inl (cI, 24, .inl z_16.2.2.1)), (a_words, .inl (cI, 3, .inl z_16.2.2.2.1)), (a_word, .inl (cI, 9, .inl z_16.2.2.2.2))] H := hP
    have hD : va_D A [(a_isKept, .inl (cZ, 2, .inl (upd f_isKept p1.toNatClampNeg (vp_nar .boolean 1)))), (a_o, .inr (10, [.long o_trace, w_o_text, .int o_typed, .int o_choices, .int o_worlds, w_o_values, .int o_at, .int o_start, .int o_sort, .int o_value, .int o_fault, w_o_draft, .ref a_sayings, .ref a_leaves, .ref a_signs, .ref a_words, .ref a_word, .ref a_isKept, w_o_some, w_o_every, .int o_deep, .int o_many, w_o_length, w_o_found, .int o_foundMany])), (a_sayings, .inl (cI, 3, .inl z_16.1)), (a_leaves, .inl (cI, 24, .inl z_16.2.1)), (a_signs, .inl (cI, 24, .inl z_16.2.2.1)), (a_words, .inl (cI, 3, .inl z_16.2.2.2.1)), (a_word, .inl (cI, 9, .inl z_16.2.2.2.2))] := hD
    refine lv_aload_n hx hb dX11_keep_26 rfl (lv_at hl 0 rfl) ?_
    refine va_get (D := D) (ci := 10) (v := .ref a_sayings) (C := RX11) (T := TX11) (N := 25) hx hb hts u_X11 hown hK hP 1 rfl rfl 12 (by decide) k_f1 (fun _ h9 => h9) rfl dX11_keep_27 ?_
    refine lv_iconst (v := 0) hx hb dX11_keep_30 ic_0 ?_
    obtain ⟨hi_31, h⟩ := ck_e h
    refine va_iald hx hb hK hP 2 0 rfl rfl hi_31 dX11_keep_31 ?_
    have hz := Option.some.inj h
    subst hz
    exact hret H locs 32 ls (fun ty h => by cases h; rfl) (hP.sub [1, 2, 3, 4, 5, 6, 0] rfl) (hD.sub [1, 2, 3, 4, 5, 6, 0] (by decide) rfl) hS dX11_keep_32
  · replace h := it_e c_6 h
    refine lv_iconst (v := (-1)) hx hb dX11_keep_9 ic_m1 ?_
    have hz := Option.some.inj h
    subst hz
    exact hret H locs 10 ls (fun ty h => by cases h; rfl) hP hD hS dX11_keep_10
abbrev rmX11_back : Room := { frames := 1, cells := 0, slots := 0, locals := 23 }
theorem hdX11_back : yX11_back.cls = RX11 ∧ yX11_back.cls ≠ "java/lang/invoke/MethodHandle" ∧ yX11_back.cls ≠ "java/lang/invoke/VarHandle" ∧ (parseMethodDescriptor yX11_back.desc).map (fun d => d.parameters.length) = some 1 := by decide +kernel
set_option maxRecDepth 100000 in
set_option maxHeartbeats 4000000 in
theorem c_X11_back (l : Launch) (D : va_G) (cI cB cZ : ClassId) (a_o : Nat) (o_trace : Int64) (w_o_text : Value) (o_typed : Int32) (o_choices : Int32) (o_worlds : Int32) (w_o_values : Value) (o_at : Int32) (o_start : Int32) (o_sort : Int32) (o_value : Int32) (o_fault : Int32) (w_o_draft : Value) (w_o_some : Value) (w_o_every : Value) (o_deep : Int32) (o_many : Int32) (w_o_length : Value) (w_o_found : Value) (o_foundMany : Int32) (a_sayings : Nat) (f_sayings : Nat → Int32) (a_leaves : Nat) (f_leaves : Nat → Int32) (a_signs : Nat) (f_signs : Nat → Int32) (a_words : Nat) (f_words : Nat → Int32) (a_word : Nat) (f_word : Nat → Int32) (a_isKept : Nat) (f_isKept : Nat → Int32) (p1 : Int32) (z : Int32 × (Nat → Int32) × (Nat → Int32) × (Nat → Int32) × (Nat → Int32) × (Nat → Int32)) (h : P_X11_back p1 f_sayings f_leaves f_signs f_words f_word f_isKept = some z) : KI l yX11_back wsX11_back rmX11_back D [(cI, .int), (cB, .byte), (cZ, .boolean)] [.ref a_o, .int p1] [(a_o, .inr (10, [.long o_trace, w_o_text, .int o_typed, .int o_choices, .int o_worlds, w_o_values, .int o_at, .int o_start, .int o_sort, .int o_value, .int o_fault, w_o_draft, .ref a_sayings, .ref a_leaves, .ref a_signs, .ref a_words, .ref a_word, .ref a_isKept, w_o_some, w_o_every, .int o_deep, .int o_many, w_o_length, w_o_found, .int o_foundMany])), (a_sayings, .inl (cI, 3, .inl f_sayings)), (a_leaves, .inl (cI, 24, .inl f_leaves)), (a_signs, .inl (cI, 24, .inl f_signs)), (a_words, .inl (cI, 3, .inl f_words)), (a_word, .inl (cI, 9, .inl f_word)), (a_isKept, .inl (cZ, 2, .inl f_isKept))] [(a_o, .inr (10, [.long o_trace, w_o_text, .int o_typed, .int o_choices, .int o_worlds, w_o_values, .int o_at, .int o_start, .int o_sort, .int o_value, .int o_fault, w_o_draft, .ref a_sayings, .ref a_leaves, .ref a_signs, .ref a_words, .ref a_word, .ref a_isKept, w_o_some, w_o_every, .int o_deep, .int o_many, w_o_length, w_o_found, .int o_foundMany])), (a_sayings, .inl (cI, 3, .inl z.2.1)), (a_leaves, .inl (cI, 24, .inl z.2.2.1)), (a_signs, .inl (cI, 24, .inl z.2.2.2.1)), (a_words, .inl (cI, 3, .inl z.2.2.2.2.1)), (a_word, .inl (cI, 9, .inl z.2.2.2.2.2)), (a_isKept, .inl (cZ, 2, .inl f_isKept))] z.1 := by
  refine KI_of (own := RX11) (cc := cX11_back) (maxL := 2) (ret := some .int) (by decide) rfl rfl (Nat.le_of_ble_eq_true rfl) (Or.inl rfl) ?_
  intro p e s m args below meth c A Q hx hb hml hown hts hA hZ hK hret H locs ls hP hD hS hl
  have hl : lv_has ls 2 [(0, .ref a_o), (1, .int p1)] := hl
  have hF : CallFix p m c cX11_back 2 s args wsX11_back RX11 := ⟨hx, hb, hml, hown, hts⟩
  have u_X11 : ∀ w ∈ u_ws RX11 TX11 25, w ∈ wsX11_back := by decide +kernel
  have k_f0 := hts (.fieldLink RX11 35 "NoWordNoModel" "isKept" "[Z") (by decide +kernel)
  have k_f1 := hts (.fieldLink RX11 20 "NoWordNoModel" "sayings" "[I") (by decide +kernel)
  unfold P_X11_back at h
  refine lv_iload_n hx hb dX11_back_0 rfl (lv_at hl 1 rfl) ?_
  refine lv_iconst (v := 0) hx hb dX11_back_1 ic_0 ?_
  refine lv_iconst (v := 1) hx hb dX11_back_2 ic_1 ?_
  obtain ⟨z_3, hc_3, h⟩ := bd_e h
  refine q_iS (As := [.int p1, .int 0, .int 1]) (rest := []) (wF := [(a_o, .inr (10, [.long o_trace, w_o_text, .int o_typed, .int o_choices, .int o_worlds, w_o_values, .int o_at, .int o_start, .int o_sort, .int o_value, .int o_fault, w_o_draft, .ref a_sayings, .ref a_leaves, .ref a_signs, .ref a_words, .ref a_word, .ref a_isKept, w_o_some, w_o_every, .int o_deep, .int o_many, w_o_length, w_o_found, .int o_foundMany])), (a_sayings, .inl (cI, 3, .inl f_sayings)), (a_leaves, .inl (cI, 24, .inl f_leaves)), (a_signs, .inl (cI, 24, .inl f_signs)), (a_words, .inl (cI, 3, .inl f_words)), (a_word, .inl (cI, 9, .inl f_word)), (a_isKept, .inl (cZ, 2, .inl f_isKept))]) hF hA hZ hK hP hD hS (c_X11_in l D cI cB cZ p1 0 1 z_3 hc_3) rfl gX11_back_X11_in hdX11_in ⟨rfl, rfl⟩ (Nat.le_of_ble_eq_true rfl) (Nat.le_of_ble_eq_true rfl) [] [0, 1, 2, 3, 4, 5, 6] rfl rfl rfl rfl (by decide) rfl hl.1 rfl (Nat.le_of_ble_eq_true rfl) (Nat.zero_le _) (Nat.zero_le _) dX11_back_3 (fun H locs hP hD hS => ?_)
  refine lv_if_ne (tgt := 11) hx hb dX11_back_6 (by decide) (fun c_6 => ?_) (fun c_6 => ?_)
  · replace h := if_e c_6 h
    refine lv_aload_n hx hb dX11_back_11 rfl (lv_at hl 0 rfl) ?_
    refine va_get (D := D) (ci := 10) (v := .ref a_isKept) (C := RX11) (T := TX11) (N := 25) hx hb hts u_X11 hown hK hP 0 rfl rfl 17 (by decide) k_f0 (fun _ h9 => h9) rfl dX11_back_12 ?_
    refine lv_iload_n hx hb dX11_back_15 rfl (lv_at hl 1 rfl) ?_
    obtain ⟨hi_16, h⟩ := ck_e h
    refine va_zald hx hb hK hP 6 2 rfl rfl hi_16 dX11_back_16 ?_
    refine lv_if_ne (tgt := 23) hx hb dX11_back_17 (by decide) (fun c_17 => ?_) (fun c_17 => ?_)
    · replace h := if_e c_17 h
      refine lv_aload_n hx hb dX11_back_23 rfl (lv_at hl 0 rfl) ?_
      refine lv_iconst (v := 1) hx hb dX11_back_24 ic_1 ?_
      refine lv_iload_n hx hb dX11_back_25 rfl (lv_at hl 1 rfl) ?_
      refine lv_iadd hx hb dX11_back_26 ?_
      refine lv_iconst (v := 0) hx hb dX11_back_27 ic_0 ?_
      obtain ⟨z_28, hc_28, h⟩ := bd_e h
      refine q_vV (As := [.int (1 + p1), .int 0]) (rest := []) (wF := [(a_isKept, .inl (cZ, 2, .inl f_isKept)), (a_o, .inr (10, [.long o_trace, w_o_text, .int o_typed, .int o_choices, .int o_worlds, w_o_values, .int o_at, .int o_start, .int o_sort, .int o_value, .int o_fault, w_o_draft, .ref a_sayings, .ref a_leaves, .ref a_signs, .ref a_words, .ref a_word, .ref a_isKept, w_o_some, w_o_every, .int o_deep, .int o_many, w_o_length, w_o_found, .int o_foundMany])), (a_sayings, .inl (cI, 3, .inl z_28.1)), (a_leaves, .inl (cI, 24, .inl z_28.2.1)), (a_signs, .inl (cI, 24, .inl z_28.2.2.1)), (a_words, .inl (cI, 3, .inl z_28.2.2.2.1)), (a_word, .inl (cI, 9, .inl z_28.2.2.2.2))]) hF hA hZ hK hP hD hS (c_X11_copy l D cI cB cZ a_o o_trace w_o_text o_typed o_choices o_worlds w_o_values o_at o_start o_sort o_value o_fault w_o_draft (.ref a_isKept) w_o_some w_o_every o_deep o_many w_o_length w_o_found o_foundMany a_sayings f_sayings a_leaves f_leaves a_signs f_signs a_words f_words a_word f_word (1 + p1) 0 z_28 hc_28) rfl gX11_back_X11_copy hdX11_copy ⟨rfl, rfl⟩ (Nat.le_of_ble_eq_true rfl) (Nat.le_of_ble_eq_true rfl) 10 0 rfl rfl [0, 1, 2, 3, 4, 5] [6] rfl rfl rfl rfl (by decide) rfl hl.1 rfl (Nat.le_of_ble_eq_true rfl) (Nat.zero_le _) (Nat.zero_le _) dX11_back_28 (fun H locs hP hD hS => ?_)
      refine lv_aload_n hx hb dX11_back_31 rfl (lv_at hl 0 rfl) ?_
      refine va_get (D := D) (ci := 10) (v := .ref a_sayings) (C := RX11) (T := TX11) (N := 25) hx hb hts u_X11 hown hK hP 1 rfl rfl 12 (by decide) k_f1 (fun _ h9 => h9) rfl dX11_back_32 ?_
      refine lv_iconst (v := 0) hx hb dX11_back_35 ic_0 ?_
      obtain ⟨hi_36, h⟩ := ck_e h
      refine va_iald hx hb hK hP 2 0 rfl rfl hi_36 dX11_back_36 ?_
      have hz := Option.some.inj h
      subst hz
      exact hret H locs 37 ls (fun ty h => by cases h; rfl) (hP.sub [1, 2, 3, 4, 5, 6, 0] rfl) (hD.sub [1, 2, 3, 4, 5, 6, 0] (by decide) rfl) hS dX11_back_37
    · replace h := it_e c_17 h
      refine lv_bipush (v := (-2)) hx hb dX11_back_20 bc_m2 ?_
      have hz := Option.some.inj h
      subst hz
      exact hret H locs 22 ls (fun ty h => by cases h; rfl) hP hD hS dX11_back_22
  · replace h := it_e c_6 h
    refine lv_iconst (v := (-1)) hx hb dX11_back_9 ic_m1 ?_
    have hz := Option.some.inj h
    subst hz
    exact hret H locs 10 ls (fun ty h => by cases h; rfl) hP hD hS dX11_back_10
abbrev rmX11_count : Room := { frames := 0, cells := 0, slots := 0, locals := 0 }
theorem hdX11_count : yX11_count.cls = RX11 ∧ yX11_count.cls ≠ "java/lang/invoke/MethodHandle" ∧ yX11_count.cls ≠ "java/lang/invoke/VarHandle" ∧ (parseMethodDescriptor yX11_count.desc).map (fun d => d.parameters.length) = some 1 := by decide +kernel
set_option maxRecDepth 100000 in
set_option maxHeartbeats 4000000 in
theorem c_X11_count (l : Launch) (D : va_G) (cI cB cZ : ClassId) (a_o : Nat) (o_trace : Int64) (w_o_text : Value) (o_typed : Int32) (o_choices : Int32) (o_worlds : Int32) (w_o_values : Value) (o_at : Int32) (o_start : Int32) (o_sort : Int32) (o_value : Int32) (o_fault : Int32) (w_o_draft : Value) (w_o_leaves : Value) (w_o_signs : Value) (w_o_word : Value) (w_o_isKept : Value) (w_o_some : Value) (w_o_every : Value) (o_deep : Int32) (o_many : Int32) (w_o_length : Value) (w_o_found : Value) (o_foundMany : Int32) (a_sayings : Nat) (f_sayings : Nat → Int32) (a_words : Nat) (f_words : Nat → Int32) (p1 : Int32) (z : Int32) (h : P_X11_count p1 o_typed o_choices o_worlds f_sayings f_words = some z) : KI l yX11_count wsX11_count rmX11_count D [(cI, .int), (cB, .byte), (cZ, .boolean)] [.ref a_o, .int p1] [(a_o, .inr (10, [.long o_trace, w_o_text, .int o_typed, .int o_choices, .int o_worlds, w_o_values, .int o_at, .int o_start, .int o_sort, .int o_value, .int o_fault, w_o_draft, .ref a_sayings, w_o_leaves, w_o_signs, .ref a_words, w_o_word, w_o_isKept, w_o_some, w_o_every, .int o_deep, .int o_many, w_o_length, w_o_found, .int o_foundMany])), (a_sayings, .inl (cI, 3, .inl f_sayings)), (a_words, .inl (cI, 3, .inl f_words))] [(a_o, .inr (10, [.long o_trace, w_o_text, .int o_typed, .int o_choices, .int o_worlds, w_o_values, .int o_at, .int o_start, .int o_sort, .int o_value, .int o_fault, w_o_draft, .ref a_sayings, w_o_leaves, w_o_signs, .ref a_words, w_o_word, w_o_isKept, w_o_some, w_o_every, .int o_deep, .int o_many, w_o_length, w_o_found, .int o_foundMany])), (a_sayings, .inl (cI, 3, .inl f_sayings)), (a_words, .inl (cI, 3, .inl f_words))] z := by
  refine KI_of (own := RX11) (cc := cX11_count) (maxL := 2) (ret := some .int) (by decide) rfl rfl (Nat.le_of_ble_eq_true rfl) (Or.inl rfl) ?_
  intro p e s m args below meth c A Q hx hb hml hown hts hA hZ hK hret H locs ls hP hD hS hl
  have hl : lv_has ls 2 [(0, .ref a_o), (1, .int p1)] := hl
  have hF : CallFix p m c cX11_count 2 s args wsX11_count RX11 := ⟨hx, hb, hml, hown, hts⟩
  have u_X11 : ∀ w ∈ u_ws RX11 TX11 25, w ∈ wsX11_count := by decide +kernel
  have k_f0 := hts (.fieldLink RX11 59 "NoWordNoModel" "typed" "I") (by decide +kernel)
  have k_f1 := hts (.fieldLink RX11 29 "NoWordNoModel" "words" "[I") (by decide +kernel)
  have k_f2 := hts (.fieldLink RX11 20 "NoWordNoModel" "sayings" "[I") (by decide +kernel)
  have k_f3 := hts (.fieldLink RX11 51 "NoWordNoModel" "worlds" "I") (by decide +kernel)
  have k_f4 := hts (.fieldLink RX11 95 "NoWordNoModel" "choices" "I") (by decide +kernel)
  unfold P_X11_count at h
  refine lv_iload_n hx hb dX11_count_0 rfl (lv_at hl 1 rfl) ?_
  refine lv_if_ne (tgt := 11) hx hb dX11_count_1 (by decide) (fun c_1 => ?_) (fun c_1 => ?_)
  · replace h := if_e c_1 h
    refine lv_iload_n hx hb dX11_count_11 rfl (lv_at hl 1 rfl) ?_
    refine lv_iconst (v := 1) hx hb dX11_count_12 ic_1 ?_
    refine lv_icmp_ne (tgt := 23) hx hb dX11_count_13 (by decide) (fun c_13 => ?_) (fun c_13 => ?_)
    · replace h := if_e c_13 h
      refine lv_iload_n hx hb dX11_count_23 rfl (lv_at hl 1 rfl) ?_
      refine lv_iconst (v := 2) hx hb dX11_count_24 ic_2 ?_
      refine lv_icmp_ne (tgt := 37) hx hb dX11_count_25 (by decide) (fun c_25 => ?_) (fun c_25 => ?_)
      · replace h := if_e c_25 h
        refine lv_iload_n hx hb dX11_count_37 rfl (lv_at hl 1 rfl) ?_
        refine lv_iconst (v := 3) hx hb dX11_count_38 ic_3 ?_
        refine lv_icmp_ne (tgt := 51) hx hb dX11_count_39 (by decide) (fun c_39 => ?_) (fun c_39 => ?_)
        · replace h := if_e c_39 h
          refine lv_iload_n hx hb dX11_count_51 rfl (lv_at hl 1 rfl) ?_
          refine lv_iconst (v := 4) hx hb dX11_count_52 ic_4 ?_
          refine lv_icmp_ne (tgt := 63) hx hb dX11_count_53 (by decide) (fun c_53 => ?_) (fun c_53 => ?_)
          · replace h := if_e c_53 h
            refine lv_iconst (v := (-1)) hx hb dX11_count_63 ic_m1 ?_
            have hz := Option.some.inj h
            subst hz
            exact hret H locs 64 ls (fun ty h => by cases h; rfl) hP hD hS dX11_count_64
          · replace h := it_e c_53 h
            refine lv_aload_n hx hb dX11_count_56 rfl (lv_at hl 0 rfl) ?_
            refine va_get (D := D) (ci := 10) (v := .int o_typed) (C := RX11) (T := TX11) (N := 25) hx hb hts u_X11 hown hK hP 0 rfl rfl 2 (by decide) k_f0 (fun _ h9 => h9) rfl dX11_count_57 ?_
            refine lv_goto (tgt := 64) hx hb dX11_count_60 (by decide) ?_
            have hz := Option.some.inj h
            subst hz
            exact hret H locs 64 ls (fun ty h => by cases h; rfl) hP hD hS dX11_count_64
        · replace h := it_e c_39 h
          refine lv_aload_n hx hb dX11_count_42 rfl (lv_at hl 0 rfl) ?_
          refine va_get (D := D) (ci := 10) (v := .ref a_words) (C := RX11) (T := TX11) (N := 25) hx hb hts u_X11 hown hK hP 0 rfl rfl 15 (by decide) k_f1 (fun _ h9 => h9) rfl dX11_count_43 ?_
          refine lv_iconst (v := 0) hx hb dX11_count_46 ic_0 ?_
          obtain ⟨hi_47, h⟩ := ck_e h
          refine va_iald hx hb hK hP 2 0 rfl rfl hi_47 dX11_count_47 ?_
          refine lv_goto (tgt := 64) hx hb dX11_count_48 (by decide) ?_
          have hz := Option.some.inj h
          subst hz
          exact hret H locs 64 ls (fun ty h => by cases h; rfl) hP hD hS dX11_count_64
      · replace h := it_e c_25 h
        refine lv_aload_n hx hb dX11_count_28 rfl (lv_at hl 0 rfl) ?_
        refine va_get (D := D) (ci := 10) (v := .ref a_sayings) (C := RX11) (T := TX11) (N := 25) hx hb hts u_X11 hown hK hP 0 rfl rfl 12 (by decide) k_f2 (fun _ h9 => h9) rfl dX11_count_29 ?_
        refine lv_iconst (v := 0) hx hb dX11_count_32 ic_0 ?_
        obtain ⟨hi_33, h⟩ := ck_e h
        refine va_iald hx hb hK hP 1 0 rfl rfl hi_33 dX11_count_33 ?_
        refine lv_goto (tgt := 64) hx hb dX11_count_34 (by decide) ?_
        have hz := Option.some.inj h
        subst hz
        exact hret H locs 64 ls (fun ty h => by cases h; rfl) hP hD hS dX11_count_64
    · replace h := it_e c_13 h
      refine lv_aload_n hx hb dX11_count_16 rfl (lv_at hl 0 rfl) ?_
      refine va_get (D := D) (ci := 10) (v := .int o_worlds) (C := RX11) (T := TX11) (N := 25) hx hb hts u_X11 hown hK hP 0 rfl rfl 4 (by decide) k_f3 (fun _ h9 => h9) rfl dX11_count_17 ?_
      refine lv_goto (tgt := 64) hx hb dX11_count_20 (by decide) ?_
      have hz := Option.some.inj h
      subst hz
      exact hret H locs 64 ls (fun ty h => by cases h; rfl) hP hD hS dX11_count_64
  · replace h := it_e c_1 h
    refine lv_aload_n hx hb dX11_count_4 rfl (lv_at hl 0 rfl) ?_
    refine va_get (D := D) (ci := 10) (v := .int o_choices) (C := RX11) (T := TX11) (N := 25) hx hb hts u_X11 hown hK hP 0 rfl rfl 3 (by decide) k_f4 (fun _ h9 => h9) rfl dX11_count_5 ?_
    refine lv_goto (tgt := 64) hx hb dX11_count_8 (by decide) ?_
    have hz := Option.some.inj h
    subst hz
    exact hret H locs 64 ls (fun ty h => by cases h; rfl) hP hD hS dX11_count_64
abbrev rmX11_trace : Room := { frames := 0, cells := 0, slots := 0, locals := 0 }
theorem hdX11_trace : yX11_trace.cls = RX11 ∧ yX11_trace.cls ≠ "java/lang/invoke/MethodHandle" ∧ yX11_trace.cls ≠ "java/lang/invoke/VarHandle" ∧ (parseMethodDescriptor yX11_trace.desc).map (fun d => d.parameters.length) = some 0 := by decide +kernel
set_option maxRecDepth 100000 in
set_option maxHeartbeats 4000000 in
theorem c_X11_trace (l : Launch) (D : va_G) (cI cB cZ : ClassId) (a_o : Nat) (o_trace : Int64) (w_o_text : Value) (o_typed : Int32) (o_choices : Int32) (o_worlds : Int32) (w_o_values : Value) (o_at : Int32) (o_start : Int32) (o_sort : Int32) (o_value : Int32) (o_fault : Int32) (w_o_draft : Value) (w_o_sayings : Value) (w_o_leaves : Value) (w_o_signs : Value) (w_o_words : Value) (w_o_word : Value) (w_o_isKept : Value) (w_o_some : Value) (w_o_every : Value) (o_deep : Int32) (o_many : Int32) (w_o_length : Value) (w_o_found : Value) (o_foundMany : Int32) (z : Int64) (h : P_X11_trace o_trace = some z) : KL l yX11_trace wsX11_trace rmX11_trace D [(cI, .int), (cB, .byte), (cZ, .boolean)] [.ref a_o] [(a_o, .inr (10, [.long o_trace, w_o_text, .int o_typed, .int o_choices, .int o_worlds, w_o_values, .int o_at, .int o_start, .int o_sort, .int o_value, .int o_fault, w_o_draft, w_o_sayings, w_o_leaves, w_o_signs, w_o_words, w_o_word, w_o_isKept, w_o_some, w_o_every, .int o_deep, .int o_many, w_o_length, w_o_found, .int o_foundMany]))] [(a_o, .inr (10, [.long o_trace, w_o_text, .int o_typed, .int o_choices, .int o_worlds, w_o_values, .int o_at, .int o_start, .int o_sort, .int o_value, .int o_fault, w_o_draft, w_o_sayings, w_o_leaves, w_o_signs, w_o_words, w_o_word, w_o_isKept, w_o_some, w_o_every, .int o_deep, .int o_many, w_o_length, w_o_found, .int o_foundMany]))] z := by
  refine KL_of (own := RX11) (cc := cX11_trace) (maxL := 1) (by decide) rfl rfl (Nat.le_of_ble_eq_true rfl) ?_
  intro p e s m args below meth c A Q hx hb hml hown hts hA hZ hK hret H locs ls hP hD hS hl
  have hl : lv_has ls 1 [(0, .ref a_o)] := hl
  have hF : CallFix p m c cX11_trace 1 s args wsX11_trace RX11 := ⟨hx, hb, hml, hown, hts⟩
  have u_X11 : ∀ w ∈ u_ws RX11 TX11 25, w ∈ wsX11_trace := by decide +kernel
  have k_f0 := hts (.fieldLink RX11 183 "NoWordNoModel" "trace" "J") (by decide +kernel)
  unfold P_X11_trace at h
  refine lv_aload_n hx hb dX11_trace_0 rfl (lv_at hl 0 rfl) ?_
  refine va_get (D := D) (ci := 10) (v := .long o_trace) (C := RX11) (T := TX11) (N := 25) hx hb hts u_X11 hown hK hP 0 rfl rfl 0 (by decide) k_f0 (fun _ h9 => h9) rfl dX11_trace_1 ?_
  have hz := Option.some.inj h
  subst hz
  exact hret H locs 4 ls hP hD hS dX11_trace_4
