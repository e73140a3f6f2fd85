abbrev rmX4_put : Room := { frames := 0, cells := 0, slots := 0, locals := 0 }
theorem hdX4_put : yX4_put.cls ≠ "java/lang/invoke/MethodHandle" ∧ yX4_put.cls ≠ "java/lang/invoke/VarHandle" ∧ (parseMethodDescriptor yX4_put.desc).map (fun d => d.parameters.length) = some 3 := by decide +kernel
set_option maxRecDepth 100000 in
set_option maxHeartbeats 4000000 in
theorem c_X4_put (l : Launch) (D : va_G) (cI cB cZ : ClassId) (a_p0 : Nat) (n_p0 : Nat) (f_p0 : Nat → Int32) (p1 : Int32) (p2 : Int32) (z : (Nat → Int32)) (h : P_X4_put n_p0 p1 p2 f_p0 = some z) : KV l yX4_put wsX4_put rmX4_put D [(cI, .int), (cB, .byte), (cZ, .boolean)] [.ref a_p0, .int p1, .int p2] [(a_p0, .inl (cI, n_p0, .inl f_p0))] [(a_p0, .inl (cI, n_p0, .inl z))] := by
  refine KV_of (own := RX4) (cc := cX4_put) (maxL := 3) (by decide) rfl rfl (Nat.le_of_ble_eq_true rfl) ?_
  intro p e s m args below meth c A Q hx hb hml hown hts hA hZ hK hret H locs ls hP hD hS hl
  have hl : lv_has ls 3 [(0, .ref a_p0), (1, .int p1), (2, .int p2)] := hl
  have hF : CallFix p m c cX4_put 3 s args wsX4_put RX4 := ⟨hx, hb, hml, hown, hts⟩
  unfold P_X4_put at h
  refine lv_iload_n hx hb dX4_put_0 rfl (lv_at hl 1 rfl) ?_
  refine lv_if_lt (tgt := 14) hx hb dX4_put_1 (by decide) (fun c_1 => ?_) (fun c_1 => ?_)
  · replace h := it_e c_1 h
    have hz := Option.some.inj h
    subst hz
    exact hret H locs 14 ls hP hD hS dX4_put_14
  · replace h := if_e c_1 h
    refine lv_iload_n hx hb dX4_put_4 rfl (lv_at hl 1 rfl) ?_
    refine lv_aload_n hx hb dX4_put_5 rfl (lv_at hl 0 rfl) ?_
    refine va_alen hx hb hK hP 0 0 rfl rfl (v := (nI n_p0)) rfl dX4_put_6 ?_
    refine lv_icmp_ge (tgt := 14) hx hb dX4_put_7 (by decide) (fun c_7 => ?_) (fun c_7 => ?_)
    · replace h := it_e c_7 h
      have hz := Option.some.inj h
      subst hz
      exact hret H locs 14 ls hP hD hS dX4_put_14
    · replace h := if_e c_7 h
      refine lv_aload_n hx hb dX4_put_10 rfl (lv_at hl 0 rfl) ?_
      refine lv_iload_n hx hb dX4_put_11 rfl (lv_at hl 1 rfl) ?_
      refine lv_iload_n hx hb dX4_put_12 rfl (lv_at hl 2 rfl) ?_
      obtain ⟨hi_13, h⟩ := ck_e h
      refine va_iast hx hb hK hP hD hS 0 0 rfl rfl hi_13 dX4_put_13 (fun H locs hP hD hS => ?_)
      have hP : va_P D vwCl [(a_p0, .inl (cI, n_p0, .inl (upd f_p0 p1.toNatClampNeg p2)))] H := hP
      have hD : va_D A [(a_p0, .inl (cI, n_p0, .inl (upd f_p0 p1.toNatClampNeg p2)))] := hD
      have hz := Option.some.inj h
      subst hz
      exact hret H locs 14 ls hP hD hS dX4_put_14
abbrev rmX6_add : Room := { frames := 1, cells := 0, slots := 0, locals := 22 }
theorem hdX6_add : yX6_add.cls = RX6 ∧ yX6_add.cls ≠ "java/lang/invoke/MethodHandle" ∧ yX6_add.cls ≠ "java/lang/invoke/VarHandle" ∧ (parseMethodDescriptor yX6_add.desc).map (fun d => d.parameters.length) = some 2 := by decide +kernel
set_option maxRecDepth 100000 in
set_option maxHeartbeats 4000000 in
theorem c_X6_add (l : Launch) (D : va_G) (cI cB cZ : ClassId) (a_o : Nat) (o_size : Int32) (a_bytes : Nat) (f_bytes : Nat → Int32) (p1 : Int64) (p3 : Int32) (z : Int32 × Int32 × (Nat → Int32)) (h : P_X6_add p1 p3 o_size f_bytes = some z) : KI l yX6_add wsX6_add rmX6_add D [(cI, .int), (cB, .byte), (cZ, .boolean)] [.ref a_o, .long p1, .int p3] [(a_o, .inr (5, [.ref a_bytes, .int o_size])), (a_bytes, .inl (cI, 200, .inl f_bytes))] [(a_o, .inr (5, [.ref a_bytes, .int z.2.1])), (a_bytes, .inl (cI, 200, .inl z.2.2))] z.1 := by
  refine KI_of (own := RX6) (cc := cX6_add) (maxL := 5) (ret := some .boolean) (by decide) rfl rfl (Nat.le_of_ble_eq_true rfl) (Or.inr rfl) ?_
  intro p e s m args below meth c A Q hx hb hml hown hts hA hZ hK hret H locs ls hP hD hS hl
  have hl : lv_has ls 5 [(0, .ref a_o), (1, .long p1), (3, .int p3)] := hl
  have hF : CallFix p m c cX6_add 5 s args wsX6_add RX6 := ⟨hx, hb, hml, hown, hts⟩
  have u_X6 : ∀ w ∈ u_ws RX6 TX6 2, w ∈ wsX6_add := by decide +kernel
  have k_f0 := hts (.fieldLink RX6 13 "NoWordNo$Text" "size" "I") (by decide +kernel)
  have k_f1 := hts (.fieldLink RX6 9 "NoWordNo$Text" "bytes" "[I") (by decide +kernel)
  unfold P_X6_add at h
  refine lv_aload_n hx hb dX6_add_0 rfl (lv_at hl 0 rfl) ?_
  refine va_get (D := D) (ci := 5) (v := .int o_size) (C := RX6) (T := TX6) (N := 2) hx hb hts u_X6 hown hK hP 0 rfl rfl 1 (by decide) k_f0 (fun _ h9 => h9) rfl dX6_add_1 ?_
  refine lv_iload_n hx hb dX6_add_4 rfl (lv_at hl 2 rfl) ?_
  refine lv_iadd hx hb dX6_add_5 ?_
  refine lv_sipush (v := 200) hx hb dX6_add_6 sc_200 ?_
  refine lv_icmp_le (tgt := 14) hx hb dX6_add_9 (by decide) (fun c_9 => ?_) (fun c_9 => ?_)
  · replace h := it_e c_9 h
    refine lv_iload_n hx hb dX6_add_14 rfl (lv_at hl 2 rfl) ?_
    refine lv_iconst (v := 1) hx hb dX6_add_15 ic_1 ?_
    refine lv_isub hx hb dX6_add_16 ?_
    refine lv_istore (lv' := [(4, .int (p3 - 1)), (0, .ref a_o), (1, .long p1), (3, .int p3)]) hx hb dX6_add_17 hl (by decide) rfl (fun ls hl => ?_)
    have L19 : ∀ (n : Nat), ∀ (x19_l4 : Int32) (x19_o_size : Int32) (x19_f_bytes : (Nat → Int32)) (H : Heap) (locs : List Loc) (ls : Array Slot), P_X6_add_19 p1 n x19_l4 x19_o_size x19_f_bytes = some z → va_P D vwCl [(a_o, .inr (5, [.ref a_bytes, .int x19_o_size])), (a_bytes, .inl (cI, 200, .inl x19_f_bytes))] H → va_D A [(a_o, .inr (5, [.ref a_bytes, .int x19_o_size])), (a_bytes, .inl (cI, 200, .inl x19_f_bytes))] → va_S A s.heap H locs → lv_has ls 5 [(0, .ref a_o), (1, .long p1), (4, .int x19_l4)] → W p l e rmX6_add s m args below meth c H locs 0 0 Q (F0 m 19 ls []) := by
      intro n
      induction n with
      | zero =>
        intro x19_l4 x19_o_size x19_f_bytes H locs ls h
        exact no_e h
      | succ n ih19 =>
        intro x19_l4 x19_o_size x19_f_bytes H locs ls h hP hD hS hl
        rw [P_X6_add_19] at h
        refine lv_iload hx hb dX6_add_19 (lv_at hl 2 rfl) ?_
        refine lv_if_lt (tgt := 63) hx hb dX6_add_21 (by decide) (fun c_21 => ?_) (fun c_21 => ?_)
        · replace h := it_e c_21 h
          refine lv_iconst (v := 1) hx hb dX6_add_63 ic_1 ?_
          have hz := Option.some.inj h
          subst hz
          exact hret H locs 64 ls (fun ty h => by cases h; exact nar_1) hP hD hS dX6_add_64
        · replace h := if_e c_21 h
          refine lv_aload_n hx hb dX6_add_24 rfl (lv_at hl 0 rfl) ?_
          refine va_get (D := D) (ci := 5) (v := .ref a_bytes) (C := RX6) (T := TX6) (N := 2) hx hb hts u_X6 hown hK hP 0 rfl rfl 0 (by decide) k_f1 (fun _ h9 => h9) rfl dX6_add_25 ?_
          refine lv_aload_n hx hb dX6_add_28 rfl (lv_at hl 0 rfl) ?_
          refine va_get (D := D) (ci := 5) (v := .int x19_o_size) (C := RX6) (T := TX6) (N := 2) hx hb hts u_X6 hown hK hP 0 rfl rfl 1 (by decide) k_f0 (fun _ h9 => h9) rfl dX6_add_29 ?_
          refine lv_lload_n hx hb dX6_add_32 rfl (lv_at hl 1 rfl) ?_
          refine lv_bipush (v := 8) hx hb dX6_add_33 bc_8 ?_
          refine lv_iload hx hb dX6_add_35 (lv_at hl 2 rfl) ?_
          refine lv_imul hx hb dX6_add_37 ?_
          refine lv_lushr hx hb dX6_add_38 rfl ?_
          refine lv_l2i hx hb dX6_add_39 rfl ?_
          refine lv_sipush (v := 255) hx hb dX6_add_40 sc_255 ?_
          refine lv_iand hx hb dX6_add_43 ?_
          obtain ⟨z_44, hc_44, h⟩ := bd_e h
          refine q_vS (As := [.ref a_bytes, .int x19_o_size, .int ((((p1.toUInt64 >>> ((8 * x19_l4).toInt64.toUInt64 &&& Int64.toUInt64 63)).toInt64).toInt32) &&& 255)]) (rest := []) (wF := [(a_o, .inr (5, [.ref a_bytes, .int x19_o_size])), (a_bytes, .inl (cI, 200, .inl z_44))]) hF hA hZ hK hP hD hS (c_X4_put l D cI cB cZ a_bytes 200 x19_f_bytes x19_o_size ((((p1.toUInt64 >>> ((8 * x19_l4).toInt64.toUInt64 &&& Int64.toUInt64 63)).toInt64).toInt32) &&& 255) z_44 hc_44) rfl gX6_add_X4_put hdX4_put ⟨rfl, rfl⟩ (Nat.le_of_ble_eq_true rfl) (Nat.le_of_ble_eq_true rfl) [1] [0] rfl rfl rfl rfl (by decide) rfl hl.1 rfl (Nat.le_of_ble_eq_true rfl) (Nat.zero_le _) (Nat.zero_le _) dX6_add_44 (fun H locs hP hD hS => ?_)
          refine lv_aload_n hx hb dX6_add_47 rfl (lv_at hl 0 rfl) ?_
          refine lv_dup hx hb dX6_add_48 rfl ?_
          refine va_get (D := D) (ci := 5) (v := .int x19_o_size) (C := RX6) (T := TX6) (N := 2) hx hb hts u_X6 hown hK hP 0 rfl rfl 1 (by decide) k_f0 (fun _ h9 => h9) rfl dX6_add_49 ?_
          refine lv_iconst (v := 1) hx hb dX6_add_52 ic_1 ?_
          refine lv_iadd hx hb dX6_add_53 ?_
          refine va_put (D := D) (ci := 5) (v := .int (x19_o_size + 1)) (ty := .int) (C := RX6) (T := TX6) (N := 2) hx hb hts u_X6 tyX6 tyX6_ok nmX6 hown hK hP hD hS 0 rfl rfl 1 (by decide) k_f0 (fun _ h9 => h9) rfl (tyX6_ok 1 (by decide)) rfl rfl (Nat.le_of_ble_eq_true rfl) dX6_add_54 (fun H locs hP hD hS => ?_)
          have hP : va_P D vwCl [(a_o, .inr (5, [.ref a_bytes, .int (x19_o_size + 1)])), (a_bytes, .inl (cI, 200, .inl z_44))] H := hP
          have hD : va_D A [(a_o, .inr (5, [.ref a_bytes, .int (x19_o_size + 1)])), (a_bytes, .inl (cI, 200, .inl z_44))] := hD
          refine lv_iinc (v := x19_l4 + (-1)) (lv' := [(4, .int (x19_l4 + (-1))), (0, .ref a_o), (1, .long p1)]) hx hb dX6_add_57 hl (k := 2) rfl (congrArg (x19_l4 + ·) ic_m1) (by decide) rfl (fun ls hl => ?_)
          refine lv_goto (tgt := 19) hx hb dX6_add_60 (by decide) ?_
          exact ih19 (x19_l4 + (-1)) (x19_o_size + 1) z_44 H locs ls h hP hD hS (lv_sub hl [1, 2, 0] rfl)
    exact L19 QF (p3 - 1) o_size f_bytes H locs ls h hP hD hS (lv_sub hl [1, 2, 0] rfl)
  · replace h := if_e c_9 h
    refine lv_iconst (v := 0) hx hb dX6_add_12 ic_0 ?_
    have hz := Option.some.inj h
    subst hz
    exact hret H locs 13 ls (fun ty h => by cases h; exact nar_0) hP hD hS dX6_add_13
abbrev rmX6_size : Room := { frames := 0, cells := 0, slots := 0, locals := 0 }
theorem hdX6_size : yX6_size.cls = RX6 ∧ yX6_size.cls ≠ "java/lang/invoke/MethodHandle" ∧ yX6_size.cls ≠ "java/lang/invoke/VarHandle" ∧ (parseMethodDescriptor yX6_size.desc).map (fun d => d.parameters.length) = some 0 := by decide +kernel
set_option maxRecDepth 100000 in
set_option maxHeartbeats 4000000 in
theorem c_X6_size (l : Launch) (D : va_G) (cI cB cZ : ClassId) (a_o : Nat) (w_o_bytes : Value) (o_size : Int32) (z : Int32) (h : P_X6_size o_size = some z) : KI l yX6_size wsX6_size rmX6_size D [(cI, .int), (cB, .byte), (cZ, .boolean)] [.ref a_o] [(a_o, .inr (5, [w_o_bytes, .int o_size]))] [(a_o, .inr (5, [w_o_bytes, .int o_size]))] z := by
  refine KI_of (own := RX6) (cc := cX6_size) (maxL := 1) (ret := some .int) (by decide) rfl rfl (Nat.le_of_ble_eq_true rfl) (Or.inl rfl) ?_
  intro p e s m args below meth c A Q hx hb hml hown hts hA hZ hK hret H locs ls hP hD hS hl
  have hl : lv_has ls 1 [(0, .ref a_o)] := hl
  have hF : CallFix p m c cX6_size 1 s args wsX6_size RX6 := ⟨hx, hb, hml, hown, hts⟩
  have u_X6 : ∀ w ∈ u_ws RX6 TX6 2, w ∈ wsX6_size := by decide +kernel
  have k_f0 := hts (.fieldLink RX6 13 "NoWordNo$Text" "size" "I") (by decide +kernel)
  unfold P_X6_size at h
  refine lv_aload_n hx hb dX6_size_0 rfl (lv_at hl 0 rfl) ?_
  refine va_get (D := D) (ci := 5) (v := .int o_size) (C := RX6) (T := TX6) (N := 2) hx hb hts u_X6 hown hK hP 0 rfl rfl 1 (by decide) k_f0 (fun _ h9 => h9) rfl dX6_size_1 ?_
  have hz := Option.some.inj h
  subst hz
  exact hret H locs 4 ls (fun ty h => by cases h; rfl) hP hD hS dX6_size_4
abbrev rmX10_type : Room := { frames := 2, cells := 0, slots := 0, locals := 46 }
theorem hdX10_type : yX10_type.cls = RX10 ∧ yX10_type.cls ≠ "java/lang/invoke/MethodHandle" ∧ yX10_type.cls ≠ "java/lang/invoke/VarHandle" ∧ (parseMethodDescriptor yX10_type.desc).map (fun d => d.parameters.length) = some 2 := by decide +kernel
set_option maxRecDepth 100000 in
set_option maxHeartbeats 4000000 in
theorem c_X10_type (l : Launch) (D : va_G) (cI cB cZ : ClassId) (a_o : Nat) (w_o_speech : Value) (w_o_now : Value) (w_o_image0 : Value) (w_o_image1 : Value) (w_o_signs : Value) (w_o_reader : Value) (w_o_lengths : Value) (w_o_refusals : Value) (w_o_two : Value) (o_measured : Int32) (o_traced : Int64) (a_text : Nat) (text_size : Int32) (a_text_bytes : Nat) (f_text_bytes : Nat → Int32) (p1 : Int64) (p3 : Int32) (z : Int32 × Int32 × (Nat → Int32)) (h : P_X10_type p1 p3 text_size f_text_bytes = some z) : KI l yX10_type wsX10_type rmX10_type D [(cI, .int), (cB, .byte), (cZ, .boolean)] [.ref a_o, .long p1, .int p3] [(a_o, .inr (9, [.ref a_text, w_o_speech, w_o_now, w_o_image0, w_o_image1, w_o_signs, w_o_reader, w_o_lengths, w_o_refusals, w_o_two, .int o_measured, .long o_traced])), (a_text, .inr (5, [.ref a_text_bytes, .int text_size])), (a_text_bytes, .inl (cI, 200, .inl f_text_bytes))] [(a_o, .inr (9, [.ref a_text, w_o_speech, w_o_now, w_o_image0, w_o_image1, w_o_signs, w_o_reader, w_o_lengths, w_o_refusals, w_o_two, .int o_measured, .long o_traced])), (a_text, .inr (5, [.ref a_text_bytes, .int z.2.1])), (a_text_bytes, .inl (cI, 200, .inl z.2.2))] z.1 := by
  refine KI_of (own := RX10) (cc := cX10_type) (maxL := 4) (ret := some .int) (by decide) rfl rfl (Nat.le_of_ble_eq_true rfl) (Or.inl rfl) ?_
  intro p e s m args below meth c A Q hx hb hml hown hts hA hZ hK hret H locs ls hP hD hS hl
  have hl : lv_has ls 4 [(0, .ref a_o), (1, .long p1), (3, .int p3)] := hl
  have hF : CallFix p m c cX10_type 4 s args wsX10_type RX10 := ⟨hx, hb, hml, hown, hts⟩
  have u_X10 : ∀ w ∈ u_ws RX10 TX10 12, w ∈ wsX10_type := by decide +kernel
  have k_f0 := hts (.fieldLink RX10 10 "NoWordNo" "text" "LNoWordNo$Text;") (by decide +kernel)
  unfold P_X10_type at h
  refine lv_iload_n hx hb dX10_type_0 rfl (lv_at hl 2 rfl) ?_
  refine lv_iconst (v := 1) hx hb dX10_type_1 ic_1 ?_
  refine lv_icmp_lt (tgt := 11) hx hb dX10_type_2 (by decide) (fun c_2 => ?_) (fun c_2 => ?_)
  · replace h := it_e c_2 h
    refine lv_iconst (v := (-1)) hx hb dX10_type_11 ic_m1 ?_
    have hz := Option.some.inj h
    subst hz
    exact hret H locs 12 ls (fun ty h => by cases h; rfl) hP hD hS dX10_type_12
  · replace h := if_e c_2 h
    refine lv_iload_n hx hb dX10_type_5 rfl (lv_at hl 2 rfl) ?_
    refine lv_bipush (v := 8) hx hb dX10_type_6 bc_8 ?_
    refine lv_icmp_le (tgt := 13) hx hb dX10_type_8 (by decide) (fun c_8 => ?_) (fun c_8 => ?_)
    · replace h := it_e c_8 h
      refine lv_aload_n hx hb dX10_type_13 rfl (lv_at hl 0 rfl) ?_
      refine va_get (D := D) (ci := 9) (v := .ref a_text) (C := RX10) (T := TX10) (N := 12) hx hb hts u_X10 hown hK hP 0 rfl rfl 0 (by decide) k_f0 (fun _ h9 => h9) rfl dX10_type_14 ?_
      refine lv_lload_n hx hb dX10_type_17 rfl (lv_at hl 1 rfl) ?_
      refine lv_iload_n hx hb dX10_type_18 rfl (lv_at hl 2 rfl) ?_
      obtain ⟨z_19, hc_19, h⟩ := bd_e h
      refine q_iV (As := [.long p1, .int p3]) (rest := []) (wF := [(a_o, .inr (9, [.ref a_text, w_o_speech, w_o_now, w_o_image0, w_o_image1, w_o_signs, w_o_reader, w_o_lengths, w_o_refusals, w_o_two, .int o_measured, .long o_traced])), (a_text, .inr (5, [.ref a_text_bytes, .int z_19.2.1])), (a_text_bytes, .inl (cI, 200, .inl z_19.2.2))]) hF hA hZ hK hP hD hS (c_X6_add l D cI cB cZ a_text text_size a_text_bytes f_text_bytes p1 p3 z_19 hc_19) rfl gX10_type_X6_add hdX6_add ⟨rfl, rfl⟩ (Nat.le_of_ble_eq_true rfl) (Nat.le_of_ble_eq_true rfl) 5 0 rfl rfl [1, 2] [0] rfl rfl rfl rfl (by decide) rfl hl.1 rfl (Nat.le_of_ble_eq_true rfl) (Nat.zero_le _) (Nat.zero_le _) dX10_type_19 (fun H locs hP hD hS => ?_)
      refine lv_if_eq (tgt := 35) hx hb dX10_type_22 (by decide) (fun c_22 => ?_) (fun c_22 => ?_)
      · replace h := it_e c_22 h
        refine lv_bipush (v := (-3)) hx hb dX10_type_35 bc_m3 ?_
        have hz := Option.some.inj h
        subst hz
        exact hret H locs 37 ls (fun ty h => by cases h; rfl) hP hD hS dX10_type_37
      · replace h := if_e c_22 h
        refine lv_aload_n hx hb dX10_type_25 rfl (lv_at hl 0 rfl) ?_
        refine va_get (D := D) (ci := 9) (v := .ref a_text) (C := RX10) (T := TX10) (N := 12) hx hb hts u_X10 hown hK hP 0 rfl rfl 0 (by decide) k_f0 (fun _ h9 => h9) rfl dX10_type_26 ?_
        obtain ⟨z_29, hc_29, h⟩ := bd_e h
        refine q_iV (As := []) (rest := []) (wF := [(a_o, .inr (9, [.ref a_text, w_o_speech, w_o_now, w_o_image0, w_o_image1, w_o_signs, w_o_reader, w_o_lengths, w_o_refusals, w_o_two, .int o_measured, .long o_traced])), (a_text_bytes, .inl (cI, 200, .inl z_19.2.2)), (a_text, .inr (5, [.ref a_text_bytes, .int z_19.2.1]))]) hF hA hZ hK hP hD hS (c_X6_size l D cI cB cZ a_text (.ref a_text_bytes) z_19.2.1 z_29 hc_29) rfl gX10_type_X6_size hdX6_size ⟨rfl, rfl⟩ (Nat.le_of_ble_eq_true rfl) (Nat.le_of_ble_eq_true rfl) 5 0 rfl rfl [1] [0, 2] rfl rfl rfl rfl (by decide) rfl hl.1 rfl (Nat.le_of_ble_eq_true rfl) (Nat.zero_le _) (Nat.zero_le _) dX10_type_29 (fun H locs hP hD hS => ?_)
        refine lv_goto (tgt := 37) hx hb dX10_type_32 (by decide) ?_
        have hz := Option.some.inj h
        subst hz
        exact hret H locs 37 ls (fun ty h => by cases h; rfl) (hP.sub [0, 2, 1] rfl) (hD.sub [0, 2, 1] (by decide) rfl) hS dX10_type_37
    · replace h := if_e c_8 h
      refine lv_iconst (v := (-1)) hx hb dX10_type_11 ic_m1 ?_
      have hz := Option.some.inj h
      subst hz
      exact hret H locs 12 ls (fun ty h => by cases h; rfl) hP hD hS dX10_type_12
abbrev rmX6_drop : Room := { frames := 0, cells := 0, slots := 0, locals := 0 }
theorem hdX6_drop : yX6_drop.cls = RX6 ∧ yX6_drop.cls ≠ "java/lang/invoke/MethodHandle" ∧ yX6_drop.cls ≠ "java/lang/invoke/VarHandle" ∧ (parseMethodDescriptor yX6_drop.desc).map (fun d => d.parameters.length) = some 0 := by decide +kernel
set_option maxRecDepth 100000 in
set_option maxHeartbeats 4000000 in
theorem c_X6_drop (l : Launch) (D : va_G) (cI cB cZ : ClassId) (a_o : Nat) (w_o_bytes : Value) (o_size : Int32) (z : Int32 × Int32) (h : P_X6_drop o_size = some z) : KI l yX6_drop wsX6_drop rmX6_drop D [(cI, .int), (cB, .byte), (cZ, .boolean)] [.ref a_o] [(a_o, .inr (5, [w_o_bytes, .int o_size]))] [(a_o, .inr (5, [w_o_bytes, .int z.2]))] z.1 := by
  refine KI_of (own := RX6) (cc := cX6_drop) (maxL := 2) (ret := some .int) (by decide) rfl rfl (Nat.le_of_ble_eq_true rfl) (Or.inl rfl) ?_
  intro p e s m args below meth c A Q hx hb hml hown hts hA hZ hK hret H locs ls hP hD hS hl
  have hl : lv_has ls 2 [(0, .ref a_o)] := hl
  have hF : CallFix p m c cX6_drop 2 s args wsX6_drop RX6 := ⟨hx, hb, hml, hown, hts⟩
  have u_X6 : ∀ w ∈ u_ws RX6 TX6 2, w ∈ wsX6_drop := by decide +kernel
  have k_f0 := hts (.fieldLink RX6 13 "NoWordNo$Text" "size" "I") (by decide +kernel)
  unfold P_X6_drop at h
  refine lv_aload_n hx hb dX6_drop_0 rfl (lv_at hl 0 rfl) ?_
  refine va_get (D := D) (ci := 5) (v := .int o_size) (C := RX6) (T := TX6) (N := 2) hx hb hts u_X6 hown hK hP 0 rfl rfl 1 (by decide) k_f0 (fun _ h9 => h9) rfl dX6_drop_1 ?_
  refine lv_istore_n (lv' := [(1, .int o_size), (0, .ref a_o)]) hx hb dX6_drop_4 rfl hl (by decide) rfl (fun ls hl => ?_)
  refine lv_aload_n hx hb dX6_drop_5 rfl (lv_at hl 1 rfl) ?_
  refine lv_iconst (v := 0) hx hb dX6_drop_6 ic_0 ?_
  refine va_put (D := D) (ci := 5) (v := .int 0) (ty := .int) (C := RX6) (T := TX6) (N := 2) hx hb hts u_X6 tyX6 tyX6_ok nmX6 hown hK hP hD hS 0 rfl rfl 1 (by decide) k_f0 (fun _ h9 => h9) rfl (tyX6_ok 1 (by decide)) rfl rfl (Nat.le_of_ble_eq_true rfl) dX6_drop_7 (fun H locs hP hD hS => ?_)
  have hP : va_P D vwCl [(a_o, .inr (5, [w_o_bytes, .int 0]))] H := hP
  have hD : va_D A [(a_o, .inr (5, [w_o_bytes, .int 0]))] := hD
  refine lv_iload_n hx hb dX6_drop_10 rfl (lv_at hl 0 rfl) ?_
  have hz := Option.some.inj h
  subst hz
  exact hret H locs 11 ls (fun ty h => by cases h; rfl) hP hD hS dX6_drop_11
abbrev rmX10_clear : Room := { frames := 1, cells := 0, slots := 0, locals := 21 }
theorem hdX10_clear : yX10_clear.cls = RX10 ∧ yX10_clear.cls ≠ "java/lang/invoke/MethodHandle" ∧ yX10_clear.cls ≠ "java/lang/invoke/VarHandle" ∧ (parseMethodDescriptor yX10_clear.desc).map (fun d => d.parameters.length) = some 0 := by decide +kernel
set_option maxRecDepth 100000 in
set_option maxHeartbeats 4000000 in
theorem c_X10_clear (l : Launch) (D : va_G) (cI cB cZ : ClassId) (a_o : Nat) (w_o_speech : Value) (w_o_now : Value) (w_o_image0 : Value) (w_o_image1 : Value) (w_o_signs : Value) (w_o_reader : Value) (w_o_lengths : Value) (w_o_refusals : Value) (w_o_two : Value) (o_measured : Int32) (o_traced : Int64) (a_text : Nat) (w_text_bytes : Value) (text_size : Int32) (z : Int32 × Int32) (h : P_X10_clear text_size = some z) : KI l yX10_clear wsX10_clear rmX10_clear D [(cI, .int), (cB, .byte), (cZ, .boolean)] [.ref a_o] [(a_o, .inr (9, [.ref a_text, w_o_speech, w_o_now, w_o_image0, w_o_image1, w_o_signs, w_o_reader, w_o_lengths, w_o_refusals, w_o_two, .int o_measured, .long o_traced])), (a_text, .inr (5, [w_text_bytes, .int text_size]))] [(a_o, .inr (9, [.ref a_text, w_o_speech, w_o_now, w_o_image0, w_o_image1, w_o_signs, w_o_reader, w_o_lengths, w_o_refusals, w_o_two, .int o_measured, .long o_traced])), (a_text, .inr (5, [w_text_bytes, .int z.2]))] z.1 := by
  refine KI_of (own := RX10) (cc := cX10_clear) (maxL := 1) (ret := some .int) (by decide) rfl rfl (Nat.le_of_ble_eq_true rfl) (Or.inl rfl) ?_
  intro p e s m args below meth c A Q hx hb hml hown hts hA hZ hK hret H locs ls hP hD hS hl
  have hl : lv_has ls 1 [(0, .ref a_o)] := hl
  have hF : CallFix p m c cX10_clear 1 s args wsX10_clear RX10 := ⟨hx, hb, hml, hown, hts⟩
  have u_X10 : ∀ w ∈ u_ws RX10 TX10 12, w ∈ wsX10_clear := by decide +kernel
  have k_f0 := hts (.fieldLink RX10 10 "NoWordNo" "text" "LNoWordNo$Text;") (by decide +kernel)
  unfold P_X10_clear at h
  refine lv_aload_n hx hb dX10_clear_0 rfl (lv_at hl 0 rfl) ?_
  refine va_get (D := D) (ci := 9) (v := .ref a_text) (C := RX10) (T := TX10) (N := 12) hx hb hts u_X10 hown hK hP 0 rfl rfl 0 (by decide) k_f0 (fun _ h9 => h9) rfl dX10_clear_1 ?_
  obtain ⟨z_4, hc_4, h⟩ := bd_e h
  refine q_iV (As := []) (rest := []) (wF := [(a_o, .inr (9, [.ref a_text, w_o_speech, w_o_now, w_o_image0, w_o_image1, w_o_signs, w_o_reader, w_o_lengths, w_o_refusals, w_o_two, .int o_measured, .long o_traced])), (a_text, .inr (5, [w_text_bytes, .int z_4.2]))]) hF hA hZ hK hP hD hS (c_X6_drop l D cI cB cZ a_text w_text_bytes text_size z_4 hc_4) rfl gX10_clear_X6_drop hdX6_drop ⟨rfl, rfl⟩ (Nat.le_of_ble_eq_true rfl) (Nat.le_of_ble_eq_true rfl) 5 0 rfl rfl [1] [0] rfl rfl rfl rfl (by decide) rfl hl.1 rfl (Nat.le_of_ble_eq_true rfl) (Nat.zero_le _) (Nat.zero_le _) dX10_clear_4 (fun H locs hP hD hS => ?_)
  have hz := Option.some.inj h
  subst hz
  exact hret H locs 7 ls (fun ty h => by cases h; rfl) hP hD hS dX10_clear_7
abbrev rmX7_begin : Room := { frames := 0, cells := 0, slots := 0, locals := 0 }
theorem hdX7_begin : yX7_begin.cls = RX7 ∧ yX7_begin.cls ≠ "java/lang/invoke/MethodHandle" ∧ yX7_begin.cls ≠ "java/lang/invoke/VarHandle" ∧ (parseMethodDescriptor yX7_begin.desc).map (fun d => d.parameters.length) = some 0 := by decide +kernel
set_option maxRecDepth 100000 in
set_option maxHeartbeats 4000000 in
theorem c_X7_begin (l : Launch) (D : va_G) (cI cB cZ : ClassId) (a_o : Nat) (w_o_text : Value) (o_next : Int32) (o_place : Int32) (o_kind : Int32) (z : Int32 × Int32 × Int32) (h : P_X7_begin o_next o_place o_kind = some z) : KV l yX7_begin wsX7_begin rmX7_begin D [(cI, .int), (cB, .byte), (cZ, .boolean)] [.ref a_o] [(a_o, .inr (6, [w_o_text, .int o_next, .int o_place, .int o_kind]))] [(a_o, .inr (6, [w_o_text, .int z.1, .int z.2.1, .int z.2.2]))] := by
  refine KV_of (own := RX7) (cc := cX7_begin) (maxL := 1) (by decide) rfl rfl (Nat.le_of_ble_eq_true rfl) ?_
  intro p e s m args below meth c A Q hx hb hml hown hts hA hZ hK hret H locs ls hP hD hS hl
  have hl : lv_has ls 1 [(0, .ref a_o)] := hl
  have hF : CallFix p m c cX7_begin 1 s args wsX7_begin RX7 := ⟨hx, hb, hml, hown, hts⟩
  have u_X7 : ∀ w ∈ u_ws RX7 TX7 4, w ∈ wsX7_begin := by decide +kernel
  have k_f0 := hts (.fieldLink RX7 7 "NoWordNo$Tokens" "next" "I") (by decide +kernel)
  have k_f1 := hts (.fieldLink RX7 13 "NoWordNo$Tokens" "place" "I") (by decide +kernel)
  have k_f2 := hts (.fieldLink RX7 16 "NoWordNo$Tokens" "kind" "I") (by decide +kernel)
  unfold P_X7_begin at h
  refine lv_aload_n hx hb dX7_begin_0 rfl (lv_at hl 0 rfl) ?_
  refine lv_iconst (v := 0) hx hb dX7_begin_1 ic_0 ?_
  refine va_put (D := D) (ci := 6) (v := .int 0) (ty := .int) (C := RX7) (T := TX7) (N := 4) hx hb hts u_X7 tyX7 tyX7_ok nmX7 hown hK hP hD hS 0 rfl rfl 1 (by decide) k_f0 (fun _ h9 => h9) rfl (tyX7_ok 1 (by decide)) rfl rfl (Nat.le_of_ble_eq_true rfl) dX7_begin_2 (fun H locs hP hD hS => ?_)
  have hP : va_P D vwCl [(a_o, .inr (6, [w_o_text, .int 0, .int o_place, .int o_kind]))] H := hP
  have hD : va_D A [(a_o, .inr (6, [w_o_text, .int 0, .int o_place, .int o_kind]))] := hD
  refine lv_aload_n hx hb dX7_begin_5 rfl (lv_at hl 0 rfl) ?_
  refine lv_iconst (v := 0) hx hb dX7_begin_6 ic_0 ?_
  refine va_put (D := D) (ci := 6) (v := .int 0) (ty := .int) (C := RX7) (T := TX7) (N := 4) hx hb hts u_X7 tyX7 tyX7_ok nmX7 hown hK hP hD hS 0 rfl rfl 2 (by decide) k_f1 (fun _ h9 => h9) rfl (tyX7_ok 2 (by decide)) rfl rfl (Nat.le_of_ble_eq_true rfl) dX7_begin_7 (fun H locs hP hD hS => ?_)
  have hP : va_P D vwCl [(a_o, .inr (6, [w_o_text, .int 0, .int 0, .int o_kind]))] H := hP
  have hD : va_D A [(a_o, .inr (6, [w_o_text, .int 0, .int 0, .int o_kind]))] := hD
  refine lv_aload_n hx hb dX7_begin_10 rfl (lv_at hl 0 rfl) ?_
  refine lv_iconst (v := 0) hx hb dX7_begin_11 ic_0 ?_
  refine va_put (D := D) (ci := 6) (v := .int 0) (ty := .int) (C := RX7) (T := TX7) (N := 4) hx hb hts u_X7 tyX7 tyX7_ok nmX7 hown hK hP hD hS 0 rfl rfl 3 (by decide) k_f2 (fun _ h9 => h9) rfl (tyX7_ok 3 (by decide)) rfl rfl (Nat.le_of_ble_eq_true rfl) dX7_begin_12 (fun H locs hP hD hS => ?_)
  have hP : va_P D vwCl [(a_o, .inr (6, [w_o_text, .int 0, .int 0, .int 0]))] H := hP
  have hD : va_D A [(a_o, .inr (6, [w_o_text, .int 0, .int 0, .int 0]))] := hD
  have hz := Option.some.inj h
  subst hz
  exact hret H locs 15 ls hP hD hS dX7_begin_15
abbrev rmX4_at : Room := { frames := 0, cells := 0, slots := 0, locals := 0 }
theorem hdX4_at : yX4_at.cls ≠ "java/lang/invoke/MethodHandle" ∧ yX4_at.cls ≠ "java/lang/invoke/VarHandle" ∧ (parseMethodDescriptor yX4_at.desc).map (fun d => d.parameters.length) = some 2 := by decide +kernel
set_option maxRecDepth 100000 in
set_option maxHeartbeats 4000000 in
theorem c_X4_at (l : Launch) (D : va_G) (cI cB cZ : ClassId) (a_p0 : Nat) (n_p0 : Nat) (f_p0 : Nat → Int32) (p1 : Int32) (z : Int32) (h : P_X4_at n_p0 p1 f_p0 = some z) : KI l yX4_at wsX4_at rmX4_at D [(cI, .int), (cB, .byte), (cZ, .boolean)] [.ref a_p0, .int p1] [(a_p0, .inl (cI, n_p0, .inl f_p0))] [(a_p0, .inl (cI, n_p0, .inl f_p0))] z := by
  refine KI_of (own := RX4) (cc := cX4_at) (maxL := 2) (ret := some .int) (by decide) rfl rfl (Nat.le_of_ble_eq_true rfl) (Or.inl rfl) ?_
  intro p e s m args below meth c A Q hx hb hml hown hts hA hZ hK hret H locs ls hP hD hS hl
  have hl : lv_has ls 2 [(0, .ref a_p0), (1, .int p1)] := hl
  have hF : CallFix p m c cX4_at 2 s args wsX4_at RX4 := ⟨hx, hb, hml, hown, hts⟩
  unfold P_X4_at at h
  refine lv_iload_n hx hb dX4_at_0 rfl (lv_at hl 1 rfl) ?_
  refine lv_if_lt (tgt := 16) hx hb dX4_at_1 (by decide) (fun c_1 => ?_) (fun c_1 => ?_)
  · replace h := it_e c_1 h
    refine lv_iconst (v := 0) hx hb dX4_at_16 ic_0 ?_
    have hz := Option.some.inj h
    subst hz
    exact hret H locs 17 ls (fun ty h => by cases h; rfl) hP hD hS dX4_at_17
  · replace h := if_e c_1 h
    refine lv_iload_n hx hb dX4_at_4 rfl (lv_at hl 1 rfl) ?_
    refine lv_aload_n hx hb dX4_at_5 rfl (lv_at hl 0 rfl) ?_
    refine va_alen hx hb hK hP 0 0 rfl rfl (v := (nI n_p0)) rfl dX4_at_6 ?_
    refine lv_icmp_ge (tgt := 16) hx hb dX4_at_7 (by decide) (fun c_7 => ?_) (fun c_7 => ?_)
    · replace h := it_e c_7 h
      refine lv_iconst (v := 0) hx hb dX4_at_16 ic_0 ?_
      have hz := Option.some.inj h
      subst hz
      exact hret H locs 17 ls (fun ty h => by cases h; rfl) hP hD hS dX4_at_17
    · replace h := if_e c_7 h
      refine lv_aload_n hx hb dX4_at_10 rfl (lv_at hl 0 rfl) ?_
      refine lv_iload_n hx hb dX4_at_11 rfl (lv_at hl 1 rfl) ?_
      obtain ⟨hi_12, h⟩ := ck_e h
      refine va_iald hx hb hK hP 0 0 rfl rfl hi_12 dX4_at_12 ?_
      refine lv_goto (tgt := 17) hx hb dX4_at_13 (by decide) ?_
      have hz := Option.some.inj h
      subst hz
      exact hret H locs 17 ls (fun ty h => by cases h; rfl) hP hD hS dX4_at_17
abbrev rmX6_byteAt : Room := { frames := 1, cells := 0, slots := 0, locals := 21 }
theorem hdX6_byteAt : yX6_byteAt.cls = RX6 ∧ yX6_byteAt.cls ≠ "java/lang/invoke/MethodHandle" ∧ yX6_byteAt.cls ≠ "java/lang/invoke/VarHandle" ∧ (parseMethodDescriptor yX6_byteAt.desc).map (fun d => d.parameters.length) = some 1 := by decide +kernel
set_option maxRecDepth 100000 in
set_option maxHeartbeats 4000000 in
theorem c_X6_byteAt (l : Launch) (D : va_G) (cI cB cZ : ClassId) (a_o : Nat) (o_size : Int32) (a_bytes : Nat) (f_bytes : Nat → Int32) (p1 : Int32) (z : Int32) (h : P_X6_byteAt p1 o_size f_bytes = some z) : KI l yX6_byteAt wsX6_byteAt rmX6_byteAt D [(cI, .int), (cB, .byte), (cZ, .boolean)] [.ref a_o, .int p1] [(a_o, .inr (5, [.ref a_bytes, .int o_size])), (a_bytes, .inl (cI, 200, .inl f_bytes))] [(a_o, .inr (5, [.ref a_bytes, .int o_size])), (a_bytes, .inl (cI, 200, .inl f_bytes))] z := by
  refine KI_of (own := RX6) (cc := cX6_byteAt) (maxL := 2) (ret := some .int) (by decide) rfl rfl (Nat.le_of_ble_eq_true rfl) (Or.inl rfl) ?_
  intro p e s m args below meth c A Q hx hb hml hown hts hA hZ hK hret H locs ls hP hD hS hl
  have hl : lv_has ls 2 [(0, .ref a_o), (1, .int p1)] := hl
  have hF : CallFix p m c cX6_byteAt 2 s args wsX6_byteAt RX6 := ⟨hx, hb, hml, hown, hts⟩
  have u_X6 : ∀ w ∈ u_ws RX6 TX6 2, w ∈ wsX6_byteAt := by decide +kernel
  have k_f0 := hts (.fieldLink RX6 13 "NoWordNo$Text" "size" "I") (by decide +kernel)
  have k_f1 := hts (.fieldLink RX6 9 "NoWordNo$Text" "bytes" "[I") (by decide +kernel)
  unfold P_X6_byteAt at h
  refine lv_iload_n hx hb dX6_byteAt_0 rfl (lv_at hl 1 rfl) ?_
  refine lv_aload_n hx hb dX6_byteAt_1 rfl (lv_at hl 0 rfl) ?_
  refine va_get (D := D) (ci := 5) (v := .int o_size) (C := RX6) (T := TX6) (N := 2) hx hb hts u_X6 hown hK hP 0 rfl rfl 1 (by decide) k_f0 (fun _ h9 => h9) rfl dX6_byteAt_2 ?_
  refine lv_icmp_ge (tgt := 19) hx hb dX6_byteAt_5 (by decide) (fun c_5 => ?_) (fun c_5 => ?_)
  · replace h := it_e c_5 h
    refine lv_iconst (v := 0) hx hb dX6_byteAt_19 ic_0 ?_
    have hz := Option.some.inj h
    subst hz
    exact hret H locs 20 ls (fun ty h => by cases h; rfl) hP hD hS dX6_byteAt_20
  · replace h := if_e c_5 h
    refine lv_aload_n hx hb dX6_byteAt_8 rfl (lv_at hl 0 rfl) ?_
    refine va_get (D := D) (ci := 5) (v := .ref a_bytes) (C := RX6) (T := TX6) (N := 2) hx hb hts u_X6 hown hK hP 0 rfl rfl 0 (by decide) k_f1 (fun _ h9 => h9) rfl dX6_byteAt_9 ?_
    refine lv_iload_n hx hb dX6_byteAt_12 rfl (lv_at hl 1 rfl) ?_
    obtain ⟨z_13, hc_13, h⟩ := bd_e h
    refine q_iS (As := [.ref a_bytes, .int p1]) (rest := []) (wF := [(a_o, .inr (5, [.ref a_bytes, .int o_size])), (a_bytes, .inl (cI, 200, .inl f_bytes))]) hF hA hZ hK hP hD hS (c_X4_at l D cI cB cZ a_bytes 200 f_bytes p1 z_13 hc_13) rfl gX6_byteAt_X4_at hdX4_at ⟨rfl, rfl⟩ (Nat.le_of_ble_eq_true rfl) (Nat.le_of_ble_eq_true rfl) [1] [0] rfl rfl rfl rfl (by decide) rfl hl.1 rfl (Nat.le_of_ble_eq_true rfl) (Nat.zero_le _) (Nat.zero_le _) dX6_byteAt_13 (fun H locs hP hD hS => ?_)
    refine lv_goto (tgt := 20) hx hb dX6_byteAt_16 (by decide) ?_
    have hz := Option.some.inj h
    subst hz
    exact hret H locs 20 ls (fun ty h => by cases h; rfl) hP hD hS dX6_byteAt_20
abbrev rmX7_isLetter : Room := { frames := 0, cells := 0, slots := 0, locals := 0 }
theorem hdX7_isLetter : yX7_isLetter.cls ≠ "java/lang/invoke/MethodHandle" ∧ yX7_isLetter.cls ≠ "java/lang/invoke/VarHandle" ∧ (parseMethodDescriptor yX7_isLetter.desc).map (fun d => d.parameters.length) = some 1 := by decide +kernel
set_option maxRecDepth 100000 in
set_option maxHeartbeats 4000000 in
theorem c_X7_isLetter (l : Launch) (D : va_G) (cI cB cZ : ClassId) (p0 : Int32) (z : Int32) (h : P_X7_isLetter p0 = some z) : KI l yX7_isLetter wsX7_isLetter rmX7_isLetter D [(cI, .int), (cB, .byte), (cZ, .boolean)] [.int p0] [] [] z := by
  refine KI_of (own := RX7) (cc := cX7_isLetter) (maxL := 1) (ret := some .boolean) (by decide) rfl rfl (Nat.le_of_ble_eq_true rfl) (Or.inr rfl) ?_
  intro p e s m args below meth c A Q hx hb hml hown hts hA hZ hK hret H locs ls hP hD hS hl
  have hl : lv_has ls 1 [(0, .int p0)] := hl
  have hF : CallFix p m c cX7_isLetter 1 s args wsX7_isLetter RX7 := ⟨hx, hb, hml, hown, hts⟩
  unfold P_X7_isLetter at h
  refine lv_iload_n hx hb dX7_isLetter_0 rfl (lv_at hl 0 rfl) ?_
  refine lv_bipush (v := 97) hx hb dX7_isLetter_1 bc_97 ?_
  refine lv_icmp_lt (tgt := 16) hx hb dX7_isLetter_3 (by decide) (fun c_3 => ?_) (fun c_3 => ?_)
  · replace h := it_e c_3 h
    refine lv_iconst (v := 0) hx hb dX7_isLetter_16 ic_0 ?_
    have hz := Option.some.inj h
    subst hz
    exact hret H locs 17 ls (fun ty h => by cases h; exact nar_0) hP hD hS dX7_isLetter_17
  · replace h := if_e c_3 h
    refine lv_iload_n hx hb dX7_isLetter_6 rfl (lv_at hl 0 rfl) ?_
    refine lv_bipush (v := 122) hx hb dX7_isLetter_7 bc_122 ?_
    refine lv_icmp_gt (tgt := 16) hx hb dX7_isLetter_9 (by decide) (fun c_9 => ?_) (fun c_9 => ?_)
    · replace h := it_e c_9 h
      refine lv_iconst (v := 0) hx hb dX7_isLetter_16 ic_0 ?_
      have hz := Option.some.inj h
      subst hz
      exact hret H locs 17 ls (fun ty h => by cases h; exact nar_0) hP hD hS dX7_isLetter_17
    · replace h := if_e c_9 h
      refine lv_iconst (v := 1) hx hb dX7_isLetter_12 ic_1 ?_
      refine lv_goto (tgt := 17) hx hb dX7_isLetter_13 (by decide) ?_
      have hz := Option.some.inj h
      subst hz
      exact hret H locs 17 ls (fun ty h => by cases h; exact nar_1) hP hD hS dX7_isLetter_17
abbrev rmX7_passLetters : Room := { frames := 2, cells := 0, slots := 0, locals := 42 }
theorem hdX7_passLetters : yX7_passLetters.cls = RX7 ∧ yX7_passLetters.cls ≠ "java/lang/invoke/MethodHandle" ∧ yX7_passLetters.cls ≠ "java/lang/invoke/VarHandle" ∧ (parseMethodDescriptor yX7_passLetters.desc).map (fun d => d.parameters.length) = some 0 := by decide +kernel
set_option maxRecDepth 100000 in
set_option maxHeartbeats 4000000 in
theorem c_X7_passLetters (l : Launch) (D : va_G) (cI cB cZ : ClassId) (a_o : Nat) (o_next : Int32) (o_place : Int32) (o_kind : Int32) (a_text : Nat) (text_size : Int32) (a_text_bytes : Nat) (f_text_bytes : Nat → Int32) (z : Int32) (h : P_X7_passLetters o_next text_size f_text_bytes = some z) : KV l yX7_passLetters wsX7_passLetters rmX7_passLetters D [(cI, .int), (cB, .byte), (cZ, .boolean)] [.ref a_o] [(a_o, .inr (6, [.ref a_text, .int o_next, .int o_place, .int o_kind])), (a_text, .inr (5, [.ref a_text_bytes, .int text_size])), (a_text_bytes, .inl (cI, 200, .inl f_text_bytes))] [(a_o, .inr (6, [.ref a_text, .int z, .int o_place, .int o_kind])), (a_text, .inr (5, [.ref a_text_bytes, .int text_size])), (a_text_bytes, .inl (cI, 200, .inl f_text_bytes))] := by
  refine KV_of (own := RX7) (cc := cX7_passLetters) (maxL := 1) (by decide) rfl rfl (Nat.le_of_ble_eq_true rfl) ?_
  intro p e s m args below meth c A Q hx hb hml hown hts hA hZ hK hret H locs ls hP hD hS hl
  have hl : lv_has ls 1 [(0, .ref a_o)] := hl
  have hF : CallFix p m c cX7_passLetters 1 s args wsX7_passLetters RX7 := ⟨hx, hb, hml, hown, hts⟩
  have u_X7 : ∀ w ∈ u_ws RX7 TX7 4, w ∈ wsX7_passLetters := by decide +kernel
  have k_f0 := hts (.fieldLink RX7 7 "NoWordNo$Tokens" "next" "I") (by decide +kernel)
  have k_f1 := hts (.fieldLink RX7 19 "NoWordNo$Tokens" "text" "LNoWordNo$Text;") (by decide +kernel)
  unfold P_X7_passLetters at h
  have L0 : ∀ (n : Nat), ∀ (x0_o_next : Int32) (H : Heap) (locs : List Loc) (ls : Array Slot), P_X7_passLetters_0 text_size f_text_bytes n x0_o_next = some z → va_P D vwCl [(a_o, .inr (6, [.ref a_text, .int x0_o_next, .int o_place, .int o_kind])), (a_text, .inr (5, [.ref a_text_bytes, .int text_size])), (a_text_bytes, .inl (cI, 200, .inl f_text_bytes))] H → va_D A [(a_o, .inr (6, [.ref a_text, .int x0_o_next, .int o_place, .int o_kind])), (a_text, .inr (5, [.ref a_text_bytes, .int text_size])), (a_text_bytes, .inl (cI, 200, .inl f_text_bytes))] → va_S A s.heap H locs → lv_has ls 1 [(0, .ref a_o)] → W p l e rmX7_passLetters s m args below meth c H locs 0 0 Q (F0 m 0 ls []) := by
    intro n
    induction n with
    | zero =>
      intro x0_o_next H locs ls h
      exact no_e h
    | succ n ih0 =>
      intro x0_o_next H locs ls h hP hD hS hl
      rw [P_X7_passLetters_0] at h
      refine lv_aload_n hx hb dX7_passLetters_0 rfl (lv_at hl 0 rfl) ?_
      refine va_get (D := D) (ci := 6) (v := .int x0_o_next) (C := RX7) (T := TX7) (N := 4) hx hb hts u_X7 hown hK hP 0 rfl rfl 1 (by decide) k_f0 (fun _ h9 => h9) rfl dX7_passLetters_1 ?_
      refine lv_aload_n hx hb dX7_passLetters_4 rfl (lv_at hl 0 rfl) ?_
      refine va_get (D := D) (ci := 6) (v := .ref a_text) (C := RX7) (T := TX7) (N := 4) hx hb hts u_X7 hown hK hP 0 rfl rfl 0 (by decide) k_f1 (fun _ h9 => h9) rfl dX7_passLetters_5 ?_
      obtain ⟨z_8, hc_8, h⟩ := bd_e h
      refine q_iV (As := []) (rest := [.int x0_o_next]) (wF := [(a_o, .inr (6, [.ref a_text, .int x0_o_next, .int o_place, .int o_kind])), (a_text_bytes, .inl (cI, 200, .inl f_text_bytes)), (a_text, .inr (5, [.ref a_text_bytes, .int text_size]))]) hF hA hZ hK hP hD hS (c_X6_size l D cI cB cZ a_text (.ref a_text_bytes) text_size z_8 hc_8) rfl gX7_passLetters_X6_size hdX6_size ⟨rfl, rfl⟩ (Nat.le_of_ble_eq_true rfl) (Nat.le_of_ble_eq_true rfl) 5 0 rfl rfl [1] [0, 2] rfl rfl rfl rfl (by decide) rfl hl.1 rfl (Nat.le_of_ble_eq_true rfl) (Nat.zero_le _) (Nat.zero_le _) dX7_passLetters_8 (fun H locs hP hD hS => ?_)
      refine lv_icmp_ge (tgt := 44) hx hb dX7_passLetters_11 (by decide) (fun c_11 => ?_) (fun c_11 => ?_)
      · replace h := it_e c_11 h
        have hz := Option.some.inj h
        subst hz
        exact hret H locs 44 ls (hP.sub [0, 2, 1] rfl) (hD.sub [0, 2, 1] (by decide) rfl) hS dX7_passLetters_44
      · replace h := if_e c_11 h
        refine lv_aload_n hx hb dX7_passLetters_14 rfl (lv_at hl 0 rfl) ?_
        refine va_get (D := D) (ci := 6) (v := .ref a_text) (C := RX7) (T := TX7) (N := 4) hx hb hts u_X7 hown hK hP 0 rfl rfl 0 (by decide) k_f1 (fun _ h9 => h9) rfl dX7_passLetters_15 ?_
        refine lv_aload_n hx hb dX7_passLetters_18 rfl (lv_at hl 0 rfl) ?_
        refine va_get (D := D) (ci := 6) (v := .int x0_o_next) (C := RX7) (T := TX7) (N := 4) hx hb hts u_X7 hown hK hP 0 rfl rfl 1 (by decide) k_f0 (fun _ h9 => h9) rfl dX7_passLetters_19 ?_
        obtain ⟨z_22, hc_22, h⟩ := bd_e h
        refine q_iV (As := [.int x0_o_next]) (rest := []) (wF := [(a_o, .inr (6, [.ref a_text, .int x0_o_next, .int o_place, .int o_kind])), (a_text, .inr (5, [.ref a_text_bytes, .int text_size])), (a_text_bytes, .inl (cI, 200, .inl f_text_bytes))]) hF hA hZ hK hP hD hS (c_X6_byteAt l D cI cB cZ a_text text_size a_text_bytes f_text_bytes x0_o_next z_22 hc_22) rfl gX7_passLetters_X6_byteAt hdX6_byteAt ⟨rfl, rfl⟩ (Nat.le_of_ble_eq_true rfl) (Nat.le_of_ble_eq_true rfl) 5 0 rfl rfl [2, 1] [0] rfl rfl rfl rfl (by decide) rfl hl.1 rfl (Nat.le_of_ble_eq_true rfl) (Nat.zero_le _) (Nat.zero_le _) dX7_passLetters_22 (fun H locs hP hD hS => ?_)
        obtain ⟨z_25, hc_25, h⟩ := bd_e h
        refine q_iS (As := [.int z_22]) (rest := []) (wF := [(a_o, .inr (6, [.ref a_text, .int x0_o_next, .int o_place, .int o_kind])), (a_text, .inr (5, [.ref a_text_bytes, .int text_size])), (a_text_bytes, .inl (cI, 200, .inl f_text_bytes))]) hF hA hZ hK hP hD hS (c_X7_isLetter l D cI cB cZ z_22 z_25 hc_25) rfl gX7_passLetters_X7_isLetter hdX7_isLetter ⟨rfl, rfl⟩ (Nat.le_of_ble_eq_true rfl) (Nat.le_of_ble_eq_true rfl) [] [0, 1, 2] rfl rfl rfl rfl (by decide) rfl hl.1 rfl (Nat.le_of_ble_eq_true rfl) (Nat.zero_le _) (Nat.zero_le _) dX7_passLetters_25 (fun H locs hP hD hS => ?_)
        refine lv_if_eq (tgt := 44) hx hb dX7_passLetters_28 (by decide) (fun c_28 => ?_) (fun c_28 => ?_)
        · replace h := it_e c_28 h
          have hz := Option.some.inj h
          subst hz
          exact hret H locs 44 ls hP hD hS dX7_passLetters_44
        · replace h := if_e c_28 h
          refine lv_aload_n hx hb dX7_passLetters_31 rfl (lv_at hl 0 rfl) ?_
          refine lv_dup hx hb dX7_passLetters_32 rfl ?_
          refine va_get (D := D) (ci := 6) (v := .int x0_o_next) (C := RX7) (T := TX7) (N := 4) hx hb hts u_X7 hown hK hP 0 rfl rfl 1 (by decide) k_f0 (fun _ h9 => h9) rfl dX7_passLetters_33 ?_
          refine lv_iconst (v := 1) hx hb dX7_passLetters_36 ic_1 ?_
          refine lv_iadd hx hb dX7_passLetters_37 ?_
          refine va_put (D := D) (ci := 6) (v := .int (x0_o_next + 1)) (ty := .int) (C := RX7) (T := TX7) (N := 4) hx hb hts u_X7 tyX7 tyX7_ok nmX7 hown hK hP hD hS 0 rfl rfl 1 (by decide) k_f0 (fun _ h9 => h9) rfl (tyX7_ok 1 (by decide)) rfl rfl (Nat.le_of_ble_eq_true rfl) dX7_passLetters_38 (fun H locs hP hD hS => ?_)
          have hP : va_P D vwCl [(a_o, .inr (6, [.ref a_text, .int (x0_o_next + 1), .int o_place, .int o_kind])), (a_text, .inr (5, [.ref a_text_bytes, .int text_size])), (a_text_bytes, .inl (cI, 200, .inl f_text_bytes))] H := hP
          have hD : va_D A [(a_o, .inr (6, [.ref a_text, .int (x0_o_next + 1), .int o_place, .int o_kind])), (a_text, .inr (5, [.ref a_text_bytes, .int text_size])), (a_text_bytes, .inl (cI, 200, .inl f_text_bytes))] := hD
          refine lv_goto (tgt := 0) hx hb dX7_passLetters_41 (by decide) ?_
          exact ih0 (x0_o_next + 1) H locs ls h hP hD hS hl
  exact L0 QF o_next H locs ls h hP hD hS hl
abbrev rmX7_isDigit : Room := { frames := 0, cells := 0, slots := 0, locals := 0 }
theorem hdX7_isDigit : yX7_isDigit.cls ≠ "java/lang/invoke/MethodHandle" ∧ yX7_isDigit.cls ≠ "java/lang/invoke/VarHandle" ∧ (parseMethodDescriptor yX7_isDigit.desc).map (fun d => d.parameters.length) = some 1 := by decide +kernel
set_option maxRecDepth 100000 in
set_option maxHeartbeats 4000000 in
theorem c_X7_isDigit (l : Launch) (D : va_G) (cI cB cZ : ClassId) (p0 : Int32) (z : Int32) (h : P_X7_isDigit p0 = some z) : KI l yX7_isDigit wsX7_isDigit rmX7_isDigit D [(cI, .int), (cB, .byte), (cZ, .boolean)] [.int p0] [] [] z := by
  refine KI_of (own := RX7) (cc := cX7_isDigit) (maxL := 1) (ret := some .boolean) (by decide) rfl rfl (Nat.le_of_ble_eq_true rfl) (Or.inr rfl) ?_
  intro p e s m args below meth c A Q hx hb hml hown hts hA hZ hK hret H locs ls hP hD hS hl
  have hl : lv_has ls 1 [(0, .int p0)] := hl
  have hF : CallFix p m c cX7_isDigit 1 s args wsX7_isDigit RX7 := ⟨hx, hb, hml, hown, hts⟩
  unfold P_X7_isDigit at h
  refine lv_iload_n hx hb dX7_isDigit_0 rfl (lv_at hl 0 rfl) ?_
  refine lv_bipush (v := 48) hx hb dX7_isDigit_1 bc_48 ?_
  refine lv_icmp_lt (tgt := 16) hx hb dX7_isDigit_3 (by decide) (fun c_3 => ?_) (fun c_3 => ?_)
  · replace h := it_e c_3 h
    refine lv_iconst (v := 0) hx hb dX7_isDigit_16 ic_0 ?_
    have hz := Option.some.inj h
    subst hz
    exact hret H locs 17 ls (fun ty h => by cases h; exact nar_0) hP hD hS dX7_isDigit_17
  · replace h := if_e c_3 h
    refine lv_iload_n hx hb dX7_isDigit_6 rfl (lv_at hl 0 rfl) ?_
    refine lv_bipush (v := 57) hx hb dX7_isDigit_7 bc_57 ?_
    refine lv_icmp_gt (tgt := 16) hx hb dX7_isDigit_9 (by decide) (fun c_9 => ?_) (fun c_9 => ?_)
    · replace h := it_e c_9 h
      refine lv_iconst (v := 0) hx hb dX7_isDigit_16 ic_0 ?_
      have hz := Option.some.inj h
      subst hz
      exact hret H locs 17 ls (fun ty h => by cases h; exact nar_0) hP hD hS dX7_isDigit_17
    · replace h := if_e c_9 h
      refine lv_iconst (v := 1) hx hb dX7_isDigit_12 ic_1 ?_
      refine lv_goto (tgt := 17) hx hb dX7_isDigit_13 (by decide) ?_
      have hz := Option.some.inj h
      subst hz
      exact hret H locs 17 ls (fun ty h => by cases h; exact nar_1) hP hD hS dX7_isDigit_17
abbrev rmX7_passDigits : Room := { frames := 2, cells := 0, slots := 0, locals := 42 }
theorem hdX7_passDigits : yX7_passDigits.cls = RX7 ∧ yX7_passDigits.cls ≠ "java/lang/invoke/MethodHandle" ∧ yX7_passDigits.cls ≠ "java/lang/invoke/VarHandle" ∧ (parseMethodDescriptor yX7_passDigits.desc).map (fun d => d.parameters.length) = some 0 := by decide +kernel
set_option maxRecDepth 100000 in
set_option maxHeartbeats 4000000 in
theorem c_X7_passDigits (l : Launch) (D : va_G) (cI cB cZ : ClassId) (a_o : Nat) (o_next : Int32) (o_place : Int32) (o_kind : Int32) (a_text : Nat) (text_size : Int32) (a_text_bytes : Nat) (f_text_bytes : Nat → Int32) (z : Int32) (h : P_X7_passDigits o_next text_size f_text_bytes = some z) : KV l yX7_passDigits wsX7_passDigits rmX7_passDigits D [(cI, .int), (cB, .byte), (cZ, .boolean)] [.ref a_o] [(a_o, .inr (6, [.ref a_text, .int o_next, .int o_place, .int o_kind])), (a_text, .inr (5, [.ref a_text_bytes, .int text_size])), (a_text_bytes, .inl (cI, 200, .inl f_text_bytes))] [(a_o, .inr (6, [.ref a_text, .int z, .int o_place, .int o_kind])), (a_text, .inr (5, [.ref a_text_bytes, .int text_size])), (a_text_bytes, .inl (cI, 200, .inl f_text_bytes))] := by
  refine KV_of (own := RX7) (cc := cX7_passDigits) (maxL := 1) (by decide) rfl rfl (Nat.le_of_ble_eq_true rfl) ?_
  intro p e s m args below meth c A Q hx hb hml hown hts hA hZ hK hret H locs ls hP hD hS hl
  have hl : lv_has ls 1 [(0, .ref a_o)] := hl
  have hF : CallFix p m c cX7_passDigits 1 s args wsX7_passDigits RX7 := ⟨hx, hb, hml, hown, hts⟩
  have u_X7 : ∀ w ∈ u_ws RX7 TX7 4, w ∈ wsX7_passDigits := by decide +kernel
  have k_f0 := hts (.fieldLink RX7 7 "NoWordNo$Tokens" "next" "I") (by decide +kernel)
  have k_f1 := hts (.fieldLink RX7 19 "NoWordNo$Tokens" "text" "LNoWordNo$Text;") (by decide +kernel)
  unfold P_X7_passDigits at h
  have L0 : ∀ (n : Nat), ∀ (x0_o_next : Int32) (H : Heap) (locs : List Loc) (ls : Array Slot), P_X7_passDigits_0 text_size f_text_bytes n x0_o_next = some z → va_P D vwCl [(a_o, .inr (6, [.ref a_text, .int x0_o_next, .int o_place, .int o_kind])), (a_text, .inr (5, [.ref a_text_bytes, .int text_size])), (a_text_bytes, .inl (cI, 200, .inl f_text_bytes))] H → va_D A [(a_o, .inr (6, [.ref a_text, .int x0_o_next, .int o_place, .int o_kind])), (a_text, .inr (5, [.ref a_text_bytes, .int text_size])), (a_text_bytes, .inl (cI, 200, .inl f_text_bytes))] → va_S A s.heap H locs → lv_has ls 1 [(0, .ref a_o)] → W p l e rmX7_passDigits s m args below meth c H locs 0 0 Q (F0 m 0 ls []) := by
    intro n
    induction n with
    | zero =>
      intro x0_o_next H locs ls h
      exact no_e h
    | succ n ih0 =>
      intro x0_o_next H locs ls h hP hD hS hl
      rw [P_X7_passDigits_0] at h
      refine lv_aload_n hx hb dX7_passDigits_0 rfl (lv_at hl 0 rfl) ?_
      refine va_get (D := D) (ci := 6) (v := .int x0_o_next) (C := RX7) (T := TX7) (N := 4) hx hb hts u_X7 hown hK hP 0 rfl rfl 1 (by decide) k_f0 (fun _ h9 => h9) rfl dX7_passDigits_1 ?_
      refine lv_aload_n hx hb dX7_passDigits_4 rfl (lv_at hl 0 rfl) ?_
      refine va_get (D := D) (ci := 6) (v := .ref a_text) (C := RX7) (T := TX7) (N := 4) hx hb hts u_X7 hown hK hP 0 rfl rfl 0 (by decide) k_f1 (fun _ h9 => h9) rfl dX7_passDigits_5 ?_
      obtain ⟨z_8, hc_8, h⟩ := bd_e h
      refine q_iV (As := []) (rest := [.int x0_o_next]) (wF := [(a_o, .inr (6, [.ref a_text, .int x0_o_next, .int o_place, .int o_kind])), (a_text_bytes, .inl (cI, 200, .inl f_text_bytes)), (a_text, .inr (5, [.ref a_text_bytes, .int text_size]))]) hF hA hZ hK hP hD hS (c_X6_size l D cI cB cZ a_text (.ref a_text_bytes) text_size z_8 hc_8) rfl gX7_passDigits_X6_size hdX6_size ⟨rfl, rfl⟩ (Nat.le_of_ble_eq_true rfl) (Nat.le_of_ble_eq_true rfl) 5 0 rfl rfl [1] [0, 2] rfl rfl rfl rfl (by decide) rfl hl.1 rfl (Nat.le_of_ble_eq_true rfl) (Nat.zero_le _) (Nat.zero_le _) dX7_passDigits_8 (fun H locs hP hD hS => ?_)
      refine lv_icmp_ge (tgt := 44) hx hb dX7_passDigits_11 (by decide) (fun c_11 => ?_) (fun c_11 => ?_)
      · replace h := it_e c_11 h
        have hz := Option.some.inj h
        subst hz
        exact hret H locs 44 ls (hP.sub [0, 2, 1] rfl) (hD.sub [0, 2, 1] (by decide) rfl) hS dX7_passDigits_44
      · replace h := if_e c_11 h
        refine lv_aload_n hx hb dX7_passDigits_14 rfl (lv_at hl 0 rfl) ?_
        refine va_get (D := D) (ci := 6) (v := .ref a_text) (C := RX7) (T := TX7) (N := 4) hx hb hts u_X7 hown hK hP 0 rfl rfl 0 (by decide) k_f1 (fun _ h9 => h9) rfl dX7_passDigits_15 ?_
        refine lv_aload_n hx hb dX7_passDigits_18 rfl (lv_at hl 0 rfl) ?_
        refine va_get (D := D) (ci := 6) (v := .int x0_o_next) (C := RX7) (T := TX7) (N := 4) hx hb hts u_X7 hown hK hP 0 rfl rfl 1 (by decide) k_f0 (fun _ h9 => h9) rfl dX7_passDigits_19 ?_
        obtain ⟨z_22, hc_22, h⟩ := bd_e h
        refine q_iV (As := [.int x0_o_next]) (rest := []) (wF := [(a_o, .inr (6, [.ref a_text, .int x0_o_next, .int o_place, .int o_kind])), (a_text, .inr (5, [.ref a_text_bytes, .int text_size])), (a_text_bytes, .inl (cI, 200, .inl f_text_bytes))]) hF hA hZ hK hP hD hS (c_X6_byteAt l D cI cB cZ a_text text_size a_text_bytes f_text_bytes x0_o_next z_22 hc_22) rfl gX7_passDigits_X6_byteAt hdX6_byteAt ⟨rfl, rfl⟩ (Nat.le_of_ble_eq_true rfl) (Nat.le_of_ble_eq_true rfl) 5 0 rfl rfl [2, 1] [0] rfl rfl rfl rfl (by decide) rfl hl.1 rfl (Nat.le_of_ble_eq_true rfl) (Nat.zero_le _) (Nat.zero_le _) dX7_passDigits_22 (fun H locs hP hD hS => ?_)
        obtain ⟨z_25, hc_25, h⟩ := bd_e h
        refine q_iS (As := [.int z_22]) (rest := []) (wF := [(a_o, .inr (6, [.ref a_text, .int x0_o_next, .int o_place, .int o_kind])), (a_text, .inr (5, [.ref a_text_bytes, .int text_size])), (a_text_bytes, .inl (cI, 200, .inl f_text_bytes))]) hF hA hZ hK hP hD hS (c_X7_isDigit l D cI cB cZ z_22 z_25 hc_25) rfl gX7_passDigits_X7_isDigit hdX7_isDigit ⟨rfl, rfl⟩ (Nat.le_of_ble_eq_true rfl) (Nat.le_of_ble_eq_true rfl) [] [0, 1, 2] rfl rfl rfl rfl (by decide) rfl hl.1 rfl (Nat.le_of_ble_eq_true rfl) (Nat.zero_le _) (Nat.zero_le _) dX7_passDigits_25 (fun H locs hP hD hS => ?_)
        refine lv_if_eq (tgt := 44) hx hb dX7_passDigits_28 (by decide) (fun c_28 => ?_) (fun c_28 => ?_)
        · replace h := it_e c_28 h
          have hz := Option.some.inj h
          subst hz
          exact hret H locs 44 ls hP hD hS dX7_passDigits_44
        · replace h := if_e c_28 h
          refine lv_aload_n hx hb dX7_passDigits_31 rfl (lv_at hl 0 rfl) ?_
          refine lv_dup hx hb dX7_passDigits_32 rfl ?_
          refine va_get (D := D) (ci := 6) (v := .int x0_o_next) (C := RX7) (T := TX7) (N := 4) hx hb hts u_X7 hown hK hP 0 rfl rfl 1 (by decide) k_f0 (fun _ h9 => h9) rfl dX7_passDigits_33 ?_
          refine lv_iconst (v := 1) hx hb dX7_passDigits_36 ic_1 ?_
          refine lv_iadd hx hb dX7_passDigits_37 ?_
          refine va_put (D := D) (ci := 6) (v := .int (x0_o_next + 1)) (ty := .int) (C := RX7) (T := TX7) (N := 4) hx hb hts u_X7 tyX7 tyX7_ok nmX7 hown hK hP hD hS 0 rfl rfl 1 (by decide) k_f0 (fun _ h9 => h9) rfl (tyX7_ok 1 (by decide)) rfl rfl (Nat.le_of_ble_eq_true rfl) dX7_passDigits_38 (fun H locs hP hD hS => ?_)
          have hP : va_P D vwCl [(a_o, .inr (6, [.ref a_text, .int (x0_o_next + 1), .int o_place, .int o_kind])), (a_text, .inr (5, [.ref a_text_bytes, .int text_size])), (a_text_bytes, .inl (cI, 200, .inl f_text_bytes))] H := hP
          have hD : va_D A [(a_o, .inr (6, [.ref a_text, .int (x0_o_next + 1), .int o_place, .int o_kind])), (a_text, .inr (5, [.ref a_text_bytes, .int text_size])), (a_text_bytes, .inl (cI, 200, .inl f_text_bytes))] := hD
          refine lv_goto (tgt := 0) hx hb dX7_passDigits_41 (by decide) ?_
          exact ih0 (x0_o_next + 1) H locs ls h hP hD hS hl
  exact L0 QF o_next H locs ls h hP hD hS hl
abbrev rmX7_isMark : Room := { frames := 0, cells := 0, slots := 0, locals := 0 }
theorem hdX7_isMark : yX7_isMark.cls ≠ "java/lang/invoke/MethodHandle" ∧ yX7_isMark.cls ≠ "java/lang/invoke/VarHandle" ∧ (parseMethodDescriptor yX7_isMark.desc).map (fun d => d.parameters.length) = some 1 := by decide +kernel
set_option maxRecDepth 100000 in
set_option maxHeartbeats 4000000 in
theorem c_X7_isMark (l : Launch) (D : va_G) (cI cB cZ : ClassId) (p0 : Int32) (z : Int32) (h : P_X7_isMark p0 = some z) : KI l yX7_isMark wsX7_isMark rmX7_isMark D [(cI, .int), (cB, .byte), (cZ, .boolean)] [.int p0] [] [] z := by
  refine KI_of (own := RX7) (cc := cX7_isMark) (maxL := 1) (ret := some .boolean) (by decide) rfl rfl (Nat.le_of_ble_eq_true rfl) (Or.inr rfl) ?_
  intro p e s m args below meth c A Q hx hb hml hown hts hA hZ hK hret H locs ls hP hD hS hl
  have hl : lv_has ls 1 [(0, .int p0)] := hl
  have hF : CallFix p m c cX7_isMark 1 s args wsX7_isMark RX7 := ⟨hx, hb, hml, hown, hts⟩
  unfold P_X7_isMark at h
  refine lv_iload_n hx hb dX7_isMark_0 rfl (lv_at hl 0 rfl) ?_
  refine lv_bipush (v := 59) hx hb dX7_isMark_1 bc_59 ?_
  obtain ⟨j30, hj30, h⟩ := jn_e h
  have Jj30 : ∀ (H : Heap) (locs : List Loc) (ls : Array Slot), j30 () = some z → va_P D vwCl [] H → va_D A [] → va_S A s.heap H locs → lv_has ls 1 [] → W p l e rmX7_isMark s m args below meth c H locs 0 0 Q (F0 m 30 ls []) := by
    intro H locs ls h hP hD hS hl
    rw [hj30] at h
    refine lv_iconst (v := 1) hx hb dX7_isMark_30 ic_1 ?_
    refine lv_goto (tgt := 35) hx hb dX7_isMark_31 (by decide) ?_
    have hz := Option.some.inj h
    subst hz
    exact hret H locs 35 ls (fun ty h => by cases h; exact nar_1) hP hD hS dX7_isMark_35
  refine lv_icmp_eq (tgt := 30) hx hb dX7_isMark_3 (by decide) (fun c_3 => ?_) (fun c_3 => ?_)
  · replace h := it_e c_3 h
    exact Jj30  H locs ls h hP hD hS (lv_sub hl [] rfl)
  · replace h := if_e c_3 h
    refine lv_iload_n hx hb dX7_isMark_6 rfl (lv_at hl 0 rfl) ?_
    refine lv_bipush (v := 124) hx hb dX7_isMark_7 bc_124 ?_
    refine lv_icmp_eq (tgt := 30) hx hb dX7_isMark_9 (by decide) (fun c_9 => ?_) (fun c_9 => ?_)
    · replace h := it_e c_9 h
      exact Jj30  H locs ls h hP hD hS (lv_sub hl [] rfl)
    · replace h := if_e c_9 h
      refine lv_iload_n hx hb dX7_isMark_12 rfl (lv_at hl 0 rfl) ?_
      refine lv_bipush (v := 38) hx hb dX7_isMark_13 bc_38 ?_
      refine lv_icmp_eq (tgt := 30) hx hb dX7_isMark_15 (by decide) (fun c_15 => ?_) (fun c_15 => ?_)
      · replace h := it_e c_15 h
        exact Jj30  H locs ls h hP hD hS (lv_sub hl [] rfl)
      · replace h := if_e c_15 h
        refine lv_iload_n hx hb dX7_isMark_18 rfl (lv_at hl 0 rfl) ?_
        refine lv_bipush (v := 40) hx hb dX7_isMark_19 bc_40 ?_
        refine lv_icmp_eq (tgt := 30) hx hb dX7_isMark_21 (by decide) (fun c_21 => ?_) (fun c_21 => ?_)
        · replace h := it_e c_21 h
          exact Jj30  H locs ls h hP hD hS (lv_sub hl [] rfl)
        · replace h := if_e c_21 h
          refine lv_iload_n hx hb dX7_isMark_24 rfl (lv_at hl 0 rfl) ?_
          refine lv_bipush (v := 41) hx hb dX7_isMark_25 bc_41 ?_
          refine lv_icmp_ne (tgt := 34) hx hb dX7_isMark_27 (by decide) (fun c_27 => ?_) (fun c_27 => ?_)
          · replace h := if_e c_27 h
            refine lv_iconst (v := 0) hx hb dX7_isMark_34 ic_0 ?_
            have hz := Option.some.inj h
            subst hz
            exact hret H locs 35 ls (fun ty h => by cases h; exact nar_0) hP hD hS dX7_isMark_35
          · replace h := it_e c_27 h
            exact Jj30  H locs ls h hP hD hS (lv_sub hl [] rfl)
abbrev rmX7_step : Room := { frames := 3, cells := 0, slots := 0, locals := 62 }
theorem hdX7_step : yX7_step.cls = RX7 ∧ yX7_step.cls ≠ "java/lang/invoke/MethodHandle" ∧ yX7_step.cls ≠ "java/lang/invoke/VarHandle" ∧ (parseMethodDescriptor yX7_step.desc).map (fun d => d.parameters.length) = some 0 := by decide +kernel
set_option maxRecDepth 100000 in
set_option maxHeartbeats 4000000 in
theorem c_X7_step (l : Launch) (D : va_G) (cI cB cZ : ClassId) (a_o : Nat) (o_next : Int32) (o_place : Int32) (o_kind : Int32) (a_text : Nat) (text_size : Int32) (a_text_bytes : Nat) (f_text_bytes : Nat → Int32) (z : Int32 × Int32 × Int32) (h : P_X7_step o_next o_place o_kind text_size f_text_bytes = some z) : KV l yX7_step wsX7_step rmX7_step D [(cI, .int), (cB, .byte), (cZ, .boolean)] [.ref a_o] [(a_o, .inr (6, [.ref a_text, .int o_next, .int o_place, .int o_kind])), (a_text, .inr (5, [.ref a_text_bytes, .int text_size])), (a_text_bytes, .inl (cI, 200, .inl f_text_bytes))] [(a_o, .inr (6, [.ref a_text, .int z.1, .int z.2.1, .int z.2.2])), (a_text, .inr (5, [.ref a_text_bytes, .int text_size])), (a_text_bytes, .inl (cI, 200, .inl f_text_bytes))] := by
  refine KV_of (own := RX7) (cc := cX7_step) (maxL := 2) (by decide) rfl rfl (Nat.le_of_ble_eq_true rfl) ?_
  intro p e s m args below meth c A Q hx hb hml hown hts hA hZ hK hret H locs ls hP hD hS hl
  have hl : lv_has ls 2 [(0, .ref a_o)] := hl
  have hF : CallFix p m c cX7_step 2 s args wsX7_step RX7 := ⟨hx, hb, hml, hown, hts⟩
  have u_X7 : ∀ w ∈ u_ws RX7 TX7 4, w ∈ wsX7_step := by decide +kernel
  have k_f0 := hts (.fieldLink RX7 7 "NoWordNo$Tokens" "next" "I") (by decide +kernel)
  have k_f1 := hts (.fieldLink RX7 13 "NoWordNo$Tokens" "place" "I") (by decide +kernel)
  have k_f2 := hts (.fieldLink RX7 19 "NoWordNo$Tokens" "text" "LNoWordNo$Text;") (by decide +kernel)
  have k_f3 := hts (.fieldLink RX7 16 "NoWordNo$Tokens" "kind" "I") (by decide +kernel)
  unfold P_X7_step at h
  obtain ⟨k43, hk43, h⟩ := jn_e h
  have Jk43 : ∀ (x43_o_next : Int32) (H : Heap) (locs : List Loc) (ls : Array Slot), k43 x43_o_next = some z → va_P D vwCl [(a_o, .inr (6, [.ref a_text, .int x43_o_next, .int o_place, .int o_kind])), (a_text, .inr (5, [.ref a_text_bytes, .int text_size])), (a_text_bytes, .inl (cI, 200, .inl f_text_bytes))] H → va_D A [(a_o, .inr (6, [.ref a_text, .int x43_o_next, .int o_place, .int o_kind])), (a_text, .inr (5, [.ref a_text_bytes, .int text_size])), (a_text_bytes, .inl (cI, 200, .inl f_text_bytes))] → va_S A s.heap H locs → lv_has ls 2 [(0, .ref a_o)] → W p l e rmX7_step s m args below meth c H locs 0 0 Q (F0 m 43 ls []) := by
    intro x43_o_next H locs ls h hP hD hS hl
    rw [hk43] at h
    refine lv_aload_n hx hb dX7_step_43 rfl (lv_at hl 0 rfl) ?_
    refine lv_aload_n hx hb dX7_step_44 rfl (lv_at hl 0 rfl) ?_
    refine va_get (D := D) (ci := 6) (v := .int x43_o_next) (C := RX7) (T := TX7) (N := 4) hx hb hts u_X7 hown hK hP 0 rfl rfl 1 (by decide) k_f0 (fun _ h9 => h9) rfl dX7_step_45 ?_
    refine va_put (D := D) (ci := 6) (v := .int x43_o_next) (ty := .int) (C := RX7) (T := TX7) (N := 4) hx hb hts u_X7 tyX7 tyX7_ok nmX7 hown hK hP hD hS 0 rfl rfl 2 (by decide) k_f1 (fun _ h9 => h9) rfl (tyX7_ok 2 (by decide)) rfl rfl (Nat.le_of_ble_eq_true rfl) dX7_step_48 (fun H locs hP hD hS => ?_)
    have hP : va_P D vwCl [(a_o, .inr (6, [.ref a_text, .int x43_o_next, .int x43_o_next, .int o_kind])), (a_text, .inr (5, [.ref a_text_bytes, .int text_size])), (a_text_bytes, .inl (cI, 200, .inl f_text_bytes))] H := hP
    have hD : va_D A [(a_o, .inr (6, [.ref a_text, .int x43_o_next, .int x43_o_next, .int o_kind])), (a_text, .inr (5, [.ref a_text_bytes, .int text_size])), (a_text_bytes, .inl (cI, 200, .inl f_text_bytes))] := hD
    refine lv_aload_n hx hb dX7_step_51 rfl (lv_at hl 0 rfl) ?_
    refine va_get (D := D) (ci := 6) (v := .ref a_text) (C := RX7) (T := TX7) (N := 4) hx hb hts u_X7 hown hK hP 0 rfl rfl 0 (by decide) k_f2 (fun _ h9 => h9) rfl dX7_step_52 ?_
    refine lv_aload_n hx hb dX7_step_55 rfl (lv_at hl 0 rfl) ?_
    refine va_get (D := D) (ci := 6) (v := .int x43_o_next) (C := RX7) (T := TX7) (N := 4) hx hb hts u_X7 hown hK hP 0 rfl rfl 1 (by decide) k_f0 (fun _ h9 => h9) rfl dX7_step_56 ?_
    obtain ⟨z_59, hc_59, h⟩ := bd_e h
    refine q_iV (As := [.int x43_o_next]) (rest := []) (wF := [(a_o, .inr (6, [.ref a_text, .int x43_o_next, .int x43_o_next, .int o_kind])), (a_text, .inr (5, [.ref a_text_bytes, .int text_size])), (a_text_bytes, .inl (cI, 200, .inl f_text_bytes))]) hF hA hZ hK hP hD hS (c_X6_byteAt l D cI cB cZ a_text text_size a_text_bytes f_text_bytes x43_o_next z_59 hc_59) rfl gX7_step_X6_byteAt hdX6_byteAt ⟨rfl, rfl⟩ (Nat.le_of_ble_eq_true rfl) (Nat.le_of_ble_eq_true rfl) 5 0 rfl rfl [1, 2] [0] rfl rfl rfl rfl (by decide) rfl hl.1 rfl (Nat.le_of_ble_eq_true rfl) (Nat.zero_le _) (Nat.zero_le _) dX7_step_59 (fun H locs hP hD hS => ?_)
    refine lv_istore_n (lv' := [(1, .int z_59), (0, .ref a_o)]) hx hb dX7_step_62 rfl hl (by decide) rfl (fun ls hl => ?_)
    refine lv_aload_n hx hb dX7_step_63 rfl (lv_at hl 1 rfl) ?_
    refine va_get (D := D) (ci := 6) (v := .int x43_o_next) (C := RX7) (T := TX7) (N := 4) hx hb hts u_X7 hown hK hP 0 rfl rfl 1 (by decide) k_f0 (fun _ h9 => h9) rfl dX7_step_64 ?_
    refine lv_aload_n hx hb dX7_step_67 rfl (lv_at hl 1 rfl) ?_
    refine va_get (D := D) (ci := 6) (v := .ref a_text) (C := RX7) (T := TX7) (N := 4) hx hb hts u_X7 hown hK hP 0 rfl rfl 0 (by decide) k_f2 (fun _ h9 => h9) rfl dX7_step_68 ?_
    obtain ⟨z_71, hc_71, h⟩ := bd_e h
    refine q_iV (As := []) (rest := [.int x43_o_next]) (wF := [(a_o, .inr (6, [.ref a_text, .int x43_o_next, .int x43_o_next, .int o_kind])), (a_text_bytes, .inl (cI, 200, .inl f_text_bytes)), (a_text, .inr (5, [.ref a_text_bytes, .int text_size]))]) hF hA hZ hK hP hD hS (c_X6_size l D cI cB cZ a_text (.ref a_text_bytes) text_size z_71 hc_71) rfl gX7_step_X6_size hdX6_size ⟨rfl, rfl⟩ (Nat.le_of_ble_eq_true rfl) (Nat.le_of_ble_eq_true rfl) 5 0 rfl rfl [1] [0, 2] rfl rfl rfl rfl (by decide) rfl hl.1 rfl (Nat.le_of_ble_eq_true rfl) (Nat.zero_le _) (Nat.zero_le _) dX7_step_71 (fun H locs hP hD hS => ?_)
    refine lv_icmp_lt (tgt := 85) hx hb dX7_step_74 (by decide) (fun c_74 => ?_) (fun c_74 => ?_)
    · replace h := it_e c_74 h
      refine lv_iload_n hx hb dX7_step_85 rfl (lv_at hl 0 rfl) ?_
      obtain ⟨z_86, hc_86, h⟩ := bd_e h
      refine q_iS (As := [.int z_59]) (rest := []) (wF := [(a_o, .inr (6, [.ref a_text, .int x43_o_next, .int x43_o_next, .int o_kind])), (a_text_bytes, .inl (cI, 200, .inl f_text_bytes)), (a_text, .inr (5, [.ref a_text_bytes, .int text_size]))]) hF hA hZ hK hP hD hS (c_X7_isLetter l D cI cB cZ z_59 z_86 hc_86) rfl gX7_step_X7_isLetter hdX7_isLetter ⟨rfl, rfl⟩ (Nat.le_of_ble_eq_true rfl) (Nat.le_of_ble_eq_true rfl) [] [0, 1, 2] rfl rfl rfl rfl (by decide) rfl hl.1 rfl (Nat.le_of_ble_eq_true rfl) (Nat.zero_le _) (Nat.zero_le _) dX7_step_86 (fun H locs hP hD hS => ?_)
      refine lv_if_eq (tgt := 104) hx hb dX7_step_89 (by decide) (fun c_89 => ?_) (fun c_89 => ?_)
      · replace h := it_e c_89 h
        refine lv_iload_n hx hb dX7_step_104 rfl (lv_at hl 0 rfl) ?_
        obtain ⟨z_105, hc_105, h⟩ := bd_e h
        refine q_iS (As := [.int z_59]) (rest := []) (wF := [(a_o, .inr (6, [.ref a_text, .int x43_o_next, .int x43_o_next, .int o_kind])), (a_text_bytes, .inl (cI, 200, .inl f_text_bytes)), (a_text, .inr (5, [.ref a_text_bytes, .int text_size]))]) hF hA hZ hK hP hD hS (c_X7_isDigit l D cI cB cZ z_59 z_105 hc_105) rfl gX7_step_X7_isDigit hdX7_isDigit ⟨rfl, rfl⟩ (Nat.le_of_ble_eq_true rfl) (Nat.le_of_ble_eq_true rfl) [] [0, 1, 2] rfl rfl rfl rfl (by decide) rfl hl.1 rfl (Nat.le_of_ble_eq_true rfl) (Nat.zero_le _) (Nat.zero_le _) dX7_step_105 (fun H locs hP hD hS => ?_)
        refine lv_if_eq (tgt := 123) hx hb dX7_step_108 (by decide) (fun c_108 => ?_) (fun c_108 => ?_)
        · replace h := it_e c_108 h
          refine lv_aload_n hx hb dX7_step_123 rfl (lv_at hl 1 rfl) ?_
          refine lv_iload_n hx hb dX7_step_124 rfl (lv_at hl 0 rfl) ?_
          obtain ⟨z_125, hc_125, h⟩ := bd_e h
          refine q_iS (As := [.int z_59]) (rest := [.ref a_o]) (wF := [(a_o, .inr (6, [.ref a_text, .int x43_o_next, .int x43_o_next, .int o_kind])), (a_text_bytes, .inl (cI, 200, .inl f_text_bytes)), (a_text, .inr (5, [.ref a_text_bytes, .int text_size]))]) hF hA hZ hK hP hD hS (c_X7_isMark l D cI cB cZ z_59 z_125 hc_125) rfl gX7_step_X7_isMark hdX7_isMark ⟨rfl, rfl⟩ (Nat.le_of_ble_eq_true rfl) (Nat.le_of_ble_eq_true rfl) [] [0, 1, 2] rfl rfl rfl rfl (by decide) rfl hl.1 rfl (Nat.le_of_ble_eq_true rfl) (Nat.zero_le _) (Nat.zero_le _) dX7_step_125 (fun H locs hP hD hS => ?_)
          obtain ⟨j136, hj136, h⟩ := jn_e h
          have Jj136 : ∀ (x136_s1 : Int32) (H : Heap) (locs : List Loc) (ls : Array Slot), j136 x136_s1 = some z → va_P D vwCl [(a_o, .inr (6, [.ref a_text, .int x43_o_next, .int x43_o_next, .int o_kind])), (a_text_bytes, .inl (cI, 200, .inl f_text_bytes)), (a_text, .inr (5, [.ref a_text_bytes, .int text_size]))] H → va_D A [(a_o, .inr (6, [.ref a_text, .int x43_o_next, .int x43_o_next, .int o_kind])), (a_text_bytes, .inl (cI, 200, .inl f_text_bytes)), (a_text, .inr (5, [.ref a_text_bytes, .int text_size]))] → va_S A s.heap H locs → lv_has ls 2 [(0, .ref a_o)] → W p l e rmX7_step s m args below meth c H locs 0 0 Q (F0 m 136 ls [.int x136_s1, .ref a_o]) := by
            intro x136_s1 H locs ls h hP hD hS hl
            rw [hj136] at h
            refine va_put (D := D) (ci := 6) (v := .int x136_s1) (ty := .int) (C := RX7) (T := TX7) (N := 4) hx hb hts u_X7 tyX7 tyX7_ok nmX7 hown hK hP hD hS 0 rfl rfl 3 (by decide) k_f3 (fun _ h9 => h9) rfl (tyX7_ok 3 (by decide)) rfl rfl (Nat.le_of_ble_eq_true rfl) dX7_step_136 (fun H locs hP hD hS => ?_)
            have hP : va_P D vwCl [(a_o, .inr (6, [.ref a_text, .int x43_o_next, .int x43_o_next, .int x136_s1])), (a_text_bytes, .inl (cI, 200, .inl f_text_bytes)), (a_text, .inr (5, [.ref a_text_bytes, .int text_size]))] H := hP
            have hD : va_D A [(a_o, .inr (6, [.ref a_text, .int x43_o_next, .int x43_o_next, .int x136_s1])), (a_text_bytes, .inl (cI, 200, .inl f_text_bytes)), (a_text, .inr (5, [.ref a_text_bytes, .int text_size]))] := hD
            refine lv_aload_n hx hb dX7_step_139 rfl (lv_at hl 0 rfl) ?_
            refine lv_dup hx hb dX7_step_140 rfl ?_
            refine va_get (D := D) (ci := 6) (v := .int x43_o_next) (C := RX7) (T := TX7) (N := 4) hx hb hts u_X7 hown hK hP 0 rfl rfl 1 (by decide) k_f0 (fun _ h9 => h9) rfl dX7_step_141 ?_
            refine lv_iconst (v := 1) hx hb dX7_step_144 ic_1 ?_
            refine lv_iadd hx hb dX7_step_145 ?_
            refine va_put (D := D) (ci := 6) (v := .int (x43_o_next + 1)) (ty := .int) (C := RX7) (T := TX7) (N := 4) hx hb hts u_X7 tyX7 tyX7_ok nmX7 hown hK hP hD hS 0 rfl rfl 1 (by decide) k_f0 (fun _ h9 => h9) rfl (tyX7_ok 1 (by decide)) rfl rfl (Nat.le_of_ble_eq_true rfl) dX7_step_146 (fun H locs hP hD hS => ?_)
            have hP : va_P D vwCl [(a_o, .inr (6, [.ref a_text, .int (x43_o_next + 1), .int x43_o_next, .int x136_s1])), (a_text_bytes, .inl (cI, 200, .inl f_text_bytes)), (a_text, .inr (5, [.ref a_text_bytes, .int text_size]))] H := hP
            have hD : va_D A [(a_o, .inr (6, [.ref a_text, .int (x43_o_next + 1), .int x43_o_next, .int x136_s1])), (a_text_bytes, .inl (cI, 200, .inl f_text_bytes)), (a_text, .inr (5, [.ref a_text_bytes, .int text_size]))] := hD
            have hz := Option.some.inj h
            subst hz
            exact hret H locs 149 ls (hP.sub [0, 2, 1] rfl) (hD.sub [0, 2, 1] (by decide) rfl) hS dX7_step_149
          refine lv_if_eq (tgt := 135) hx hb dX7_step_128 (by decide) (fun c_128 => ?_) (fun c_128 => ?_)
          · replace h := it_e c_128 h
            refine lv_iconst (v := 1) hx hb dX7_step_135 ic_1 ?_
            exact Jj136 1 H locs ls h hP hD hS (lv_sub hl [1] rfl)
          · replace h := if_e c_128 h
            refine lv_iload_n hx hb dX7_step_131 rfl (lv_at hl 0 rfl) ?_
            refine lv_goto (tgt := 136) hx hb dX7_step_132 (by decide) ?_
            exact Jj136 z_59 H locs ls h hP hD hS (lv_sub hl [1] rfl)
        · replace h := if_e c_108 h
          refine lv_aload_n hx hb dX7_step_111 rfl (lv_at hl 1 rfl) ?_
          refine lv_iconst (v := 3) hx hb dX7_step_112 ic_3 ?_
          refine va_put (D := D) (ci := 6) (v := .int 3) (ty := .int) (C := RX7) (T := TX7) (N := 4) hx hb hts u_X7 tyX7 tyX7_ok nmX7 hown hK hP hD hS 0 rfl rfl 3 (by decide) k_f3 (fun _ h9 => h9) rfl (tyX7_ok 3 (by decide)) rfl rfl (Nat.le_of_ble_eq_true rfl) dX7_step_113 (fun H locs hP hD hS => ?_)
          have hP : va_P D vwCl [(a_o, .inr (6, [.ref a_text, .int x43_o_next, .int x43_o_next, .int 3])), (a_text_bytes, .inl (cI, 200, .inl f_text_bytes)), (a_text, .inr (5, [.ref a_text_bytes, .int text_size]))] H := hP
          have hD : va_D A [(a_o, .inr (6, [.ref a_text, .int x43_o_next, .int x43_o_next, .int 3])), (a_text_bytes, .inl (cI, 200, .inl f_text_bytes)), (a_text, .inr (5, [.ref a_text_bytes, .int text_size]))] := hD
          refine lv_aload_n hx hb dX7_step_116 rfl (lv_at hl 1 rfl) ?_
          obtain ⟨z_117, hc_117, h⟩ := bd_e h
          refine q_vV (As := []) (rest := []) (wF := [(a_o, .inr (6, [.ref a_text, .int z_117, .int x43_o_next, .int 3])), (a_text, .inr (5, [.ref a_text_bytes, .int text_size])), (a_text_bytes, .inl (cI, 200, .inl f_text_bytes))]) hF hA hZ hK hP hD hS (c_X7_passDigits l D cI cB cZ a_o x43_o_next x43_o_next 3 a_text text_size a_text_bytes f_text_bytes z_117 hc_117) rfl gX7_step_X7_passDigits hdX7_passDigits ⟨rfl, rfl⟩ (Nat.le_of_ble_eq_true rfl) (Nat.le_of_ble_eq_true rfl) 6 0 rfl rfl [0, 2, 1] [] rfl rfl rfl rfl (by decide) rfl hl.1 rfl (Nat.le_of_ble_eq_true rfl) (Nat.zero_le _) (Nat.zero_le _) dX7_step_117 (fun H locs hP hD hS => ?_)
          refine lv_goto (tgt := 149) hx hb dX7_step_120 (by decide) ?_
          have hz := Option.some.inj h
          subst hz
          exact hret H locs 149 ls hP hD hS dX7_step_149
      · replace h := if_e c_89 h
        refine lv_aload_n hx hb dX7_step_92 rfl (lv_at hl 1 rfl) ?_
        refine lv_iconst (v := 2) hx hb dX7_step_93 ic_2 ?_
        refine va_put (D := D) (ci := 6) (v := .int 2) (ty := .int) (C := RX7) (T := TX7) (N := 4) hx hb hts u_X7 tyX7 tyX7_ok nmX7 hown hK hP hD hS 0 rfl rfl 3 (by decide) k_f3 (fun _ h9 => h9) rfl (tyX7_ok 3 (by decide)) rfl rfl (Nat.le_of_ble_eq_true rfl) dX7_step_94 (fun H locs hP hD hS => ?_)
        have hP : va_P D vwCl [(a_o, .inr (6, [.ref a_text, .int x43_o_next, .int x43_o_next, .int 2])), (a_text_bytes, .inl (cI, 200, .inl f_text_bytes)), (a_text, .inr (5, [.ref a_text_bytes, .int text_size]))] H := hP
        have hD : va_D A [(a_o, .inr (6, [.ref a_text, .int x43_o_next, .int x43_o_next, .int 2])), (a_text_bytes, .inl (cI, 200, .inl f_text_bytes)), (a_text, .inr (5, [.ref a_text_bytes, .int text_size]))] := hD
        refine lv_aload_n hx hb dX7_step_97 rfl (lv_at hl 1 rfl) ?_
        obtain ⟨z_98, hc_98, h⟩ := bd_e h
        refine q_vV (As := []) (rest := []) (wF := [(a_o, .inr (6, [.ref a_text, .int z_98, .int x43_o_next, .int 2])), (a_text, .inr (5, [.ref a_text_bytes, .int text_size])), (a_text_bytes, .inl (cI, 200, .inl f_text_bytes))]) hF hA hZ hK hP hD hS (c_X7_passLetters l D cI cB cZ a_o x43_o_next x43_o_next 2 a_text text_size a_text_bytes f_text_bytes z_98 hc_98) rfl gX7_step_X7_passLetters hdX7_passLetters ⟨rfl, rfl⟩ (Nat.le_of_ble_eq_true rfl) (Nat.le_of_ble_eq_true rfl) 6 0 rfl rfl [0, 2, 1] [] rfl rfl rfl rfl (by decide) rfl hl.1 rfl (Nat.le_of_ble_eq_true rfl) (Nat.zero_le _) (Nat.zero_le _) dX7_step_98 (fun H locs hP hD hS => ?_)
        refine lv_goto (tgt := 149) hx hb dX7_step_101 (by decide) ?_
        have hz := Option.some.inj h
        subst hz
        exact hret H locs 149 ls hP hD hS dX7_step_149
    · replace h := if_e c_74 h
      refine lv_aload_n hx hb dX7_step_77 rfl (lv_at hl 1 rfl) ?_
      refine lv_iconst (v := 0) hx hb dX7_step_78 ic_0 ?_
      refine va_put (D := D) (ci := 6) (v := .int 0) (ty := .int) (C := RX7) (T := TX7) (N := 4) hx hb hts u_X7 tyX7 tyX7_ok nmX7 hown hK hP hD hS 0 rfl rfl 3 (by decide) k_f3 (fun _ h9 => h9) rfl (tyX7_ok 3 (by decide)) rfl rfl (Nat.le_of_ble_eq_true rfl) dX7_step_79 (fun H locs hP hD hS => ?_)
      have hP : va_P D vwCl [(a_o, .inr (6, [.ref a_text, .int x43_o_next, .int x43_o_next, .int 0])), (a_text_bytes, .inl (cI, 200, .inl f_text_bytes)), (a_text, .inr (5, [.ref a_text_bytes, .int text_size]))] H := hP
      have hD : va_D A [(a_o, .inr (6, [.ref a_text, .int x43_o_next, .int x43_o_next, .int 0])), (a_text_bytes, .inl (cI, 200, .inl f_text_bytes)), (a_text, .inr (5, [.ref a_text_bytes, .int text_size]))] := hD
      refine lv_goto (tgt := 149) hx hb dX7_step_82 (by decide) ?_
      have hz := Option.some.inj h
      subst hz
      exact hret H locs 149 ls (hP.sub [0, 2, 1] rfl) (hD.sub [0, 2, 1] (by decide) rfl) hS dX7_step_149
  have L0 : ∀ (n : Nat), ∀ (x0_o_next : Int32) (H : Heap) (locs : List Loc) (ls : Array Slot), P_X7_step_0 text_size f_text_bytes k43 n x0_o_next = some z → va_P D vwCl [(a_o, .inr (6, [.ref a_text, .int x0_o_next, .int o_place, .int o_kind])), (a_text, .inr (5, [.ref a_text_bytes, .int text_size])), (a_text_bytes, .inl (cI, 200, .inl f_text_bytes))] H → va_D A [(a_o, .inr (6, [.ref a_text, .int x0_o_next, .int o_place, .int o_kind])), (a_text, .inr (5, [.ref a_text_bytes, .int text_size])), (a_text_bytes, .inl (cI, 200, .inl f_text_bytes))] → va_S A s.heap H locs → lv_has ls 2 [(0, .ref a_o)] → W p l e rmX7_step s m args below meth c H locs 0 0 Q (F0 m 0 ls []) := by
    intro n
    induction n with
    | zero =>
      intro x0_o_next H locs ls h
      exact no_e h
    | succ n ih0 =>
      intro x0_o_next H locs ls h hP hD hS hl
      rw [P_X7_step_0] at h
      refine lv_aload_n hx hb dX7_step_0 rfl (lv_at hl 0 rfl) ?_
      refine va_get (D := D) (ci := 6) (v := .int x0_o_next) (C := RX7) (T := TX7) (N := 4) hx hb hts u_X7 hown hK hP 0 rfl rfl 1 (by decide) k_f0 (fun _ h9 => h9) rfl dX7_step_1 ?_
      refine lv_aload_n hx hb dX7_step_4 rfl (lv_at hl 0 rfl) ?_
      refine va_get (D := D) (ci := 6) (v := .ref a_text) (C := RX7) (T := TX7) (N := 4) hx hb hts u_X7 hown hK hP 0 rfl rfl 0 (by decide) k_f2 (fun _ h9 => h9) rfl dX7_step_5 ?_
      obtain ⟨z_8, hc_8, h⟩ := bd_e h
      refine q_iV (As := []) (rest := [.int x0_o_next]) (wF := [(a_o, .inr (6, [.ref a_text, .int x0_o_next, .int o_place, .int o_kind])), (a_text_bytes, .inl (cI, 200, .inl f_text_bytes)), (a_text, .inr (5, [.ref a_text_bytes, .int text_size]))]) hF hA hZ hK hP hD hS (c_X6_size l D cI cB cZ a_text (.ref a_text_bytes) text_size z_8 hc_8) rfl gX7_step_X6_size hdX6_size ⟨rfl, rfl⟩ (Nat.le_of_ble_eq_true rfl) (Nat.le_of_ble_eq_true rfl) 5 0 rfl rfl [1] [0, 2] rfl rfl rfl rfl (by decide) rfl hl.1 rfl (Nat.le_of_ble_eq_true rfl) (Nat.zero_le _) (Nat.zero_le _) dX7_step_8 (fun H locs hP hD hS => ?_)
      refine lv_icmp_ge (tgt := 43) hx hb dX7_step_11 (by decide) (fun c_11 => ?_) (fun c_11 => ?_)
      · replace h := it_e c_11 h
        exact Jk43 x0_o_next H locs ls h (hP.sub [0, 2, 1] rfl) (hD.sub [0, 2, 1] (by decide) rfl) hS hl
      · replace h := if_e c_11 h
        refine lv_aload_n hx hb dX7_step_14 rfl (lv_at hl 0 rfl) ?_
        refine va_get (D := D) (ci := 6) (v := .ref a_text) (C := RX7) (T := TX7) (N := 4) hx hb hts u_X7 hown hK hP 0 rfl rfl 0 (by decide) k_f2 (fun _ h9 => h9) rfl dX7_step_15 ?_
        refine lv_aload_n hx hb dX7_step_18 rfl (lv_at hl 0 rfl) ?_
        refine va_get (D := D) (ci := 6) (v := .int x0_o_next) (C := RX7) (T := TX7) (N := 4) hx hb hts u_X7 hown hK hP 0 rfl rfl 1 (by decide) k_f0 (fun _ h9 => h9) rfl dX7_step_19 ?_
        obtain ⟨z_22, hc_22, h⟩ := bd_e h
        refine q_iV (As := [.int x0_o_next]) (rest := []) (wF := [(a_o, .inr (6, [.ref a_text, .int x0_o_next, .int o_place, .int o_kind])), (a_text, .inr (5, [.ref a_text_bytes, .int text_size])), (a_text_bytes, .inl (cI, 200, .inl f_text_bytes))]) hF hA hZ hK hP hD hS (c_X6_byteAt l D cI cB cZ a_text text_size a_text_bytes f_text_bytes x0_o_next z_22 hc_22) rfl gX7_step_X6_byteAt hdX6_byteAt ⟨rfl, rfl⟩ (Nat.le_of_ble_eq_true rfl) (Nat.le_of_ble_eq_true rfl) 5 0 rfl rfl [2, 1] [0] rfl rfl rfl rfl (by decide) rfl hl.1 rfl (Nat.le_of_ble_eq_true rfl) (Nat.zero_le _) (Nat.zero_le _) dX7_step_22 (fun H locs hP hD hS => ?_)
        refine lv_bipush (v := 32) hx hb dX7_step_25 bc_32 ?_
        refine lv_icmp_ne (tgt := 43) hx hb dX7_step_27 (by decide) (fun c_27 => ?_) (fun c_27 => ?_)
        · replace h := if_e c_27 h
          exact Jk43 x0_o_next H locs ls h hP hD hS hl
        · replace h := it_e c_27 h
          refine lv_aload_n hx hb dX7_step_30 rfl (lv_at hl 0 rfl) ?_
          refine lv_dup hx hb dX7_step_31 rfl ?_
          refine va_get (D := D) (ci := 6) (v := .int x0_o_next) (C := RX7) (T := TX7) (N := 4) hx hb hts u_X7 hown hK hP 0 rfl rfl 1 (by decide) k_f0 (fun _ h9 => h9) rfl dX7_step_32 ?_
          refine lv_iconst (v := 1) hx hb dX7_step_35 ic_1 ?_
          refine lv_iadd hx hb dX7_step_36 ?_
          refine va_put (D := D) (ci := 6) (v := .int (x0_o_next + 1)) (ty := .int) (C := RX7) (T := TX7) (N := 4) hx hb hts u_X7 tyX7 tyX7_ok nmX7 hown hK hP hD hS 0 rfl rfl 1 (by decide) k_f0 (fun _ h9 => h9) rfl (tyX7_ok 1 (by decide)) rfl rfl (Nat.le_of_ble_eq_true rfl) dX7_step_37 (fun H locs hP hD hS => ?_)
          have hP : va_P D vwCl [(a_o, .inr (6, [.ref a_text, .int (x0_o_next + 1), .int o_place, .int o_kind])), (a_text, .inr (5, [.ref a_text_bytes, .int text_size])), (a_text_bytes, .inl (cI, 200, .inl f_text_bytes))] H := hP
          have hD : va_D A [(a_o, .inr (6, [.ref a_text, .int (x0_o_next + 1), .int o_place, .int o_kind])), (a_text, .inr (5, [.ref a_text_bytes, .int text_size])), (a_text_bytes, .inl (cI, 200, .inl f_text_bytes))] := hD
          refine lv_goto (tgt := 0) hx hb dX7_step_40 (by decide) ?_
          exact ih0 (x0_o_next + 1) H locs ls h hP hD hS hl
  exact L0 QF o_next H locs ls h hP hD hS hl
abbrev rmX7_is : Room := { frames := 0, cells := 0, slots := 0, locals := 0 }
theorem hdX7_is : yX7_is.cls = RX7 ∧ yX7_is.cls ≠ "java/lang/invoke/MethodHandle" ∧ yX7_is.cls ≠ "java/lang/invoke/VarHandle" ∧ (parseMethodDescriptor yX7_is.desc).map (fun d => d.parameters.length) = some 1 := by decide +kernel
set_option maxRecDepth 100000 in
set_option maxHeartbeats 4000000 in
theorem c_X7_is (l : Launch) (D : va_G) (cI cB cZ : ClassId) (a_o : Nat) (w_o_text : Value) (o_next : Int32) (o_place : Int32) (o_kind : Int32) (p1 : Int32) (z : Int32) (h : P_X7_is p1 o_kind = some z) : KI l yX7_is wsX7_is rmX7_is D [(cI, .int), (cB, .byte), (cZ, .boolean)] [.ref a_o, .int p1] [(a_o, .inr (6, [w_o_text, .int o_next, .int o_place, .int o_kind]))] [(a_o, .inr (6, [w_o_text, .int o_next, .int o_place, .int o_kind]))] z := by
  refine KI_of (own := RX7) (cc := cX7_is) (maxL := 2) (ret := some .boolean) (by decide) rfl rfl (Nat.le_of_ble_eq_true rfl) (Or.inr rfl) ?_
  intro p e s m args below meth c A Q hx hb hml hown hts hA hZ hK hret H locs ls hP hD hS hl
  have hl : lv_has ls 2 [(0, .ref a_o), (1, .int p1)] := hl
  have hF : CallFix p m c cX7_is 2 s args wsX7_is RX7 := ⟨hx, hb, hml, hown, hts⟩
  have u_X7 : ∀ w ∈ u_ws RX7 TX7 4, w ∈ wsX7_is := by decide +kernel
  have k_f0 := hts (.fieldLink RX7 16 "NoWordNo$Tokens" "kind" "I") (by decide +kernel)
  unfold P_X7_is at h
  refine lv_aload_n hx hb dX7_is_0 rfl (lv_at hl 0 rfl) ?_
  refine va_get (D := D) (ci := 6) (v := .int o_kind) (C := RX7) (T := TX7) (N := 4) hx hb hts u_X7 hown hK hP 0 rfl rfl 3 (by decide) k_f0 (fun _ h9 => h9) rfl dX7_is_1 ?_
  refine lv_iload_n hx hb dX7_is_4 rfl (lv_at hl 1 rfl) ?_
  refine lv_icmp_ne (tgt := 12) hx hb dX7_is_5 (by decide) (fun c_5 => ?_) (fun c_5 => ?_)
  · replace h := if_e c_5 h
    refine lv_iconst (v := 0) hx hb dX7_is_12 ic_0 ?_
    have hz := Option.some.inj h
    subst hz
    exact hret H locs 13 ls (fun ty h => by cases h; exact nar_0) hP hD hS dX7_is_13
  · replace h := it_e c_5 h
    refine lv_iconst (v := 1) hx hb dX7_is_8 ic_1 ?_
    refine lv_goto (tgt := 13) hx hb dX7_is_9 (by decide) ?_
    have hz := Option.some.inj h
    subst hz
    exact hret H locs 13 ls (fun ty h => by cases h; exact nar_1) hP hD hS dX7_is_13
abbrev rmX7_isChoice : Room := { frames := 5, cells := 0, slots := 0, locals := 106 }
theorem hdX7_isChoice : yX7_isChoice.cls = RX7 ∧ yX7_isChoice.cls ≠ "java/lang/invoke/MethodHandle" ∧ yX7_isChoice.cls ≠ "java/lang/invoke/VarHandle" ∧ (parseMethodDescriptor yX7_isChoice.desc).map (fun d => d.parameters.length) = some 0 := by decide +kernel
set_option maxRecDepth 100000 in
set_option maxHeartbeats 4000000 in
theorem c_X7_isChoice (l : Launch) (D : va_G) (cI cB cZ : ClassId) (a_o : Nat) (o_next : Int32) (o_place : Int32) (o_kind : Int32) (a_text : Nat) (text_size : Int32) (a_text_bytes : Nat) (f_text_bytes : Nat → Int32) (z : Int32) (h : P_X7_isChoice o_next o_place o_kind text_size f_text_bytes = some z) : KI l yX7_isChoice wsX7_isChoice rmX7_isChoice D [(cI, .int), (cB, .byte), (cZ, .boolean)] [.ref a_o] [(a_o, .inr (6, [.ref a_text, .int o_next, .int o_place, .int o_kind])), (a_text, .inr (5, [.ref a_text_bytes, .int text_size])), (a_text_bytes, .inl (cI, 200, .inl f_text_bytes))] [(a_o, .inr (6, [.ref a_text, .int o_next, .int o_place, .int o_kind])), (a_text, .inr (5, [.ref a_text_bytes, .int text_size])), (a_text_bytes, .inl (cI, 200, .inl f_text_bytes))] z := by
  refine KI_of (own := RX7) (cc := cX7_isChoice) (maxL := 2) (ret := some .boolean) (by decide) rfl rfl (Nat.le_of_ble_eq_true rfl) (Or.inr rfl) ?_
  intro p e s m args below meth c A Q hx hb hml hown hts hA hZ hK hret H locs ls hP hD hS hl
  have hl : lv_has ls 2 [(0, .ref a_o)] := hl
  have hF : CallFix p m c cX7_isChoice 2 s args wsX7_isChoice RX7 := ⟨hx, hb, hml, hown, hts⟩
  obtain ⟨b9, v9, hY, hY2⟩ := QS.of hZ
  have u_X7 : ∀ w ∈ u_ws RX7 TX7 4, w ∈ wsX7_isChoice := by decide +kernel
  have k_f0 := hts (.fieldLink RX7 16 "NoWordNo$Tokens" "kind" "I") (by decide +kernel)
  have k_f1 := hts (.fieldLink RX7 7 "NoWordNo$Tokens" "next" "I") (by decide +kernel)
  have k_f2 := hts (.fieldLink RX7 13 "NoWordNo$Tokens" "place" "I") (by decide +kernel)
  have k_f3 := hts (.fieldLink RX7 19 "NoWordNo$Tokens" "text" "LNoWordNo$Text;") (by decide +kernel)
  unfold P_X7_isChoice at h
  refine lv_aload_n hx hb dX7_isChoice_0 rfl (lv_at hl 0 rfl) ?_
  refine va_get (D := D) (ci := 6) (v := .int o_kind) (C := RX7) (T := TX7) (N := 4) hx hb hts u_X7 hown hK hP 0 rfl rfl 3 (by decide) k_f0 (fun _ h9 => h9) rfl dX7_isChoice_1 ?_
  refine lv_iconst (v := 2) hx hb dX7_isChoice_4 ic_2 ?_
  refine lv_icmp_ne (tgt := 25) hx hb dX7_isChoice_5 (by decide) (fun c_5 => ?_) (fun c_5 => ?_)
  · replace h := if_e c_5 h
    refine lv_iconst (v := 0) hx hb dX7_isChoice_25 ic_0 ?_
    have hz := Option.some.inj h
    subst hz
    exact hret H locs 26 ls (fun ty h => by cases h; exact nar_0) hP hD hS dX7_isChoice_26
  · replace h := it_e c_5 h
    refine lv_aload_n hx hb dX7_isChoice_8 rfl (lv_at hl 0 rfl) ?_
    refine va_get (D := D) (ci := 6) (v := .int o_next) (C := RX7) (T := TX7) (N := 4) hx hb hts u_X7 hown hK hP 0 rfl rfl 1 (by decide) k_f1 (fun _ h9 => h9) rfl dX7_isChoice_9 ?_
    refine lv_aload_n hx hb dX7_isChoice_12 rfl (lv_at hl 0 rfl) ?_
    refine va_get (D := D) (ci := 6) (v := .int o_place) (C := RX7) (T := TX7) (N := 4) hx hb hts u_X7 hown hK hP 0 rfl rfl 2 (by decide) k_f2 (fun _ h9 => h9) rfl dX7_isChoice_13 ?_
    refine lv_isub hx hb dX7_isChoice_16 ?_
    refine va_ldcS hx hb hown hY2 dX7_isChoice_17 ?_
    refine s_iV (As := []) (rest := [.int (o_next - o_place)]) hF hA hY hS (c_J0_length l b9 v9) rfl gX7_isChoice_J0_length_8abf5 hdJ0_length rfl ⟨rfl, rfl⟩ (Nat.le_of_ble_eq_true rfl) (Nat.le_of_ble_eq_true rfl) hl.1 rfl (Nat.le_of_ble_eq_true rfl) (Nat.zero_le _) (Nat.zero_le _) dX7_isChoice_19 (fun H locs hk9 hS => ?_)
    have hP := q_keep hP hk9
    refine lv_icmp_eq (tgt := 27) hx hb dX7_isChoice_22 (by decide) (fun c_22 => ?_) (fun c_22 => ?_)
    · replace h := it_e c_22 h
      refine lv_iconst (v := 0) hx hb dX7_isChoice_27 ic_0 ?_
      refine lv_istore_n (lv' := [(1, .int 0), (0, .ref a_o)]) hx hb dX7_isChoice_28 rfl hl (by decide) rfl (fun ls hl => ?_)
      have L29 : ∀ (n : Nat), ∀ (x29_l1 : Int32) (H : Heap) (locs : List Loc) (ls : Array Slot), P_X7_isChoice_29 o_place text_size f_text_bytes n x29_l1 = some z → va_P D vwCl [(a_o, .inr (6, [.ref a_text, .int o_next, .int o_place, .int o_kind])), (a_text, .inr (5, [.ref a_text_bytes, .int text_size])), (a_text_bytes, .inl (cI, 200, .inl f_text_bytes))] H → va_D A [(a_o, .inr (6, [.ref a_text, .int o_next, .int o_place, .int o_kind])), (a_text, .inr (5, [.ref a_text_bytes, .int text_size])), (a_text_bytes, .inl (cI, 200, .inl f_text_bytes))] → va_S A s.heap H locs → lv_has ls 2 [(0, .ref a_o), (1, .int x29_l1)] → W p l e rmX7_isChoice s m args below meth c H locs 0 0 Q (F0 m 29 ls []) := by
        intro n
        induction n with
        | zero =>
          intro x29_l1 H locs ls h
          exact no_e h
        | succ n ih29 =>
          intro x29_l1 H locs ls h hP hD hS hl
          rw [P_X7_isChoice_29] at h
          refine lv_iload_n hx hb dX7_isChoice_29 rfl (lv_at hl 1 rfl) ?_
          refine va_ldcS hx hb hown hY2 dX7_isChoice_30 ?_
          refine s_iV (As := []) (rest := [.int x29_l1]) hF hA hY hS (c_J0_length l b9 v9) rfl gX7_isChoice_J0_length_8abf5 hdJ0_length rfl ⟨rfl, rfl⟩ (Nat.le_of_ble_eq_true rfl) (Nat.le_of_ble_eq_true rfl) hl.1 rfl (Nat.le_of_ble_eq_true rfl) (Nat.zero_le _) (Nat.zero_le _) dX7_isChoice_32 (fun H locs hk9 hS => ?_)
          have hP := q_keep hP hk9
          refine lv_icmp_ge (tgt := 68) hx hb dX7_isChoice_35 (by decide) (fun c_35 => ?_) (fun c_35 => ?_)
          · replace h := it_e c_35 h
            refine lv_iconst (v := 1) hx hb dX7_isChoice_68 ic_1 ?_
            have hz := Option.some.inj h
            subst hz
            exact hret H locs 69 ls (fun ty h => by cases h; exact nar_1) hP hD hS dX7_isChoice_69
          · replace h := if_e c_35 h
            refine lv_aload_n hx hb dX7_isChoice_38 rfl (lv_at hl 0 rfl) ?_
            refine va_get (D := D) (ci := 6) (v := .ref a_text) (C := RX7) (T := TX7) (N := 4) hx hb hts u_X7 hown hK hP 0 rfl rfl 0 (by decide) k_f3 (fun _ h9 => h9) rfl dX7_isChoice_39 ?_
            refine lv_aload_n hx hb dX7_isChoice_42 rfl (lv_at hl 0 rfl) ?_
            refine va_get (D := D) (ci := 6) (v := .int o_place) (C := RX7) (T := TX7) (N := 4) hx hb hts u_X7 hown hK hP 0 rfl rfl 2 (by decide) k_f2 (fun _ h9 => h9) rfl dX7_isChoice_43 ?_
            refine lv_iload_n hx hb dX7_isChoice_46 rfl (lv_at hl 1 rfl) ?_
            refine lv_iadd hx hb dX7_isChoice_47 ?_
            obtain ⟨z_48, hc_48, h⟩ := bd_e h
            refine q_iV (As := [.int (o_place + x29_l1)]) (rest := []) (wF := [(a_o, .inr (6, [.ref a_text, .int o_next, .int o_place, .int o_kind])), (a_text, .inr (5, [.ref a_text_bytes, .int text_size])), (a_text_bytes, .inl (cI, 200, .inl f_text_bytes))]) hF hA hZ hK hP hD hS (c_X6_byteAt l D cI cB cZ a_text text_size a_text_bytes f_text_bytes (o_place + x29_l1) z_48 hc_48) rfl gX7_isChoice_X6_byteAt hdX6_byteAt ⟨rfl, rfl⟩ (Nat.le_of_ble_eq_true rfl) (Nat.le_of_ble_eq_true rfl) 5 0 rfl rfl [1, 2] [0] rfl rfl rfl rfl (by decide) rfl hl.1 rfl (Nat.le_of_ble_eq_true rfl) (Nat.zero_le _) (Nat.zero_le _) dX7_isChoice_48 (fun H locs hP hD hS => ?_)
            refine va_ldcS hx hb hown hY2 dX7_isChoice_51 ?_
            refine lv_iload_n hx hb dX7_isChoice_53 rfl (lv_at hl 1 rfl) ?_
            obtain ⟨hi_54, h⟩ := ck_e h
            refine s_iV (As := [.int x29_l1]) (rest := [.int z_48]) hF hA hY hS (c_J0_charAt l b9 v9 x29_l1 hi_54) rfl gX7_isChoice_J0_charAt_5068e hdJ0_charAt rfl ⟨rfl, rfl⟩ (Nat.le_of_ble_eq_true rfl) (Nat.le_of_ble_eq_true rfl) hl.1 rfl (Nat.le_of_ble_eq_true rfl) (Nat.zero_le _) (Nat.zero_le _) dX7_isChoice_54 (fun H locs hk9 hS => ?_)
            have hP := q_keep hP hk9
            refine lv_icmp_eq (tgt := 62) hx hb dX7_isChoice_57 (by decide) (fun c_57 => ?_) (fun c_57 => ?_)
            · replace h := it_e c_57 h
              refine lv_iinc (v := x29_l1 + 1) (lv' := [(1, .int (x29_l1 + 1)), (0, .ref a_o)]) hx hb dX7_isChoice_62 hl (k := 1) rfl (congrArg (x29_l1 + ·) ic_1) (by decide) rfl (fun ls hl => ?_)
              refine lv_goto (tgt := 29) hx hb dX7_isChoice_65 (by decide) ?_
              exact ih29 (x29_l1 + 1) H locs ls h hP hD hS (lv_sub hl [1, 0] rfl)
            · replace h := if_e c_57 h
              refine lv_iconst (v := 0) hx hb dX7_isChoice_60 ic_0 ?_
              have hz := Option.some.inj h
              subst hz
              exact hret H locs 61 ls (fun ty h => by cases h; exact nar_0) hP hD hS dX7_isChoice_61
      exact L29 QF 0 H locs ls h hP hD hS (lv_sub hl [1, 0] rfl)
    · replace h := if_e c_22 h
      refine lv_iconst (v := 0) hx hb dX7_isChoice_25 ic_0 ?_
      have hz := Option.some.inj h
      subst hz
      exact hret H locs 26 ls (fun ty h => by cases h; exact nar_0) hP hD hS dX7_isChoice_26
abbrev rmX7_place : Room := { frames := 0, cells := 0, slots := 0, locals := 0 }
theorem hdX7_place : yX7_place.cls = RX7 ∧ yX7_place.cls ≠ "java/lang/invoke/MethodHandle" ∧ yX7_place.cls ≠ "java/lang/invoke/VarHandle" ∧ (parseMethodDescriptor yX7_place.desc).map (fun d => d.parameters.length) = some 0 := by decide +kernel
set_option maxRecDepth 100000 in
set_option maxHeartbeats 4000000 in
theorem c_X7_place (l : Launch) (D : va_G) (cI cB cZ : ClassId) (a_o : Nat) (w_o_text : Value) (o_next : Int32) (o_place : Int32) (o_kind : Int32) (z : Int32) (h : P_X7_place o_place = some z) : KI l yX7_place wsX7_place rmX7_place D [(cI, .int), (cB, .byte), (cZ, .boolean)] [.ref a_o] [(a_o, .inr (6, [w_o_text, .int o_next, .int o_place, .int o_kind]))] [(a_o, .inr (6, [w_o_text, .int o_next, .int o_place, .int o_kind]))] z := by
  refine KI_of (own := RX7) (cc := cX7_place) (maxL := 1) (ret := some .int) (by decide) rfl rfl (Nat.le_of_ble_eq_true rfl) (Or.inl rfl) ?_
  intro p e s m args below meth c A Q hx hb hml hown hts hA hZ hK hret H locs ls hP hD hS hl
  have hl : lv_has ls 1 [(0, .ref a_o)] := hl
  have hF : CallFix p m c cX7_place 1 s args wsX7_place RX7 := ⟨hx, hb, hml, hown, hts⟩
  have u_X7 : ∀ w ∈ u_ws RX7 TX7 4, w ∈ wsX7_place := by decide +kernel
  have k_f0 := hts (.fieldLink RX7 13 "NoWordNo$Tokens" "place" "I") (by decide +kernel)
  unfold P_X7_place at h
  refine lv_aload_n hx hb dX7_place_0 rfl (lv_at hl 0 rfl) ?_
  refine va_get (D := D) (ci := 6) (v := .int o_place) (C := RX7) (T := TX7) (N := 4) hx hb hts u_X7 hown hK hP 0 rfl rfl 2 (by decide) k_f0 (fun _ h9 => h9) rfl dX7_place_1 ?_
  have hz := Option.some.inj h
  subst hz
  exact hret H locs 4 ls (fun ty h => by cases h; rfl) hP hD hS dX7_place_4
abbrev rmX7_number : Room := { frames := 2, cells := 0, slots := 0, locals := 42 }
theorem hdX7_number : yX7_number.cls = RX7 ∧ yX7_number.cls ≠ "java/lang/invoke/MethodHandle" ∧ yX7_number.cls ≠ "java/lang/invoke/VarHandle" ∧ (parseMethodDescriptor yX7_number.desc).map (fun d => d.parameters.length) = some 0 := by decide +kernel
set_option maxRecDepth 100000 in
set_option maxHeartbeats 4000000 in
theorem c_X7_number (l : Launch) (D : va_G) (cI cB cZ : ClassId) (a_o : Nat) (o_next : Int32) (o_place : Int32) (o_kind : Int32) (a_text : Nat) (text_size : Int32) (a_text_bytes : Nat) (f_text_bytes : Nat → Int32) (z : Int32) (h : P_X7_number o_next o_place o_kind text_size f_text_bytes = some z) : KI l yX7_number wsX7_number rmX7_number D [(cI, .int), (cB, .byte), (cZ, .boolean)] [.ref a_o] [(a_o, .inr (6, [.ref a_text, .int o_next, .int o_place, .int o_kind])), (a_text, .inr (5, [.ref a_text_bytes, .int text_size])), (a_text_bytes, .inl (cI, 200, .inl f_text_bytes))] [(a_o, .inr (6, [.ref a_text, .int o_next, .int o_place, .int o_kind])), (a_text, .inr (5, [.ref a_text_bytes, .int text_size])), (a_text_bytes, .inl (cI, 200, .inl f_text_bytes))] z := by
  refine KI_of (own := RX7) (cc := cX7_number) (maxL := 4) (ret := some .int) (by decide) rfl rfl (Nat.le_of_ble_eq_true rfl) (Or.inl rfl) ?_
  intro p e s m args below meth c A Q hx hb hml hown hts hA hZ hK hret H locs ls hP hD hS hl
  have hl : lv_has ls 4 [(0, .ref a_o)] := hl
  have hF : CallFix p m c cX7_number 4 s args wsX7_number RX7 := ⟨hx, hb, hml, hown, hts⟩
  have u_X7 : ∀ w ∈ u_ws RX7 TX7 4, w ∈ wsX7_number := by decide +kernel
  have k_f0 := hts (.fieldLink RX7 7 "NoWordNo$Tokens" "next" "I") (by decide +kernel)
  have k_f1 := hts (.fieldLink RX7 13 "NoWordNo$Tokens" "place" "I") (by decide +kernel)
  have k_f2 := hts (.fieldLink RX7 16 "NoWordNo$Tokens" "kind" "I") (by decide +kernel)
  have k_f3 := hts (.fieldLink RX7 19 "NoWordNo$Tokens" "text" "LNoWordNo$Text;") (by decide +kernel)
  unfold P_X7_number at h
  refine lv_aload_n hx hb dX7_number_0 rfl (lv_at hl 0 rfl) ?_
  refine va_get (D := D) (ci := 6) (v := .int o_next) (C := RX7) (T := TX7) (N := 4) hx hb hts u_X7 hown hK hP 0 rfl rfl 1 (by decide) k_f0 (fun _ h9 => h9) rfl dX7_number_1 ?_
  refine lv_aload_n hx hb dX7_number_4 rfl (lv_at hl 0 rfl) ?_
  refine va_get (D := D) (ci := 6) (v := .int o_place) (C := RX7) (T := TX7) (N := 4) hx hb hts u_X7 hown hK hP 0 rfl rfl 2 (by decide) k_f1 (fun _ h9 => h9) rfl dX7_number_5 ?_
  refine lv_isub hx hb dX7_number_8 ?_
  refine lv_istore_n (lv' := [(1, .int (o_next - o_place)), (0, .ref a_o)]) hx hb dX7_number_9 rfl hl (by decide) rfl (fun ls hl => ?_)
  refine lv_aload_n hx hb dX7_number_10 rfl (lv_at hl 1 rfl) ?_
  refine va_get (D := D) (ci := 6) (v := .int o_kind) (C := RX7) (T := TX7) (N := 4) hx hb hts u_X7 hown hK hP 0 rfl rfl 3 (by decide) k_f2 (fun _ h9 => h9) rfl dX7_number_11 ?_
  refine lv_iconst (v := 3) hx hb dX7_number_14 ic_3 ?_
  refine lv_icmp_ne (tgt := 39) hx hb dX7_number_15 (by decide) (fun c_15 => ?_) (fun c_15 => ?_)
  · replace h := if_e c_15 h
    refine lv_iconst (v := (-1)) hx hb dX7_number_39 ic_m1 ?_
    have hz := Option.some.inj h
    subst hz
    exact hret H locs 40 ls (fun ty h => by cases h; rfl) hP hD hS dX7_number_40
  · replace h := it_e c_15 h
    refine lv_iload_n hx hb dX7_number_18 rfl (lv_at hl 0 rfl) ?_
    refine lv_iconst (v := 1) hx hb dX7_number_19 ic_1 ?_
    obtain ⟨j41, hj41, h⟩ := jn_e h
    have Jj41 : ∀ (H : Heap) (locs : List Loc) (ls : Array Slot), j41 () = some z → va_P D vwCl [(a_o, .inr (6, [.ref a_text, .int o_next, .int o_place, .int o_kind])), (a_text, .inr (5, [.ref a_text_bytes, .int text_size])), (a_text_bytes, .inl (cI, 200, .inl f_text_bytes))] H → va_D A [(a_o, .inr (6, [.ref a_text, .int o_next, .int o_place, .int o_kind])), (a_text, .inr (5, [.ref a_text_bytes, .int text_size])), (a_text_bytes, .inl (cI, 200, .inl f_text_bytes))] → va_S A s.heap H locs → lv_has ls 4 [(0, .ref a_o)] → W p l e rmX7_number s m args below meth c H locs 0 0 Q (F0 m 41 ls []) := by
      intro H locs ls h hP hD hS hl
      rw [hj41] at h
      refine lv_iconst (v := 0) hx hb dX7_number_41 ic_0 ?_
      refine lv_istore_n (lv' := [(2, .int 0), (0, .ref a_o)]) hx hb dX7_number_42 rfl hl (by decide) rfl (fun ls hl => ?_)
      refine lv_aload_n hx hb dX7_number_43 rfl (lv_at hl 1 rfl) ?_
      refine va_get (D := D) (ci := 6) (v := .int o_place) (C := RX7) (T := TX7) (N := 4) hx hb hts u_X7 hown hK hP 0 rfl rfl 2 (by decide) k_f1 (fun _ h9 => h9) rfl dX7_number_44 ?_
      refine lv_istore_n (lv' := [(3, .int o_place), (2, .int 0), (0, .ref a_o)]) hx hb dX7_number_47 rfl hl (by decide) rfl (fun ls hl => ?_)
      obtain ⟨k85, hk85, h⟩ := jn_e h
      have Jk85 : ∀ (x85_l2 : Int32) (H : Heap) (locs : List Loc) (ls : Array Slot), k85 x85_l2 = some z → va_P D vwCl [(a_o, .inr (6, [.ref a_text, .int o_next, .int o_place, .int o_kind])), (a_text, .inr (5, [.ref a_text_bytes, .int text_size])), (a_text_bytes, .inl (cI, 200, .inl f_text_bytes))] H → va_D A [(a_o, .inr (6, [.ref a_text, .int o_next, .int o_place, .int o_kind])), (a_text, .inr (5, [.ref a_text_bytes, .int text_size])), (a_text_bytes, .inl (cI, 200, .inl f_text_bytes))] → va_S A s.heap H locs → lv_has ls 4 [(2, .int x85_l2)] → W p l e rmX7_number s m args below meth c H locs 0 0 Q (F0 m 85 ls []) := by
        intro x85_l2 H locs ls h hP hD hS hl
        rw [hk85] at h
        refine lv_iload_n hx hb dX7_number_85 rfl (lv_at hl 0 rfl) ?_
        refine lv_bipush (v := 99) hx hb dX7_number_86 bc_99 ?_
        refine lv_icmp_gt (tgt := 95) hx hb dX7_number_88 (by decide) (fun c_88 => ?_) (fun c_88 => ?_)
        · replace h := it_e c_88 h
          refine lv_iconst (v := (-1)) hx hb dX7_number_95 ic_m1 ?_
          have hz := Option.some.inj h
          subst hz
          exact hret H locs 96 ls (fun ty h => by cases h; rfl) hP hD hS dX7_number_96
        · replace h := if_e c_88 h
          refine lv_iload_n hx hb dX7_number_91 rfl (lv_at hl 0 rfl) ?_
          refine lv_goto (tgt := 96) hx hb dX7_number_92 (by decide) ?_
          have hz := Option.some.inj h
          subst hz
          exact hret H locs 96 ls (fun ty h => by cases h; rfl) hP hD hS dX7_number_96
      have L48 : ∀ (n : Nat), ∀ (x48_l2 : Int32) (x48_l3 : Int32) (H : Heap) (locs : List Loc) (ls : Array Slot), P_X7_number_48 o_next text_size f_text_bytes k85 n x48_l2 x48_l3 = some z → va_P D vwCl [(a_o, .inr (6, [.ref a_text, .int o_next, .int o_place, .int o_kind])), (a_text, .inr (5, [.ref a_text_bytes, .int text_size])), (a_text_bytes, .inl (cI, 200, .inl f_text_bytes))] H → va_D A [(a_o, .inr (6, [.ref a_text, .int o_next, .int o_place, .int o_kind])), (a_text, .inr (5, [.ref a_text_bytes, .int text_size])), (a_text_bytes, .inl (cI, 200, .inl f_text_bytes))] → va_S A s.heap H locs → lv_has ls 4 [(0, .ref a_o), (2, .int x48_l2), (3, .int x48_l3)] → W p l e rmX7_number s m args below meth c H locs 0 0 Q (F0 m 48 ls []) := by
        intro n
        induction n with
        | zero =>
          intro x48_l2 x48_l3 H locs ls h
          exact no_e h
        | succ n ih48 =>
          intro x48_l2 x48_l3 H locs ls h hP hD hS hl
          rw [P_X7_number_48] at h
          refine lv_iload_n hx hb dX7_number_48 rfl (lv_at hl 2 rfl) ?_
          refine lv_aload_n hx hb dX7_number_49 rfl (lv_at hl 0 rfl) ?_
          refine va_get (D := D) (ci := 6) (v := .int o_next) (C := RX7) (T := TX7) (N := 4) hx hb hts u_X7 hown hK hP 0 rfl rfl 1 (by decide) k_f0 (fun _ h9 => h9) rfl dX7_number_50 ?_
          refine lv_icmp_ge (tgt := 85) hx hb dX7_number_53 (by decide) (fun c_53 => ?_) (fun c_53 => ?_)
          · replace h := it_e c_53 h
            exact Jk85 x48_l2 H locs ls h hP hD hS (lv_sub hl [1] rfl)
          · replace h := if_e c_53 h
            refine lv_iload_n hx hb dX7_number_56 rfl (lv_at hl 1 rfl) ?_
            refine lv_bipush (v := 99) hx hb dX7_number_57 bc_99 ?_
            refine lv_icmp_gt (tgt := 85) hx hb dX7_number_59 (by decide) (fun c_59 => ?_) (fun c_59 => ?_)
            · replace h := it_e c_59 h
              exact Jk85 x48_l2 H locs ls h hP hD hS (lv_sub hl [1] rfl)
            · replace h := if_e c_59 h
              refine lv_iload_n hx hb dX7_number_62 rfl (lv_at hl 1 rfl) ?_
              refine lv_bipush (v := 10) hx hb dX7_number_63 bc_10 ?_
              refine lv_imul hx hb dX7_number_65 ?_
              refine lv_aload_n hx hb dX7_number_66 rfl (lv_at hl 0 rfl) ?_
              refine va_get (D := D) (ci := 6) (v := .ref a_text) (C := RX7) (T := TX7) (N := 4) hx hb hts u_X7 hown hK hP 0 rfl rfl 0 (by decide) k_f3 (fun _ h9 => h9) rfl dX7_number_67 ?_
              refine lv_iload_n hx hb dX7_number_70 rfl (lv_at hl 2 rfl) ?_
              obtain ⟨z_71, hc_71, h⟩ := bd_e h
              refine q_iV (As := [.int x48_l3]) (rest := [.int (x48_l2 * 10)]) (wF := [(a_o, .inr (6, [.ref a_text, .int o_next, .int o_place, .int o_kind])), (a_text, .inr (5, [.ref a_text_bytes, .int text_size])), (a_text_bytes, .inl (cI, 200, .inl f_text_bytes))]) hF hA hZ hK hP hD hS (c_X6_byteAt l D cI cB cZ a_text text_size a_text_bytes f_text_bytes x48_l3 z_71 hc_71) rfl gX7_number_X6_byteAt hdX6_byteAt ⟨rfl, rfl⟩ (Nat.le_of_ble_eq_true rfl) (Nat.le_of_ble_eq_true rfl) 5 0 rfl rfl [1, 2] [0] rfl rfl rfl rfl (by decide) rfl hl.1 rfl (Nat.le_of_ble_eq_true rfl) (Nat.zero_le _) (Nat.zero_le _) dX7_number_71 (fun H locs hP hD hS => ?_)
              refine lv_iadd hx hb dX7_number_74 ?_
              refine lv_bipush (v := 48) hx hb dX7_number_75 bc_48 ?_
              refine lv_isub hx hb dX7_number_77 ?_
              refine lv_istore_n (lv' := [(2, .int (((x48_l2 * 10) + z_71) - 48)), (0, .ref a_o), (3, .int x48_l3)]) hx hb dX7_number_78 rfl hl (by decide) rfl (fun ls hl => ?_)
              refine lv_iinc (v := x48_l3 + 1) (lv' := [(3, .int (x48_l3 + 1)), (2, .int (((x48_l2 * 10) + z_71) - 48)), (0, .ref a_o)]) hx hb dX7_number_79 hl (k := 2) rfl (congrArg (x48_l3 + ·) ic_1) (by decide) rfl (fun ls hl => ?_)
              refine lv_goto (tgt := 48) hx hb dX7_number_82 (by decide) ?_
              exact ih48 (((x48_l2 * 10) + z_71) - 48) (x48_l3 + 1) H locs ls h hP hD hS (lv_sub hl [2, 1, 0] rfl)
      exact L48 QF 0 o_place H locs ls h hP hD hS (lv_sub hl [2, 1, 0] rfl)
    refine lv_icmp_le (tgt := 41) hx hb dX7_number_20 (by decide) (fun c_20 => ?_) (fun c_20 => ?_)
    · replace h := it_e c_20 h
      exact Jj41  H locs ls h hP hD hS (lv_sub hl [1] rfl)
    · replace h := if_e c_20 h
      refine lv_aload_n hx hb dX7_number_23 rfl (lv_at hl 1 rfl) ?_
      refine va_get (D := D) (ci := 6) (v := .ref a_text) (C := RX7) (T := TX7) (N := 4) hx hb hts u_X7 hown hK hP 0 rfl rfl 0 (by decide) k_f3 (fun _ h9 => h9) rfl dX7_number_24 ?_
      refine lv_aload_n hx hb dX7_number_27 rfl (lv_at hl 1 rfl) ?_
      refine va_get (D := D) (ci := 6) (v := .int o_place) (C := RX7) (T := TX7) (N := 4) hx hb hts u_X7 hown hK hP 0 rfl rfl 2 (by decide) k_f1 (fun _ h9 => h9) rfl dX7_number_28 ?_
      obtain ⟨z_31, hc_31, h⟩ := bd_e h
      refine q_iV (As := [.int o_place]) (rest := []) (wF := [(a_o, .inr (6, [.ref a_text, .int o_next, .int o_place, .int o_kind])), (a_text, .inr (5, [.ref a_text_bytes, .int text_size])), (a_text_bytes, .inl (cI, 200, .inl f_text_bytes))]) hF hA hZ hK hP hD hS (c_X6_byteAt l D cI cB cZ a_text text_size a_text_bytes f_text_bytes o_place z_31 hc_31) rfl gX7_number_X6_byteAt hdX6_byteAt ⟨rfl, rfl⟩ (Nat.le_of_ble_eq_true rfl) (Nat.le_of_ble_eq_true rfl) 5 0 rfl rfl [1, 2] [0] rfl rfl rfl rfl (by decide) rfl hl.1 rfl (Nat.le_of_ble_eq_true rfl) (Nat.zero_le _) (Nat.zero_le _) dX7_number_31 (fun H locs hP hD hS => ?_)
      refine lv_bipush (v := 48) hx hb dX7_number_34 bc_48 ?_
      refine lv_icmp_ne (tgt := 41) hx hb dX7_number_36 (by decide) (fun c_36 => ?_) (fun c_36 => ?_)
      · replace h := if_e c_36 h
        exact Jj41  H locs ls h hP hD hS (lv_sub hl [1] rfl)
      · replace h := it_e c_36 h
        refine lv_iconst (v := (-1)) hx hb dX7_number_39 ic_m1 ?_
        have hz := Option.some.inj h
        subst hz
        exact hret H locs 40 ls (fun ty h => by cases h; rfl) hP hD hS dX7_number_40
abbrev rmX2_faultOfTongue : Room := { frames := 6, cells := 0, slots := 0, locals := 127 }
theorem hdX2_faultOfTongue : yX2_faultOfTongue.cls = RX2 ∧ yX2_faultOfTongue.cls ≠ "java/lang/invoke/MethodHandle" ∧ yX2_faultOfTongue.cls ≠ "java/lang/invoke/VarHandle" ∧ (parseMethodDescriptor yX2_faultOfTongue.desc).map (fun d => d.parameters.length) = some 0 := by decide +kernel
set_option maxRecDepth 100000 in
set_option maxHeartbeats 4000000 in
theorem c_X2_faultOfTongue (l : Launch) (D : va_G) (cI cB cZ : ClassId) (a_o : Nat) (w_o_signs : Value) (o_choices : Int32) (w_o_termsLeft : Value) (w_o_factorsLeft : Value) (o_depth : Int32) (o_many : Int32) (o_factorDue : Int32) (a_tokens : Nat) (tokens_next : Int32) (tokens_place : Int32) (tokens_kind : Int32) (a_tokens_text : Nat) (tokens_text_size : Int32) (a_tokens_text_bytes : Nat) (f_tokens_text_bytes : Nat → Int32) (a_values : Nat) (f_values : Nat → Int32) (z : Int32 × Int32 × Int32 × Int32 × Int32 × (Nat → Int32)) (h : P_X2_faultOfTongue o_choices tokens_next tokens_place tokens_kind tokens_text_size f_tokens_text_bytes f_values = some z) : KI l yX2_faultOfTongue wsX2_faultOfTongue rmX2_faultOfTongue D [(cI, .int), (cB, .byte), (cZ, .boolean)] [.ref a_o] [(a_o, .inr (2, [.ref a_tokens, w_o_signs, .ref a_values, .int o_choices, w_o_termsLeft, w_o_factorsLeft, .int o_depth, .int o_many, .int o_factorDue])), (a_tokens, .inr (6, [.ref a_tokens_text, .int tokens_next, .int tokens_place, .int tokens_kind])), (a_tokens_text, .inr (5, [.ref a_tokens_text_bytes, .int tokens_text_size])), (a_tokens_text_bytes, .inl (cI, 200, .inl f_tokens_text_bytes)), (a_values, .inl (cI, 3, .inl f_values))] [(a_o, .inr (2, [.ref a_tokens, w_o_signs, .ref a_values, .int z.2.1, w_o_termsLeft, w_o_factorsLeft, .int o_depth, .int o_many, .int o_factorDue])), (a_tokens, .inr (6, [.ref a_tokens_text, .int z.2.2.1, .int z.2.2.2.1, .int z.2.2.2.2.1])), (a_tokens_text, .inr (5, [.ref a_tokens_text_bytes, .int tokens_text_size])), (a_tokens_text_bytes, .inl (cI, 200, .inl f_tokens_text_bytes)), (a_values, .inl (cI, 3, .inl z.2.2.2.2.2))] z.1 := by
  refine KI_of (own := RX2) (cc := cX2_faultOfTongue) (maxL := 4) (ret := some .int) (by decide) rfl rfl (Nat.le_of_ble_eq_true rfl) (Or.inl rfl) ?_
  intro p e s m args below meth c A Q hx hb hml hown hts hA hZ hK hret H locs ls hP hD hS hl
  have hl : lv_has ls 4 [(0, .ref a_o)] := hl
  have hF : CallFix p m c cX2_faultOfTongue 4 s args wsX2_faultOfTongue RX2 := ⟨hx, hb, hml, hown, hts⟩
  have u_X2 : ∀ w ∈ u_ws RX2 TX2 9, w ∈ wsX2_faultOfTongue := by decide +kernel
  have k_f0 := hts (.fieldLink RX2 15 "NoWordNo$Reader" "choices" "I") (by decide +kernel)
  have k_f1 := hts (.fieldLink RX2 40 "NoWordNo$Reader" "tokens" "LNoWordNo$Tokens;") (by decide +kernel)
  have k_f2 := hts (.fieldLink RX2 9 "NoWordNo$Reader" "values" "[I") (by decide +kernel)
  unfold P_X2_faultOfTongue at h
  refine lv_aload_n hx hb dX2_faultOfTongue_0 rfl (lv_at hl 0 rfl) ?_
  refine lv_iconst (v := 0) hx hb dX2_faultOfTongue_1 ic_0 ?_
  refine va_put (D := D) (ci := 2) (v := .int 0) (ty := .int) (C := RX2) (T := TX2) (N := 9) hx hb hts u_X2 tyX2 tyX2_ok nmX2 hown hK hP hD hS 0 rfl rfl 3 (by decide) k_f0 (fun _ h9 => h9) rfl (tyX2_ok 3 (by decide)) rfl rfl (Nat.le_of_ble_eq_true rfl) dX2_faultOfTongue_2 (fun H locs hP hD hS => ?_)
  have hP : va_P D vwCl [(a_o, .inr (2, [.ref a_tokens, w_o_signs, .ref a_values, .int 0, w_o_termsLeft, w_o_factorsLeft, .int o_depth, .int o_many, .int o_factorDue])), (a_tokens, .inr (6, [.ref a_tokens_text, .int tokens_next, .int tokens_place, .int tokens_kind])), (a_tokens_text, .inr (5, [.ref a_tokens_text_bytes, .int tokens_text_size])), (a_tokens_text_bytes, .inl (cI, 200, .inl f_tokens_text_bytes)), (a_values, .inl (cI, 3, .inl f_values))] H := hP
  have hD : va_D A [(a_o, .inr (2, [.ref a_tokens, w_o_signs, .ref a_values, .int 0, w_o_termsLeft, w_o_factorsLeft, .int o_depth, .int o_many, .int o_factorDue])), (a_tokens, .inr (6, [.ref a_tokens_text, .int tokens_next, .int tokens_place, .int tokens_kind])), (a_tokens_text, .inr (5, [.ref a_tokens_text_bytes, .int tokens_text_size])), (a_tokens_text_bytes, .inl (cI, 200, .inl f_tokens_text_bytes)), (a_values, .inl (cI, 3, .inl f_values))] := hD
  refine lv_iconst (v := 1) hx hb dX2_faultOfTongue_5 ic_1 ?_
  refine lv_istore_n (lv' := [(1, .int 1), (0, .ref a_o)]) hx hb dX2_faultOfTongue_6 rfl hl (by decide) rfl (fun ls hl => ?_)
  refine lv_aload_n hx hb dX2_faultOfTongue_7 rfl (lv_at hl 1 rfl) ?_
  refine va_get (D := D) (ci := 2) (v := .ref a_tokens) (C := RX2) (T := TX2) (N := 9) hx hb hts u_X2 hown hK hP 0 rfl rfl 0 (by decide) k_f1 (fun _ h9 => h9) rfl dX2_faultOfTongue_8 ?_
  obtain ⟨z_11, hc_11, h⟩ := bd_e h
  refine q_vV (As := []) (rest := []) (wF := [(a_o, .inr (2, [.ref a_tokens, w_o_signs, .ref a_values, .int 0, w_o_termsLeft, w_o_factorsLeft, .int o_depth, .int o_many, .int o_factorDue])), (a_tokens_text, .inr (5, [.ref a_tokens_text_bytes, .int tokens_text_size])), (a_tokens_text_bytes, .inl (cI, 200, .inl f_tokens_text_bytes)), (a_values, .inl (cI, 3, .inl f_values)), (a_tokens, .inr (6, [.ref a_tokens_text, .int z_11.1, .int z_11.2.1, .int z_11.2.2]))]) hF hA hZ hK hP hD hS (c_X7_begin l D cI cB cZ a_tokens (.ref a_tokens_text) tokens_next tokens_place tokens_kind z_11 hc_11) rfl gX2_faultOfTongue_X7_begin hdX7_begin ⟨rfl, rfl⟩ (Nat.le_of_ble_eq_true rfl) (Nat.le_of_ble_eq_true rfl) 6 0 rfl rfl [1] [0, 2, 3, 4] rfl rfl rfl rfl (by decide) rfl hl.1 rfl (Nat.le_of_ble_eq_true rfl) (Nat.zero_le _) (Nat.zero_le _) dX2_faultOfTongue_11 (fun H locs hP hD hS => ?_)
  refine lv_iconst (v := 0) hx hb dX2_faultOfTongue_14 ic_0 ?_
  refine lv_istore_n (lv' := [(2, .int 0), (1, .int 1), (0, .ref a_o)]) hx hb dX2_faultOfTongue_15 rfl hl (by decide) rfl (fun ls hl => ?_)
  obtain ⟨k168, hk168, h⟩ := jn_e h
  have Jk168 : ∀ (x168_o_choices : Int32) (x168_tokens_next : Int32) (x168_tokens_place : Int32) (x168_tokens_kind : Int32) (x168_f_values : (Nat → Int32)) (H : Heap) (locs : List Loc) (ls : Array Slot), k168 x168_o_choices x168_tokens_next x168_tokens_place x168_tokens_kind x168_f_values = some z → va_P D vwCl [(a_o, .inr (2, [.ref a_tokens, w_o_signs, .ref a_values, .int x168_o_choices, w_o_termsLeft, w_o_factorsLeft, .int o_depth, .int o_many, .int o_factorDue])), (a_tokens_text, .inr (5, [.ref a_tokens_text_bytes, .int tokens_text_size])), (a_tokens_text_bytes, .inl (cI, 200, .inl f_tokens_text_bytes)), (a_values, .inl (cI, 3, .inl x168_f_values)), (a_tokens, .inr (6, [.ref a_tokens_text, .int x168_tokens_next, .int x168_tokens_place, .int x168_tokens_kind]))] H → va_D A [(a_o, .inr (2, [.ref a_tokens, w_o_signs, .ref a_values, .int x168_o_choices, w_o_termsLeft, w_o_factorsLeft, .int o_depth, .int o_many, .int o_factorDue])), (a_tokens_text, .inr (5, [.ref a_tokens_text_bytes, .int tokens_text_size])), (a_tokens_text_bytes, .inl (cI, 200, .inl f_tokens_text_bytes)), (a_values, .inl (cI, 3, .inl x168_f_values)), (a_tokens, .inr (6, [.ref a_tokens_text, .int x168_tokens_next, .int x168_tokens_place, .int x168_tokens_kind]))] → va_S A s.heap H locs → lv_has ls 4 [(0, .ref a_o)] → W p l e rmX2_faultOfTongue s m args below meth c H locs 0 0 Q (F0 m 168 ls []) := by
    intro x168_o_choices x168_tokens_next x168_tokens_place x168_tokens_kind x168_f_values H locs ls h hP hD hS hl
    rw [hk168] at h
    refine lv_aload_n hx hb dX2_faultOfTongue_168 rfl (lv_at hl 0 rfl) ?_
    refine va_get (D := D) (ci := 2) (v := .ref a_tokens) (C := RX2) (T := TX2) (N := 9) hx hb hts u_X2 hown hK hP 0 rfl rfl 0 (by decide) k_f1 (fun _ h9 => h9) rfl dX2_faultOfTongue_169 ?_
    obtain ⟨z_172, hc_172, h⟩ := bd_e h
    refine q_iV (As := []) (rest := []) (wF := [(a_o, .inr (2, [.ref a_tokens, w_o_signs, .ref a_values, .int x168_o_choices, w_o_termsLeft, w_o_factorsLeft, .int o_depth, .int o_many, .int o_factorDue])), (a_tokens_text, .inr (5, [.ref a_tokens_text_bytes, .int tokens_text_size])), (a_tokens_text_bytes, .inl (cI, 200, .inl f_tokens_text_bytes)), (a_values, .inl (cI, 3, .inl x168_f_values)), (a_tokens, .inr (6, [.ref a_tokens_text, .int x168_tokens_next, .int x168_tokens_place, .int x168_tokens_kind]))]) hF hA hZ hK hP hD hS (c_X7_place l D cI cB cZ a_tokens (.ref a_tokens_text) x168_tokens_next x168_tokens_place x168_tokens_kind z_172 hc_172) rfl gX2_faultOfTongue_X7_place hdX7_place ⟨rfl, rfl⟩ (Nat.le_of_ble_eq_true rfl) (Nat.le_of_ble_eq_true rfl) 6 0 rfl rfl [4] [0, 1, 2, 3] rfl rfl rfl rfl (by decide) rfl hl.1 rfl (Nat.le_of_ble_eq_true rfl) (Nat.zero_le _) (Nat.zero_le _) dX2_faultOfTongue_172 (fun H locs hP hD hS => ?_)
    have hz := Option.some.inj h
    subst hz
    exact hret H locs 175 ls (fun ty h => by cases h; rfl) (hP.sub [0, 4, 1, 2, 3] rfl) (hD.sub [0, 4, 1, 2, 3] (by decide) rfl) hS dX2_faultOfTongue_175
  obtain ⟨k59, hk59, h⟩ := jn_e h
  have Jk59 : ∀ (x59_o_choices : Int32) (x59_tokens_next : Int32) (x59_tokens_place : Int32) (x59_tokens_kind : Int32) (x59_f_values : (Nat → Int32)) (H : Heap) (locs : List Loc) (ls : Array Slot), k59 x59_o_choices x59_tokens_next x59_tokens_place x59_tokens_kind x59_f_values = some z → va_P D vwCl [(a_o, .inr (2, [.ref a_tokens, w_o_signs, .ref a_values, .int x59_o_choices, w_o_termsLeft, w_o_factorsLeft, .int o_depth, .int o_many, .int o_factorDue])), (a_tokens_text, .inr (5, [.ref a_tokens_text_bytes, .int tokens_text_size])), (a_tokens_text_bytes, .inl (cI, 200, .inl f_tokens_text_bytes)), (a_values, .inl (cI, 3, .inl x59_f_values)), (a_tokens, .inr (6, [.ref a_tokens_text, .int x59_tokens_next, .int x59_tokens_place, .int x59_tokens_kind]))] H → va_D A [(a_o, .inr (2, [.ref a_tokens, w_o_signs, .ref a_values, .int x59_o_choices, w_o_termsLeft, w_o_factorsLeft, .int o_depth, .int o_many, .int o_factorDue])), (a_tokens_text, .inr (5, [.ref a_tokens_text_bytes, .int tokens_text_size])), (a_tokens_text_bytes, .inl (cI, 200, .inl f_tokens_text_bytes)), (a_values, .inl (cI, 3, .inl x59_f_values)), (a_tokens, .inr (6, [.ref a_tokens_text, .int x59_tokens_next, .int x59_tokens_place, .int x59_tokens_kind]))] → va_S A s.heap H locs → lv_has ls 4 [(0, .ref a_o)] → W p l e rmX2_faultOfTongue s m args below meth c H locs 0 0 Q (F0 m 59 ls []) := by
    intro x59_o_choices x59_tokens_next x59_tokens_place x59_tokens_kind x59_f_values H locs ls h hP hD hS hl
    rw [hk59] at h
    refine lv_aload_n hx hb dX2_faultOfTongue_59 rfl (lv_at hl 0 rfl) ?_
    refine va_get (D := D) (ci := 2) (v := .ref a_tokens) (C := RX2) (T := TX2) (N := 9) hx hb hts u_X2 hown hK hP 0 rfl rfl 0 (by decide) k_f1 (fun _ h9 => h9) rfl dX2_faultOfTongue_60 ?_
    obtain ⟨z_63, hc_63, h⟩ := bd_e h
    refine q_iV (As := []) (rest := []) (wF := [(a_o, .inr (2, [.ref a_tokens, w_o_signs, .ref a_values, .int x59_o_choices, w_o_termsLeft, w_o_factorsLeft, .int o_depth, .int o_many, .int o_factorDue])), (a_tokens_text, .inr (5, [.ref a_tokens_text_bytes, .int tokens_text_size])), (a_tokens_text_bytes, .inl (cI, 200, .inl f_tokens_text_bytes)), (a_values, .inl (cI, 3, .inl x59_f_values)), (a_tokens, .inr (6, [.ref a_tokens_text, .int x59_tokens_next, .int x59_tokens_place, .int x59_tokens_kind]))]) hF hA hZ hK hP hD hS (c_X7_place l D cI cB cZ a_tokens (.ref a_tokens_text) x59_tokens_next x59_tokens_place x59_tokens_kind z_63 hc_63) rfl gX2_faultOfTongue_X7_place hdX7_place ⟨rfl, rfl⟩ (Nat.le_of_ble_eq_true rfl) (Nat.le_of_ble_eq_true rfl) 6 0 rfl rfl [4] [0, 1, 2, 3] rfl rfl rfl rfl (by decide) rfl hl.1 rfl (Nat.le_of_ble_eq_true rfl) (Nat.zero_le _) (Nat.zero_le _) dX2_faultOfTongue_63 (fun H locs hP hD hS => ?_)
    have hz := Option.some.inj h
    subst hz
    exact hret H locs 66 ls (fun ty h => by cases h; rfl) (hP.sub [0, 4, 1, 2, 3] rfl) (hD.sub [0, 4, 1, 2, 3] (by decide) rfl) hS dX2_faultOfTongue_66
  obtain ⟨k101, hk101, h⟩ := jn_e h
  have Jk101 : ∀ (x101_o_choices : Int32) (x101_tokens_next : Int32) (x101_tokens_place : Int32) (x101_tokens_kind : Int32) (x101_f_values : (Nat → Int32)) (H : Heap) (locs : List Loc) (ls : Array Slot), k101 x101_o_choices x101_tokens_next x101_tokens_place x101_tokens_kind x101_f_values = some z → va_P D vwCl [(a_o, .inr (2, [.ref a_tokens, w_o_signs, .ref a_values, .int x101_o_choices, w_o_termsLeft, w_o_factorsLeft, .int o_depth, .int o_many, .int o_factorDue])), (a_tokens_text, .inr (5, [.ref a_tokens_text_bytes, .int tokens_text_size])), (a_tokens_text_bytes, .inl (cI, 200, .inl f_tokens_text_bytes)), (a_values, .inl (cI, 3, .inl x101_f_values)), (a_tokens, .inr (6, [.ref a_tokens_text, .int x101_tokens_next, .int x101_tokens_place, .int x101_tokens_kind]))] H → va_D A [(a_o, .inr (2, [.ref a_tokens, w_o_signs, .ref a_values, .int x101_o_choices, w_o_termsLeft, w_o_factorsLeft, .int o_depth, .int o_many, .int o_factorDue])), (a_tokens_text, .inr (5, [.ref a_tokens_text_bytes, .int tokens_text_size])), (a_tokens_text_bytes, .inl (cI, 200, .inl f_tokens_text_bytes)), (a_values, .inl (cI, 3, .inl x101_f_values)), (a_tokens, .inr (6, [.ref a_tokens_text, .int x101_tokens_next, .int x101_tokens_place, .int x101_tokens_kind]))] → va_S A s.heap H locs → lv_has ls 4 [(0, .ref a_o)] → W p l e rmX2_faultOfTongue s m args below meth c H locs 0 0 Q (F0 m 101 ls []) := by
    intro x101_o_choices x101_tokens_next x101_tokens_place x101_tokens_kind x101_f_values H locs ls h hP hD hS hl
    rw [hk101] at h
    refine lv_aload_n hx hb dX2_faultOfTongue_101 rfl (lv_at hl 0 rfl) ?_
    refine va_get (D := D) (ci := 2) (v := .ref a_tokens) (C := RX2) (T := TX2) (N := 9) hx hb hts u_X2 hown hK hP 0 rfl rfl 0 (by decide) k_f1 (fun _ h9 => h9) rfl dX2_faultOfTongue_102 ?_
    obtain ⟨z_105, hc_105, h⟩ := bd_e h
    refine q_iV (As := []) (rest := []) (wF := [(a_o, .inr (2, [.ref a_tokens, w_o_signs, .ref a_values, .int x101_o_choices, w_o_termsLeft, w_o_factorsLeft, .int o_depth, .int o_many, .int o_factorDue])), (a_tokens_text, .inr (5, [.ref a_tokens_text_bytes, .int tokens_text_size])), (a_tokens_text_bytes, .inl (cI, 200, .inl f_tokens_text_bytes)), (a_values, .inl (cI, 3, .inl x101_f_values)), (a_tokens, .inr (6, [.ref a_tokens_text, .int x101_tokens_next, .int x101_tokens_place, .int x101_tokens_kind]))]) hF hA hZ hK hP hD hS (c_X7_place l D cI cB cZ a_tokens (.ref a_tokens_text) x101_tokens_next x101_tokens_place x101_tokens_kind z_105 hc_105) rfl gX2_faultOfTongue_X7_place hdX7_place ⟨rfl, rfl⟩ (Nat.le_of_ble_eq_true rfl) (Nat.le_of_ble_eq_true rfl) 6 0 rfl rfl [4] [0, 1, 2, 3] rfl rfl rfl rfl (by decide) rfl hl.1 rfl (Nat.le_of_ble_eq_true rfl) (Nat.zero_le _) (Nat.zero_le _) dX2_faultOfTongue_105 (fun H locs hP hD hS => ?_)
    have hz := Option.some.inj h
    subst hz
    exact hret H locs 108 ls (fun ty h => by cases h; rfl) (hP.sub [0, 4, 1, 2, 3] rfl) (hD.sub [0, 4, 1, 2, 3] (by decide) rfl) hS dX2_faultOfTongue_108
  obtain ⟨k128, hk128, h⟩ := jn_e h
  have Jk128 : ∀ (x128_o_choices : Int32) (x128_tokens_next : Int32) (x128_tokens_place : Int32) (x128_tokens_kind : Int32) (x128_f_values : (Nat → Int32)) (H : Heap) (locs : List Loc) (ls : Array Slot), k128 x128_o_choices x128_tokens_next x128_tokens_place x128_tokens_kind x128_f_values = some z → va_P D vwCl [(a_o, .inr (2, [.ref a_tokens, w_o_signs, .ref a_values, .int x128_o_choices, w_o_termsLeft, w_o_factorsLeft, .int o_depth, .int o_many, .int o_factorDue])), (a_tokens_text, .inr (5, [.ref a_tokens_text_bytes, .int tokens_text_size])), (a_tokens_text_bytes, .inl (cI, 200, .inl f_tokens_text_bytes)), (a_values, .inl (cI, 3, .inl x128_f_values)), (a_tokens, .inr (6, [.ref a_tokens_text, .int x128_tokens_next, .int x128_tokens_place, .int x128_tokens_kind]))] H → va_D A [(a_o, .inr (2, [.ref a_tokens, w_o_signs, .ref a_values, .int x128_o_choices, w_o_termsLeft, w_o_factorsLeft, .int o_depth, .int o_many, .int o_factorDue])), (a_tokens_text, .inr (5, [.ref a_tokens_text_bytes, .int tokens_text_size])), (a_tokens_text_bytes, .inl (cI, 200, .inl f_tokens_text_bytes)), (a_values, .inl (cI, 3, .inl x128_f_values)), (a_tokens, .inr (6, [.ref a_tokens_text, .int x128_tokens_next, .int x128_tokens_place, .int x128_tokens_kind]))] → va_S A s.heap H locs → lv_has ls 4 [(0, .ref a_o)] → W p l e rmX2_faultOfTongue s m args below meth c H locs 0 0 Q (F0 m 128 ls []) := by
    intro x128_o_choices x128_tokens_next x128_tokens_place x128_tokens_kind x128_f_values H locs ls h hP hD hS hl
    rw [hk128] at h
    refine lv_aload_n hx hb dX2_faultOfTongue_128 rfl (lv_at hl 0 rfl) ?_
    refine va_get (D := D) (ci := 2) (v := .ref a_tokens) (C := RX2) (T := TX2) (N := 9) hx hb hts u_X2 hown hK hP 0 rfl rfl 0 (by decide) k_f1 (fun _ h9 => h9) rfl dX2_faultOfTongue_129 ?_
    obtain ⟨z_132, hc_132, h⟩ := bd_e h
    refine q_iV (As := []) (rest := []) (wF := [(a_o, .inr (2, [.ref a_tokens, w_o_signs, .ref a_values, .int x128_o_choices, w_o_termsLeft, w_o_factorsLeft, .int o_depth, .int o_many, .int o_factorDue])), (a_tokens_text, .inr (5, [.ref a_tokens_text_bytes, .int tokens_text_size])), (a_tokens_text_bytes, .inl (cI, 200, .inl f_tokens_text_bytes)), (a_values, .inl (cI, 3, .inl x128_f_values)), (a_tokens, .inr (6, [.ref a_tokens_text, .int x128_tokens_next, .int x128_tokens_place, .int x128_tokens_kind]))]) hF hA hZ hK hP hD hS (c_X7_place l D cI cB cZ a_tokens (.ref a_tokens_text) x128_tokens_next x128_tokens_place x128_tokens_kind z_132 hc_132) rfl gX2_faultOfTongue_X7_place hdX7_place ⟨rfl, rfl⟩ (Nat.le_of_ble_eq_true rfl) (Nat.le_of_ble_eq_true rfl) 6 0 rfl rfl [4] [0, 1, 2, 3] rfl rfl rfl rfl (by decide) rfl hl.1 rfl (Nat.le_of_ble_eq_true rfl) (Nat.zero_le _) (Nat.zero_le _) dX2_faultOfTongue_132 (fun H locs hP hD hS => ?_)
    have hz := Option.some.inj h
    subst hz
    exact hret H locs 135 ls (fun ty h => by cases h; rfl) (hP.sub [0, 4, 1, 2, 3] rfl) (hD.sub [0, 4, 1, 2, 3] (by decide) rfl) hS dX2_faultOfTongue_135
  have L16 : ∀ (n : Nat), ∀ (x16_l1 : Int32) (x16_l2 : Int32) (x16_o_choices : Int32) (x16_tokens_next : Int32) (x16_tokens_place : Int32) (x16_tokens_kind : Int32) (x16_f_values : (Nat → Int32)) (H : Heap) (locs : List Loc) (ls : Array Slot), P_X2_faultOfTongue_16 tokens_text_size f_tokens_text_bytes k168 k59 k101 k128 n x16_l1 x16_l2 x16_o_choices x16_tokens_next x16_tokens_place x16_tokens_kind x16_f_values = some z → va_P D vwCl [(a_o, .inr (2, [.ref a_tokens, w_o_signs, .ref a_values, .int x16_o_choices, w_o_termsLeft, w_o_factorsLeft, .int o_depth, .int o_many, .int o_factorDue])), (a_tokens_text, .inr (5, [.ref a_tokens_text_bytes, .int tokens_text_size])), (a_tokens_text_bytes, .inl (cI, 200, .inl f_tokens_text_bytes)), (a_values, .inl (cI, 3, .inl x16_f_values)), (a_tokens, .inr (6, [.ref a_tokens_text, .int x16_tokens_next, .int x16_tokens_place, .int x16_tokens_kind]))] H → va_D A [(a_o, .inr (2, [.ref a_tokens, w_o_signs, .ref a_values, .int x16_o_choices, w_o_termsLeft, w_o_factorsLeft, .int o_depth, .int o_many, .int o_factorDue])), (a_tokens_text, .inr (5, [.ref a_tokens_text_bytes, .int tokens_text_size])), (a_tokens_text_bytes, .inl (cI, 200, .inl f_tokens_text_bytes)), (a_values, .inl (cI, 3, .inl x16_f_values)), (a_tokens, .inr (6, [.ref a_tokens_text, .int x16_tokens_next, .int x16_tokens_place, .int x16_tokens_kind]))] → va_S A s.heap H locs → lv_has ls 4 [(0, .ref a_o), (1, .int x16_l1), (2, .int x16_l2)] → W p l e rmX2_faultOfTongue s m args below meth c H locs 0 0 Q (F0 m 16 ls []) := by
    intro n
    induction n with
    | zero =>
      intro x16_l1 x16_l2 x16_o_choices x16_tokens_next x16_tokens_place x16_tokens_kind x16_f_values H locs ls h
      exact no_e h
    | succ n ih16 =>
      intro x16_l1 x16_l2 x16_o_choices x16_tokens_next x16_tokens_place x16_tokens_kind x16_f_values H locs ls h hP hD hS hl
      rw [P_X2_faultOfTongue_16] at h
      refine lv_iload_n hx hb dX2_faultOfTongue_16 rfl (lv_at hl 2 rfl) ?_
      refine lv_iconst (v := 3) hx hb dX2_faultOfTongue_17 ic_3 ?_
      refine lv_icmp_gt (tgt := 168) hx hb dX2_faultOfTongue_18 (by decide) (fun c_18 => ?_) (fun c_18 => ?_)
      · replace h := it_e c_18 h
        exact Jk168 x16_o_choices x16_tokens_next x16_tokens_place x16_tokens_kind x16_f_values H locs ls h hP hD hS (lv_sub hl [0] rfl)
      · replace h := if_e c_18 h
        refine lv_aload_n hx hb dX2_faultOfTongue_21 rfl (lv_at hl 0 rfl) ?_
        refine va_get (D := D) (ci := 2) (v := .ref a_tokens) (C := RX2) (T := TX2) (N := 9) hx hb hts u_X2 hown hK hP 0 rfl rfl 0 (by decide) k_f1 (fun _ h9 => h9) rfl dX2_faultOfTongue_22 ?_
        obtain ⟨z_25, hc_25, h⟩ := bd_e h
        refine q_vV (As := []) (rest := []) (wF := [(a_o, .inr (2, [.ref a_tokens, w_o_signs, .ref a_values, .int x16_o_choices, w_o_termsLeft, w_o_factorsLeft, .int o_depth, .int o_many, .int o_factorDue])), (a_values, .inl (cI, 3, .inl x16_f_values)), (a_tokens, .inr (6, [.ref a_tokens_text, .int z_25.1, .int z_25.2.1, .int z_25.2.2])), (a_tokens_text, .inr (5, [.ref a_tokens_text_bytes, .int tokens_text_size])), (a_tokens_text_bytes, .inl (cI, 200, .inl f_tokens_text_bytes))]) hF hA hZ hK hP hD hS (c_X7_step l D cI cB cZ a_tokens x16_tokens_next x16_tokens_place x16_tokens_kind a_tokens_text tokens_text_size a_tokens_text_bytes f_tokens_text_bytes z_25 hc_25) rfl gX2_faultOfTongue_X7_step hdX7_step ⟨rfl, rfl⟩ (Nat.le_of_ble_eq_true rfl) (Nat.le_of_ble_eq_true rfl) 6 0 rfl rfl [4, 1, 2] [0, 3] rfl rfl rfl rfl (by decide) rfl hl.1 rfl (Nat.le_of_ble_eq_true rfl) (Nat.zero_le _) (Nat.zero_le _) dX2_faultOfTongue_25 (fun H locs hP hD hS => ?_)
        refine lv_aload_n hx hb dX2_faultOfTongue_28 rfl (lv_at hl 0 rfl) ?_
        refine va_get (D := D) (ci := 2) (v := .ref a_tokens) (C := RX2) (T := TX2) (N := 9) hx hb hts u_X2 hown hK hP 0 rfl rfl 0 (by decide) k_f1 (fun _ h9 => h9) rfl dX2_faultOfTongue_29 ?_
        refine lv_iconst (v := 0) hx hb dX2_faultOfTongue_32 ic_0 ?_
        obtain ⟨z_33, hc_33, h⟩ := bd_e h
        refine q_iV (As := [.int 0]) (rest := []) (wF := [(a_o, .inr (2, [.ref a_tokens, w_o_signs, .ref a_values, .int x16_o_choices, w_o_termsLeft, w_o_factorsLeft, .int o_depth, .int o_many, .int o_factorDue])), (a_values, .inl (cI, 3, .inl x16_f_values)), (a_tokens_text, .inr (5, [.ref a_tokens_text_bytes, .int tokens_text_size])), (a_tokens_text_bytes, .inl (cI, 200, .inl f_tokens_text_bytes)), (a_tokens, .inr (6, [.ref a_tokens_text, .int z_25.1, .int z_25.2.1, .int z_25.2.2]))]) hF hA hZ hK hP hD hS (c_X7_is l D cI cB cZ a_tokens (.ref a_tokens_text) z_25.1 z_25.2.1 z_25.2.2 0 z_33 hc_33) rfl gX2_faultOfTongue_X7_is hdX7_is ⟨rfl, rfl⟩ (Nat.le_of_ble_eq_true rfl) (Nat.le_of_ble_eq_true rfl) 6 0 rfl rfl [2] [0, 1, 3, 4] rfl rfl rfl rfl (by decide) rfl hl.1 rfl (Nat.le_of_ble_eq_true rfl) (Nat.zero_le _) (Nat.zero_le _) dX2_faultOfTongue_33 (fun H locs hP hD hS => ?_)
        refine lv_if_eq (tgt := 41) hx hb dX2_faultOfTongue_36 (by decide) (fun c_36 => ?_) (fun c_36 => ?_)
        · replace h := it_e c_36 h
          refine lv_aload_n hx hb dX2_faultOfTongue_41 rfl (lv_at hl 0 rfl) ?_
          refine va_get (D := D) (ci := 2) (v := .ref a_tokens) (C := RX2) (T := TX2) (N := 9) hx hb hts u_X2 hown hK hP 0 rfl rfl 0 (by decide) k_f1 (fun _ h9 => h9) rfl dX2_faultOfTongue_42 ?_
          obtain ⟨z_45, hc_45, h⟩ := bd_e h
          refine q_iV (As := []) (rest := []) (wF := [(a_o, .inr (2, [.ref a_tokens, w_o_signs, .ref a_values, .int x16_o_choices, w_o_termsLeft, w_o_factorsLeft, .int o_depth, .int o_many, .int o_factorDue])), (a_values, .inl (cI, 3, .inl x16_f_values)), (a_tokens, .inr (6, [.ref a_tokens_text, .int z_25.1, .int z_25.2.1, .int z_25.2.2])), (a_tokens_text, .inr (5, [.ref a_tokens_text_bytes, .int tokens_text_size])), (a_tokens_text_bytes, .inl (cI, 200, .inl f_tokens_text_bytes))]) hF hA hZ hK hP hD hS (c_X7_isChoice l D cI cB cZ a_tokens z_25.1 z_25.2.1 z_25.2.2 a_tokens_text tokens_text_size a_tokens_text_bytes f_tokens_text_bytes z_45 hc_45) rfl gX2_faultOfTongue_X7_isChoice hdX7_isChoice ⟨rfl, rfl⟩ (Nat.le_of_ble_eq_true rfl) (Nat.le_of_ble_eq_true rfl) 6 0 rfl rfl [4, 2, 3] [0, 1] rfl rfl rfl rfl (by decide) rfl hl.1 rfl (Nat.le_of_ble_eq_true rfl) (Nat.zero_le _) (Nat.zero_le _) dX2_faultOfTongue_45 (fun H locs hP hD hS => ?_)
          refine lv_if_eq (tgt := 59) hx hb dX2_faultOfTongue_48 (by decide) (fun c_48 => ?_) (fun c_48 => ?_)
          · replace h := it_e c_48 h
            exact Jk59 x16_o_choices z_25.1 z_25.2.1 z_25.2.2 x16_f_values H locs ls h (hP.sub [0, 3, 4, 1, 2] rfl) (hD.sub [0, 3, 4, 1, 2] (by decide) rfl) hS (lv_sub hl [0] rfl)
          · replace h := if_e c_48 h
            refine lv_aload_n hx hb dX2_faultOfTongue_51 rfl (lv_at hl 0 rfl) ?_
            refine va_get (D := D) (ci := 2) (v := .int x16_o_choices) (C := RX2) (T := TX2) (N := 9) hx hb hts u_X2 hown hK hP 0 rfl rfl 3 (by decide) k_f0 (fun _ h9 => h9) rfl dX2_faultOfTongue_52 ?_
            refine lv_iconst (v := 3) hx hb dX2_faultOfTongue_55 ic_3 ?_
            refine lv_icmp_ne (tgt := 67) hx hb dX2_faultOfTongue_56 (by decide) (fun c_56 => ?_) (fun c_56 => ?_)
            · replace h := if_e c_56 h
              refine lv_aload_n hx hb dX2_faultOfTongue_67 rfl (lv_at hl 0 rfl) ?_
              refine va_get (D := D) (ci := 2) (v := .ref a_tokens) (C := RX2) (T := TX2) (N := 9) hx hb hts u_X2 hown hK hP 0 rfl rfl 0 (by decide) k_f1 (fun _ h9 => h9) rfl dX2_faultOfTongue_68 ?_
              obtain ⟨z_71, hc_71, h⟩ := bd_e h
              refine q_vV (As := []) (rest := []) (wF := [(a_o, .inr (2, [.ref a_tokens, w_o_signs, .ref a_values, .int x16_o_choices, w_o_termsLeft, w_o_factorsLeft, .int o_depth, .int o_many, .int o_factorDue])), (a_values, .inl (cI, 3, .inl x16_f_values)), (a_tokens, .inr (6, [.ref a_tokens_text, .int z_71.1, .int z_71.2.1, .int z_71.2.2])), (a_tokens_text, .inr (5, [.ref a_tokens_text_bytes, .int tokens_text_size])), (a_tokens_text_bytes, .inl (cI, 200, .inl f_tokens_text_bytes))]) hF hA hZ hK hP hD hS (c_X7_step l D cI cB cZ a_tokens z_25.1 z_25.2.1 z_25.2.2 a_tokens_text tokens_text_size a_tokens_text_bytes f_tokens_text_bytes z_71 hc_71) rfl gX2_faultOfTongue_X7_step hdX7_step ⟨rfl, rfl⟩ (Nat.le_of_ble_eq_true rfl) (Nat.le_of_ble_eq_true rfl) 6 0 rfl rfl [2, 3, 4] [0, 1] rfl rfl rfl rfl (by decide) rfl hl.1 rfl (Nat.le_of_ble_eq_true rfl) (Nat.zero_le _) (Nat.zero_le _) dX2_faultOfTongue_71 (fun H locs hP hD hS => ?_)
              refine lv_aload_n hx hb dX2_faultOfTongue_74 rfl (lv_at hl 0 rfl) ?_
              refine va_get (D := D) (ci := 2) (v := .ref a_tokens) (C := RX2) (T := TX2) (N := 9) hx hb hts u_X2 hown hK hP 0 rfl rfl 0 (by decide) k_f1 (fun _ h9 => h9) rfl dX2_faultOfTongue_75 ?_
              obtain ⟨z_78, hc_78, h⟩ := bd_e h
              refine q_iV (As := []) (rest := []) (wF := [(a_o, .inr (2, [.ref a_tokens, w_o_signs, .ref a_values, .int x16_o_choices, w_o_termsLeft, w_o_factorsLeft, .int o_depth, .int o_many, .int o_factorDue])), (a_values, .inl (cI, 3, .inl x16_f_values)), (a_tokens, .inr (6, [.ref a_tokens_text, .int z_71.1, .int z_71.2.1, .int z_71.2.2])), (a_tokens_text, .inr (5, [.ref a_tokens_text_bytes, .int tokens_text_size])), (a_tokens_text_bytes, .inl (cI, 200, .inl f_tokens_text_bytes))]) hF hA hZ hK hP hD hS (c_X7_number l D cI cB cZ a_tokens z_71.1 z_71.2.1 z_71.2.2 a_tokens_text tokens_text_size a_tokens_text_bytes f_tokens_text_bytes z_78 hc_78) rfl gX2_faultOfTongue_X7_number hdX7_number ⟨rfl, rfl⟩ (Nat.le_of_ble_eq_true rfl) (Nat.le_of_ble_eq_true rfl) 6 0 rfl rfl [2, 3, 4] [0, 1] rfl rfl rfl rfl (by decide) rfl hl.1 rfl (Nat.le_of_ble_eq_true rfl) (Nat.zero_le _) (Nat.zero_le _) dX2_faultOfTongue_78 (fun H locs hP hD hS => ?_)
              refine lv_istore_n (lv' := [(3, .int z_78), (0, .ref a_o), (1, .int x16_l1), (2, .int x16_l2)]) hx hb dX2_faultOfTongue_81 rfl hl (by decide) rfl (fun ls hl => ?_)
              refine lv_iload_n hx hb dX2_faultOfTongue_82 rfl (lv_at hl 0 rfl) ?_
              refine lv_iconst (v := 2) hx hb dX2_faultOfTongue_83 ic_2 ?_
              refine lv_icmp_lt (tgt := 101) hx hb dX2_faultOfTongue_84 (by decide) (fun c_84 => ?_) (fun c_84 => ?_)
              · replace h := it_e c_84 h
                exact Jk101 x16_o_choices z_71.1 z_71.2.1 z_71.2.2 x16_f_values H locs ls h (hP.sub [0, 3, 4, 1, 2] rfl) (hD.sub [0, 3, 4, 1, 2] (by decide) rfl) hS (lv_sub hl [1] rfl)
              · replace h := if_e c_84 h
                refine lv_iload_n hx hb dX2_faultOfTongue_87 rfl (lv_at hl 0 rfl) ?_
                refine lv_bipush (v := 9) hx hb dX2_faultOfTongue_88 bc_9 ?_
                refine lv_icmp_gt (tgt := 101) hx hb dX2_faultOfTongue_90 (by decide) (fun c_90 => ?_) (fun c_90 => ?_)
                · replace h := it_e c_90 h
                  exact Jk101 x16_o_choices z_71.1 z_71.2.1 z_71.2.2 x16_f_values H locs ls h (hP.sub [0, 3, 4, 1, 2] rfl) (hD.sub [0, 3, 4, 1, 2] (by decide) rfl) hS (lv_sub hl [1] rfl)
                · replace h := if_e c_90 h
                  refine lv_iload_n hx hb dX2_faultOfTongue_93 rfl (lv_at hl 2 rfl) ?_
                  refine lv_iload_n hx hb dX2_faultOfTongue_94 rfl (lv_at hl 0 rfl) ?_
                  refine lv_imul hx hb dX2_faultOfTongue_95 ?_
                  refine lv_bipush (v := 9) hx hb dX2_faultOfTongue_96 bc_9 ?_
                  refine lv_icmp_le (tgt := 109) hx hb dX2_faultOfTongue_98 (by decide) (fun c_98 => ?_) (fun c_98 => ?_)
                  · replace h := it_e c_98 h
                    refine lv_aload_n hx hb dX2_faultOfTongue_109 rfl (lv_at hl 1 rfl) ?_
                    refine va_get (D := D) (ci := 2) (v := .ref a_tokens) (C := RX2) (T := TX2) (N := 9) hx hb hts u_X2 hown hK hP 0 rfl rfl 0 (by decide) k_f1 (fun _ h9 => h9) rfl dX2_faultOfTongue_110 ?_
                    obtain ⟨z_113, hc_113, h⟩ := bd_e h
                    refine q_vV (As := []) (rest := []) (wF := [(a_o, .inr (2, [.ref a_tokens, w_o_signs, .ref a_values, .int x16_o_choices, w_o_termsLeft, w_o_factorsLeft, .int o_depth, .int o_many, .int o_factorDue])), (a_values, .inl (cI, 3, .inl x16_f_values)), (a_tokens, .inr (6, [.ref a_tokens_text, .int z_113.1, .int z_113.2.1, .int z_113.2.2])), (a_tokens_text, .inr (5, [.ref a_tokens_text_bytes, .int tokens_text_size])), (a_tokens_text_bytes, .inl (cI, 200, .inl f_tokens_text_bytes))]) hF hA hZ hK hP hD hS (c_X7_step l D cI cB cZ a_tokens z_71.1 z_71.2.1 z_71.2.2 a_tokens_text tokens_text_size a_tokens_text_bytes f_tokens_text_bytes z_113 hc_113) rfl gX2_faultOfTongue_X7_step hdX7_step ⟨rfl, rfl⟩ (Nat.le_of_ble_eq_true rfl) (Nat.le_of_ble_eq_true rfl) 6 0 rfl rfl [2, 3, 4] [0, 1] rfl rfl rfl rfl (by decide) rfl hl.1 rfl (Nat.le_of_ble_eq_true rfl) (Nat.zero_le _) (Nat.zero_le _) dX2_faultOfTongue_113 (fun H locs hP hD hS => ?_)
                    refine lv_aload_n hx hb dX2_faultOfTongue_116 rfl (lv_at hl 1 rfl) ?_
                    refine va_get (D := D) (ci := 2) (v := .ref a_tokens) (C := RX2) (T := TX2) (N := 9) hx hb hts u_X2 hown hK hP 0 rfl rfl 0 (by decide) k_f1 (fun _ h9 => h9) rfl dX2_faultOfTongue_117 ?_
                    refine lv_bipush (v := 59) hx hb dX2_faultOfTongue_120 bc_59 ?_
                    obtain ⟨z_122, hc_122, h⟩ := bd_e h
                    refine q_iV (As := [.int 59]) (rest := []) (wF := [(a_o, .inr (2, [.ref a_tokens, w_o_signs, .ref a_values, .int x16_o_choices, w_o_termsLeft, w_o_factorsLeft, .int o_depth, .int o_many, .int o_factorDue])), (a_values, .inl (cI, 3, .inl x16_f_values)), (a_tokens_text, .inr (5, [.ref a_tokens_text_bytes, .int tokens_text_size])), (a_tokens_text_bytes, .inl (cI, 200, .inl f_tokens_text_bytes)), (a_tokens, .inr (6, [.ref a_tokens_text, .int z_113.1, .int z_113.2.1, .int z_113.2.2]))]) hF hA hZ hK hP hD hS (c_X7_is l D cI cB cZ a_tokens (.ref a_tokens_text) z_113.1 z_113.2.1 z_113.2.2 59 z_122 hc_122) rfl gX2_faultOfTongue_X7_is hdX7_is ⟨rfl, rfl⟩ (Nat.le_of_ble_eq_true rfl) (Nat.le_of_ble_eq_true rfl) 6 0 rfl rfl [2] [0, 1, 3, 4] rfl rfl rfl rfl (by decide) rfl hl.1 rfl (Nat.le_of_ble_eq_true rfl) (Nat.zero_le _) (Nat.zero_le _) dX2_faultOfTongue_122 (fun H locs hP hD hS => ?_)
                    refine lv_if_ne (tgt := 136) hx hb dX2_faultOfTongue_125 (by decide) (fun c_125 => ?_) (fun c_125 => ?_)
                    · replace h := if_e c_125 h
                      refine lv_aload_n hx hb dX2_faultOfTongue_136 rfl (lv_at hl 1 rfl) ?_
                      refine va_get (D := D) (ci := 2) (v := .ref a_values) (C := RX2) (T := TX2) (N := 9) hx hb hts u_X2 hown hK hP 0 rfl rfl 2 (by decide) k_f2 (fun _ h9 => h9) rfl dX2_faultOfTongue_137 ?_
                      refine lv_aload_n hx hb dX2_faultOfTongue_140 rfl (lv_at hl 1 rfl) ?_
                      refine va_get (D := D) (ci := 2) (v := .int x16_o_choices) (C := RX2) (T := TX2) (N := 9) hx hb hts u_X2 hown hK hP 0 rfl rfl 3 (by decide) k_f0 (fun _ h9 => h9) rfl dX2_faultOfTongue_141 ?_
                      refine lv_iload_n hx hb dX2_faultOfTongue_144 rfl (lv_at hl 0 rfl) ?_
                      obtain ⟨z_145, hc_145, h⟩ := bd_e h
                      refine q_vS (As := [.ref a_values, .int x16_o_choices, .int z_78]) (rest := []) (wF := [(a_o, .inr (2, [.ref a_tokens, w_o_signs, .ref a_values, .int x16_o_choices, w_o_termsLeft, w_o_factorsLeft, .int o_depth, .int o_many, .int o_factorDue])), (a_tokens_text, .inr (5, [.ref a_tokens_text_bytes, .int tokens_text_size])), (a_tokens_text_bytes, .inl (cI, 200, .inl f_tokens_text_bytes)), (a_tokens, .inr (6, [.ref a_tokens_text, .int z_113.1, .int z_113.2.1, .int z_113.2.2])), (a_values, .inl (cI, 3, .inl z_145))]) hF hA hZ hK hP hD hS (c_X4_put l D cI cB cZ a_values 3 x16_f_values x16_o_choices z_78 z_145 hc_145) rfl gX2_faultOfTongue_X4_put hdX4_put ⟨rfl, rfl⟩ (Nat.le_of_ble_eq_true rfl) (Nat.le_of_ble_eq_true rfl) [1] [0, 2, 3, 4] rfl rfl rfl rfl (by decide) rfl hl.1 rfl (Nat.le_of_ble_eq_true rfl) (Nat.zero_le _) (Nat.zero_le _) dX2_faultOfTongue_145 (fun H locs hP hD hS => ?_)
                      refine lv_aload_n hx hb dX2_faultOfTongue_148 rfl (lv_at hl 1 rfl) ?_
                      refine lv_dup hx hb dX2_faultOfTongue_149 rfl ?_
                      refine va_get (D := D) (ci := 2) (v := .int x16_o_choices) (C := RX2) (T := TX2) (N := 9) hx hb hts u_X2 hown hK hP 0 rfl rfl 3 (by decide) k_f0 (fun _ h9 => h9) rfl dX2_faultOfTongue_150 ?_
                      refine lv_iconst (v := 1) hx hb dX2_faultOfTongue_153 ic_1 ?_
                      refine lv_iadd hx hb dX2_faultOfTongue_154 ?_
                      refine va_put (D := D) (ci := 2) (v := .int (x16_o_choices + 1)) (ty := .int) (C := RX2) (T := TX2) (N := 9) hx hb hts u_X2 tyX2 tyX2_ok nmX2 hown hK hP hD hS 0 rfl rfl 3 (by decide) k_f0 (fun _ h9 => h9) rfl (tyX2_ok 3 (by decide)) rfl rfl (Nat.le_of_ble_eq_true rfl) dX2_faultOfTongue_155 (fun H locs hP hD hS => ?_)
                      have hP : va_P D vwCl [(a_o, .inr (2, [.ref a_tokens, w_o_signs, .ref a_values, .int (x16_o_choices + 1), w_o_termsLeft, w_o_factorsLeft, .int o_depth, .int o_many, .int o_factorDue])), (a_tokens_text, .inr (5, [.ref a_tokens_text_bytes, .int tokens_text_size])), (a_tokens_text_bytes, .inl (cI, 200, .inl f_tokens_text_bytes)), (a_tokens, .inr (6, [.ref a_tokens_text, .int z_113.1, .int z_113.2.1, .int z_113.2.2])), (a_values, .inl (cI, 3, .inl z_145))] H := hP
                      have hD : va_D A [(a_o, .inr (2, [.ref a_tokens, w_o_signs, .ref a_values, .int (x16_o_choices + 1), w_o_termsLeft, w_o_factorsLeft, .int o_depth, .int o_many, .int o_factorDue])), (a_tokens_text, .inr (5, [.ref a_tokens_text_bytes, .int tokens_text_size])), (a_tokens_text_bytes, .inl (cI, 200, .inl f_tokens_text_bytes)), (a_tokens, .inr (6, [.ref a_tokens_text, .int z_113.1, .int z_113.2.1, .int z_113.2.2])), (a_values, .inl (cI, 3, .inl z_145))] := hD
                      refine lv_iload_n hx hb dX2_faultOfTongue_158 rfl (lv_at hl 2 rfl) ?_
                      refine lv_iload_n hx hb dX2_faultOfTongue_159 rfl (lv_at hl 0 rfl) ?_
                      refine lv_imul hx hb dX2_faultOfTongue_160 ?_
                      refine lv_istore_n (lv' := [(1, .int (x16_l1 * z_78)), (3, .int z_78), (0, .ref a_o), (2, .int x16_l2)]) hx hb dX2_faultOfTongue_161 rfl hl (by decide) rfl (fun ls hl => ?_)
                      refine lv_iinc (v := x16_l2 + 1) (lv' := [(2, .int (x16_l2 + 1)), (1, .int (x16_l1 * z_78)), (3, .int z_78), (0, .ref a_o)]) hx hb dX2_faultOfTongue_162 hl (k := 3) rfl (congrArg (x16_l2 + ·) ic_1) (by decide) rfl (fun ls hl => ?_)
                      refine lv_goto (tgt := 16) hx hb dX2_faultOfTongue_165 (by decide) ?_
                      exact ih16 (x16_l1 * z_78) (x16_l2 + 1) (x16_o_choices + 1) z_113.1 z_113.2.1 z_113.2.2 z_145 H locs ls h (hP.sub [0, 1, 2, 4, 3] rfl) (hD.sub [0, 1, 2, 4, 3] (by decide) rfl) hS (lv_sub hl [3, 1, 0] rfl)
                    · replace h := it_e c_125 h
                      exact Jk128 x16_o_choices z_113.1 z_113.2.1 z_113.2.2 x16_f_values H locs ls h (hP.sub [0, 2, 3, 1, 4] rfl) (hD.sub [0, 2, 3, 1, 4] (by decide) rfl) hS (lv_sub hl [1] rfl)
                  · replace h := if_e c_98 h
                    exact Jk101 x16_o_choices z_71.1 z_71.2.1 z_71.2.2 x16_f_values H locs ls h (hP.sub [0, 3, 4, 1, 2] rfl) (hD.sub [0, 3, 4, 1, 2] (by decide) rfl) hS (lv_sub hl [1] rfl)
            · replace h := it_e c_56 h
              exact Jk59 x16_o_choices z_25.1 z_25.2.1 z_25.2.2 x16_f_values H locs ls h (hP.sub [0, 3, 4, 1, 2] rfl) (hD.sub [0, 3, 4, 1, 2] (by decide) rfl) hS (lv_sub hl [0] rfl)
        · replace h := if_e c_36 h
          refine lv_iconst (v := (-1)) hx hb dX2_faultOfTongue_39 ic_m1 ?_
          have hz := Option.some.inj h
          subst hz
          exact hret H locs 40 ls (fun ty h => by cases h; rfl) (hP.sub [0, 4, 2, 3, 1] rfl) (hD.sub [0, 4, 2, 3, 1] (by decide) rfl) hS dX2_faultOfTongue_40
  exact L16 QF 1 0 0 z_11.1 z_11.2.1 z_11.2.2 f_values H locs ls h hP hD hS (lv_sub hl [2, 1, 0] rfl)
abbrev rmX8_begin : Room := { frames := 0, cells := 0, slots := 0, locals := 0 }
theorem hdX8_begin : yX8_begin.cls = RX8 ∧ yX8_begin.cls ≠ "java/lang/invoke/MethodHandle" ∧ yX8_begin.cls ≠ "java/lang/invoke/VarHandle" ∧ (parseMethodDescriptor yX8_begin.desc).map (fun d => d.parameters.length) = some 0 := by decide +kernel
set_option maxRecDepth 100000 in
set_option maxHeartbeats 4000000 in
theorem c_X8_begin (l : Launch) (D : va_G) (cI cB cZ : ClassId) (a_o : Nat) (w_o_values : Value) (w_o_left : Value) (o_choices : Int32) (o_worlds : Int32) (z : Int32 × Int32) (h : P_X8_begin o_choices o_worlds = some z) : KV l yX8_begin wsX8_begin rmX8_begin D [(cI, .int), (cB, .byte), (cZ, .boolean)] [.ref a_o] [(a_o, .inr (7, [w_o_values, w_o_left, .int o_choices, .int o_worlds]))] [(a_o, .inr (7, [w_o_values, w_o_left, .int z.1, .int z.2]))] := by
  refine KV_of (own := RX8) (cc := cX8_begin) (maxL := 1) (by decide) rfl rfl (Nat.le_of_ble_eq_true rfl) ?_
  intro p e s m args below meth c A Q hx hb hml hown hts hA hZ hK hret H locs ls hP hD hS hl
  have hl : lv_has ls 1 [(0, .ref a_o)] := hl
  have hF : CallFix p m c cX8_begin 1 s args wsX8_begin RX8 := ⟨hx, hb, hml, hown, hts⟩
  have u_X8 : ∀ w ∈ u_ws RX8 TX8 4, w ∈ wsX8_begin := by decide +kernel
  have k_f0 := hts (.fieldLink RX8 16 "NoWordNo$Tongue" "choices" "I") (by decide +kernel)
  have k_f1 := hts (.fieldLink RX8 20 "NoWordNo$Tongue" "worlds" "I") (by decide +kernel)
  unfold P_X8_begin at h
  refine lv_aload_n hx hb dX8_begin_0 rfl (lv_at hl 0 rfl) ?_
  refine lv_iconst (v := 0) hx hb dX8_begin_1 ic_0 ?_
  refine va_put (D := D) (ci := 7) (v := .int 0) (ty := .int) (C := RX8) (T := TX8) (N := 4) hx hb hts u_X8 tyX8 tyX8_ok nmX8 hown hK hP hD hS 0 rfl rfl 2 (by decide) k_f0 (fun _ h9 => h9) rfl (tyX8_ok 2 (by decide)) rfl rfl (Nat.le_of_ble_eq_true rfl) dX8_begin_2 (fun H locs hP hD hS => ?_)
  have hP : va_P D vwCl [(a_o, .inr (7, [w_o_values, w_o_left, .int 0, .int o_worlds]))] H := hP
  have hD : va_D A [(a_o, .inr (7, [w_o_values, w_o_left, .int 0, .int o_worlds]))] := hD
  refine lv_aload_n hx hb dX8_begin_5 rfl (lv_at hl 0 rfl) ?_
  refine lv_iconst (v := 1) hx hb dX8_begin_6 ic_1 ?_
  refine va_put (D := D) (ci := 7) (v := .int 1) (ty := .int) (C := RX8) (T := TX8) (N := 4) hx hb hts u_X8 tyX8 tyX8_ok nmX8 hown hK hP hD hS 0 rfl rfl 3 (by decide) k_f1 (fun _ h9 => h9) rfl (tyX8_ok 3 (by decide)) rfl rfl (Nat.le_of_ble_eq_true rfl) dX8_begin_7 (fun H locs hP hD hS => ?_)
  have hP : va_P D vwCl [(a_o, .inr (7, [w_o_values, w_o_left, .int 0, .int 1]))] H := hP
  have hD : va_D A [(a_o, .inr (7, [w_o_values, w_o_left, .int 0, .int 1]))] := hD
  have hz := Option.some.inj h
  subst hz
  exact hret H locs 10 ls hP hD hS dX8_begin_10
abbrev rmX2_choicesRead : Room := { frames := 0, cells := 0, slots := 0, locals := 0 }
theorem hdX2_choicesRead : yX2_choicesRead.cls = RX2 ∧ yX2_choicesRead.cls ≠ "java/lang/invoke/MethodHandle" ∧ yX2_choicesRead.cls ≠ "java/lang/invoke/VarHandle" ∧ (parseMethodDescriptor yX2_choicesRead.desc).map (fun d => d.parameters.length) = some 0 := by decide +kernel
set_option maxRecDepth 100000 in
set_option maxHeartbeats 4000000 in
theorem c_X2_choicesRead (l : Launch) (D : va_G) (cI cB cZ : ClassId) (a_o : Nat) (w_o_tokens : Value) (w_o_signs : Value) (w_o_values : Value) (o_choices : Int32) (w_o_termsLeft : Value) (w_o_factorsLeft : Value) (o_depth : Int32) (o_many : Int32) (o_factorDue : Int32) (z : Int32) (h : P_X2_choicesRead o_choices = some z) : KI l yX2_choicesRead wsX2_choicesRead rmX2_choicesRead D [(cI, .int), (cB, .byte), (cZ, .boolean)] [.ref a_o] [(a_o, .inr (2, [w_o_tokens, w_o_signs, w_o_values, .int o_choices, w_o_termsLeft, w_o_factorsLeft, .int o_depth, .int o_many, .int o_factorDue]))] [(a_o, .inr (2, [w_o_tokens, w_o_signs, w_o_values, .int o_choices, w_o_termsLeft, w_o_factorsLeft, .int o_depth, .int o_many, .int o_factorDue]))] z := by
  refine KI_of (own := RX2) (cc := cX2_choicesRead) (maxL := 1) (ret := some .int) (by decide) rfl rfl (Nat.le_of_ble_eq_true rfl) (Or.inl rfl) ?_
  intro p e s m args below meth c A Q hx hb hml hown hts hA hZ hK hret H locs ls hP hD hS hl
  have hl : lv_has ls 1 [(0, .ref a_o)] := hl
  have hF : CallFix p m c cX2_choicesRead 1 s args wsX2_choicesRead RX2 := ⟨hx, hb, hml, hown, hts⟩
  have u_X2 : ∀ w ∈ u_ws RX2 TX2 9, w ∈ wsX2_choicesRead := by decide +kernel
  have k_f0 := hts (.fieldLink RX2 15 "NoWordNo$Reader" "choices" "I") (by decide +kernel)
  unfold P_X2_choicesRead at h
  refine lv_aload_n hx hb dX2_choicesRead_0 rfl (lv_at hl 0 rfl) ?_
  refine va_get (D := D) (ci := 2) (v := .int o_choices) (C := RX2) (T := TX2) (N := 9) hx hb hts u_X2 hown hK hP 0 rfl rfl 3 (by decide) k_f0 (fun _ h9 => h9) rfl dX2_choicesRead_1 ?_
  have hz := Option.some.inj h
  subst hz
  exact hret H locs 4 ls (fun ty h => by cases h; rfl) hP hD hS dX2_choicesRead_4
abbrev rmX2_valuesRead : Room := { frames := 1, cells := 0, slots := 0, locals := 21 }
theorem hdX2_valuesRead : yX2_valuesRead.cls = RX2 ∧ yX2_valuesRead.cls ≠ "java/lang/invoke/MethodHandle" ∧ yX2_valuesRead.cls ≠ "java/lang/invoke/VarHandle" ∧ (parseMethodDescriptor yX2_valuesRead.desc).map (fun d => d.parameters.length) = some 1 := by decide +kernel
set_option maxRecDepth 100000 in
set_option maxHeartbeats 4000000 in
theorem c_X2_valuesRead (l : Launch) (D : va_G) (cI cB cZ : ClassId) (a_o : Nat) (w_o_tokens : Value) (w_o_signs : Value) (o_choices : Int32) (w_o_termsLeft : Value) (w_o_factorsLeft : Value) (o_depth : Int32) (o_many : Int32) (o_factorDue : Int32) (a_values : Nat) (f_values : Nat → Int32) (p1 : Int32) (z : Int32) (h : P_X2_valuesRead p1 f_values = some z) : KI l yX2_valuesRead wsX2_valuesRead rmX2_valuesRead D [(cI, .int), (cB, .byte), (cZ, .boolean)] [.ref a_o, .int p1] [(a_o, .inr (2, [w_o_tokens, w_o_signs, .ref a_values, .int o_choices, w_o_termsLeft, w_o_factorsLeft, .int o_depth, .int o_many, .int o_factorDue])), (a_values, .inl (cI, 3, .inl f_values))] [(a_o, .inr (2, [w_o_tokens, w_o_signs, .ref a_values, .int o_choices, w_o_termsLeft, w_o_factorsLeft, .int o_depth, .int o_many, .int o_factorDue])), (a_values, .inl (cI, 3, .inl f_values))] z := by
  refine KI_of (own := RX2) (cc := cX2_valuesRead) (maxL := 2) (ret := some .int) (by decide) rfl rfl (Nat.le_of_ble_eq_true rfl) (Or.inl rfl) ?_
  intro p e s m args below meth c A Q hx hb hml hown hts hA hZ hK hret H locs ls hP hD hS hl
  have hl : lv_has ls 2 [(0, .ref a_o), (1, .int p1)] := hl
  have hF : CallFix p m c cX2_valuesRead 2 s args wsX2_valuesRead RX2 := ⟨hx, hb, hml, hown, hts⟩
  have u_X2 : ∀ w ∈ u_ws RX2 TX2 9, w ∈ wsX2_valuesRead := by decide +kernel
  have k_f0 := hts (.fieldLink RX2 9 "NoWordNo$Reader" "values" "[I") (by decide +kernel)
  unfold P_X2_valuesRead at h
  refine lv_aload_n hx hb dX2_valuesRead_0 rfl (lv_at hl 0 rfl) ?_
  refine va_get (D := D) (ci := 2) (v := .ref a_values) (C := RX2) (T := TX2) (N := 9) hx hb hts u_X2 hown hK hP 0 rfl rfl 2 (by decide) k_f0 (fun _ h9 => h9) rfl dX2_valuesRead_1 ?_
  refine lv_iload_n hx hb dX2_valuesRead_4 rfl (lv_at hl 1 rfl) ?_
  obtain ⟨z_5, hc_5, h⟩ := bd_e h
  refine q_iS (As := [.ref a_values, .int p1]) (rest := []) (wF := [(a_o, .inr (2, [w_o_tokens, w_o_signs, .ref a_values, .int o_choices, w_o_termsLeft, w_o_factorsLeft, .int o_depth, .int o_many, .int o_factorDue])), (a_values, .inl (cI, 3, .inl f_values))]) hF hA hZ hK hP hD hS (c_X4_at l D cI cB cZ a_values 3 f_values p1 z_5 hc_5) rfl gX2_valuesRead_X4_at hdX4_at ⟨rfl, rfl⟩ (Nat.le_of_ble_eq_true rfl) (Nat.le_of_ble_eq_true rfl) [1] [0] rfl rfl rfl rfl (by decide) rfl hl.1 rfl (Nat.le_of_ble_eq_true rfl) (Nat.zero_le _) (Nat.zero_le _) dX2_valuesRead_5 (fun H locs hP hD hS => ?_)
  have hz := Option.some.inj h
  subst hz
  exact hret H locs 8 ls (fun ty h => by cases h; rfl) hP hD hS dX2_valuesRead_8
abbrev rmX8_addChoice : Room := { frames := 1, cells := 0, slots := 0, locals := 22 }
theorem hdX8_addChoice : yX8_addChoice.cls = RX8 ∧ yX8_addChoice.cls ≠ "java/lang/invoke/MethodHandle" ∧ yX8_addChoice.cls ≠ "java/lang/invoke/VarHandle" ∧ (parseMethodDescriptor yX8_addChoice.desc).map (fun d => d.parameters.length) = some 1 := by decide +kernel
set_option maxRecDepth 100000 in
set_option maxHeartbeats 4000000 in
theorem c_X8_addChoice (l : Launch) (D : va_G) (cI cB cZ : ClassId) (a_o : Nat) (w_o_left : Value) (o_choices : Int32) (o_worlds : Int32) (a_values : Nat) (f_values : Nat → Int32) (p1 : Int32) (z : Int32 × Int32 × (Nat → Int32)) (h : P_X8_addChoice p1 o_choices o_worlds f_values = some z) : KV l yX8_addChoice wsX8_addChoice rmX8_addChoice D [(cI, .int), (cB, .byte), (cZ, .boolean)] [.ref a_o, .int p1] [(a_o, .inr (7, [.ref a_values, w_o_left, .int o_choices, .int o_worlds])), (a_values, .inl (cI, 3, .inl f_values))] [(a_o, .inr (7, [.ref a_values, w_o_left, .int z.1, .int z.2.1])), (a_values, .inl (cI, 3, .inl z.2.2))] := by
  refine KV_of (own := RX8) (cc := cX8_addChoice) (maxL := 2) (by decide) rfl rfl (Nat.le_of_ble_eq_true rfl) ?_
  intro p e s m args below meth c A Q hx hb hml hown hts hA hZ hK hret H locs ls hP hD hS hl
  have hl : lv_has ls 2 [(0, .ref a_o), (1, .int p1)] := hl
  have hF : CallFix p m c cX8_addChoice 2 s args wsX8_addChoice RX8 := ⟨hx, hb, hml, hown, hts⟩
  have u_X8 : ∀ w ∈ u_ws RX8 TX8 4, w ∈ wsX8_addChoice := by decide +kernel
  have k_f0 := hts (.fieldLink RX8 9 "NoWordNo$Tongue" "values" "[I") (by decide +kernel)
  have k_f1 := hts (.fieldLink RX8 16 "NoWordNo$Tongue" "choices" "I") (by decide +kernel)
  have k_f2 := hts (.fieldLink RX8 20 "NoWordNo$Tongue" "worlds" "I") (by decide +kernel)
  unfold P_X8_addChoice at h
  refine lv_aload_n hx hb dX8_addChoice_0 rfl (lv_at hl 0 rfl) ?_
  refine va_get (D := D) (ci := 7) (v := .ref a_values) (C := RX8) (T := TX8) (N := 4) hx hb hts u_X8 hown hK hP 0 rfl rfl 0 (by decide) k_f0 (fun _ h9 => h9) rfl dX8_addChoice_1 ?_
  refine lv_aload_n hx hb dX8_addChoice_4 rfl (lv_at hl 0 rfl) ?_
  refine va_get (D := D) (ci := 7) (v := .int o_choices) (C := RX8) (T := TX8) (N := 4) hx hb hts u_X8 hown hK hP 0 rfl rfl 2 (by decide) k_f1 (fun _ h9 => h9) rfl dX8_addChoice_5 ?_
  refine lv_iload_n hx hb dX8_addChoice_8 rfl (lv_at hl 1 rfl) ?_
  obtain ⟨z_9, hc_9, h⟩ := bd_e h
  refine q_vS (As := [.ref a_values, .int o_choices, .int p1]) (rest := []) (wF := [(a_o, .inr (7, [.ref a_values, w_o_left, .int o_choices, .int o_worlds])), (a_values, .inl (cI, 3, .inl z_9))]) hF hA hZ hK hP hD hS (c_X4_put l D cI cB cZ a_values 3 f_values o_choices p1 z_9 hc_9) rfl gX8_addChoice_X4_put hdX4_put ⟨rfl, rfl⟩ (Nat.le_of_ble_eq_true rfl) (Nat.le_of_ble_eq_true rfl) [1] [0] rfl rfl rfl rfl (by decide) rfl hl.1 rfl (Nat.le_of_ble_eq_true rfl) (Nat.zero_le _) (Nat.zero_le _) dX8_addChoice_9 (fun H locs hP hD hS => ?_)
  refine lv_aload_n hx hb dX8_addChoice_12 rfl (lv_at hl 0 rfl) ?_
  refine lv_dup hx hb dX8_addChoice_13 rfl ?_
  refine va_get (D := D) (ci := 7) (v := .int o_choices) (C := RX8) (T := TX8) (N := 4) hx hb hts u_X8 hown hK hP 0 rfl rfl 2 (by decide) k_f1 (fun _ h9 => h9) rfl dX8_addChoice_14 ?_
  refine lv_iconst (v := 1) hx hb dX8_addChoice_17 ic_1 ?_
  refine lv_iadd hx hb dX8_addChoice_18 ?_
  refine va_put (D := D) (ci := 7) (v := .int (o_choices + 1)) (ty := .int) (C := RX8) (T := TX8) (N := 4) hx hb hts u_X8 tyX8 tyX8_ok nmX8 hown hK hP hD hS 0 rfl rfl 2 (by decide) k_f1 (fun _ h9 => h9) rfl (tyX8_ok 2 (by decide)) rfl rfl (Nat.le_of_ble_eq_true rfl) dX8_addChoice_19 (fun H locs hP hD hS => ?_)
  have hP : va_P D vwCl [(a_o, .inr (7, [.ref a_values, w_o_left, .int (o_choices + 1), .int o_worlds])), (a_values, .inl (cI, 3, .inl z_9))] H := hP
  have hD : va_D A [(a_o, .inr (7, [.ref a_values, w_o_left, .int (o_choices + 1), .int o_worlds])), (a_values, .inl (cI, 3, .inl z_9))] := hD
  refine lv_aload_n hx hb dX8_addChoice_22 rfl (lv_at hl 0 rfl) ?_
  refine lv_dup hx hb dX8_addChoice_23 rfl ?_
  refine va_get (D := D) (ci := 7) (v := .int o_worlds) (C := RX8) (T := TX8) (N := 4) hx hb hts u_X8 hown hK hP 0 rfl rfl 3 (by decide) k_f2 (fun _ h9 => h9) rfl dX8_addChoice_24 ?_
  refine lv_iload_n hx hb dX8_addChoice_27 rfl (lv_at hl 1 rfl) ?_
  refine lv_imul hx hb dX8_addChoice_28 ?_
  refine va_put (D := D) (ci := 7) (v := .int (o_worlds * p1)) (ty := .int) (C := RX8) (T := TX8) (N := 4) hx hb hts u_X8 tyX8 tyX8_ok nmX8 hown hK hP hD hS 0 rfl rfl 3 (by decide) k_f2 (fun _ h9 => h9) rfl (tyX8_ok 3 (by decide)) rfl rfl (Nat.le_of_ble_eq_true rfl) dX8_addChoice_29 (fun H locs hP hD hS => ?_)
  have hP : va_P D vwCl [(a_o, .inr (7, [.ref a_values, w_o_left, .int (o_choices + 1), .int (o_worlds * p1)])), (a_values, .inl (cI, 3, .inl z_9))] H := hP
  have hD : va_D A [(a_o, .inr (7, [.ref a_values, w_o_left, .int (o_choices + 1), .int (o_worlds * p1)])), (a_values, .inl (cI, 3, .inl z_9))] := hD
  have hz := Option.some.inj h
  subst hz
  exact hret H locs 32 ls hP hD hS dX8_addChoice_32
abbrev rmX8_isChoice : Room := { frames := 0, cells := 0, slots := 0, locals := 0 }
theorem hdX8_isChoice : yX8_isChoice.cls = RX8 ∧ yX8_isChoice.cls ≠ "java/lang/invoke/MethodHandle" ∧ yX8_isChoice.cls ≠ "java/lang/invoke/VarHandle" ∧ (parseMethodDescriptor yX8_isChoice.desc).map (fun d => d.parameters.length) = some 1 := by decide +kernel
set_option maxRecDepth 100000 in
set_option maxHeartbeats 4000000 in
theorem c_X8_isChoice (l : Launch) (D : va_G) (cI cB cZ : ClassId) (a_o : Nat) (w_o_values : Value) (w_o_left : Value) (o_choices : Int32) (o_worlds : Int32) (p1 : Int32) (z : Int32) (h : P_X8_isChoice p1 o_choices = some z) : KI l yX8_isChoice wsX8_isChoice rmX8_isChoice D [(cI, .int), (cB, .byte), (cZ, .boolean)] [.ref a_o, .int p1] [(a_o, .inr (7, [w_o_values, w_o_left, .int o_choices, .int o_worlds]))] [(a_o, .inr (7, [w_o_values, w_o_left, .int o_choices, .int o_worlds]))] z := by
  refine KI_of (own := RX8) (cc := cX8_isChoice) (maxL := 2) (ret := some .boolean) (by decide) rfl rfl (Nat.le_of_ble_eq_true rfl) (Or.inr rfl) ?_
  intro p e s m args below meth c A Q hx hb hml hown hts hA hZ hK hret H locs ls hP hD hS hl
  have hl : lv_has ls 2 [(0, .ref a_o), (1, .int p1)] := hl
  have hF : CallFix p m c cX8_isChoice 2 s args wsX8_isChoice RX8 := ⟨hx, hb, hml, hown, hts⟩
  have u_X8 : ∀ w ∈ u_ws RX8 TX8 4, w ∈ wsX8_isChoice := by decide +kernel
  have k_f0 := hts (.fieldLink RX8 16 "NoWordNo$Tongue" "choices" "I") (by decide +kernel)
  unfold P_X8_isChoice at h
  refine lv_iload_n hx hb dX8_isChoice_0 rfl (lv_at hl 1 rfl) ?_
  refine lv_if_lt (tgt := 16) hx hb dX8_isChoice_1 (by decide) (fun c_1 => ?_) (fun c_1 => ?_)
  · replace h := it_e c_1 h
    refine lv_iconst (v := 0) hx hb dX8_isChoice_16 ic_0 ?_
    have hz := Option.some.inj h
    subst hz
    exact hret H locs 17 ls (fun ty h => by cases h; exact nar_0) hP hD hS dX8_isChoice_17
  · replace h := if_e c_1 h
    refine lv_iload_n hx hb dX8_isChoice_4 rfl (lv_at hl 1 rfl) ?_
    refine lv_aload_n hx hb dX8_isChoice_5 rfl (lv_at hl 0 rfl) ?_
    refine va_get (D := D) (ci := 7) (v := .int o_choices) (C := RX8) (T := TX8) (N := 4) hx hb hts u_X8 hown hK hP 0 rfl rfl 2 (by decide) k_f0 (fun _ h9 => h9) rfl dX8_isChoice_6 ?_
    refine lv_icmp_ge (tgt := 16) hx hb dX8_isChoice_9 (by decide) (fun c_9 => ?_) (fun c_9 => ?_)
    · replace h := it_e c_9 h
      refine lv_iconst (v := 0) hx hb dX8_isChoice_16 ic_0 ?_
      have hz := Option.some.inj h
      subst hz
      exact hret H locs 17 ls (fun ty h => by cases h; exact nar_0) hP hD hS dX8_isChoice_17
    · replace h := if_e c_9 h
      refine lv_iconst (v := 1) hx hb dX8_isChoice_12 ic_1 ?_
      refine lv_goto (tgt := 17) hx hb dX8_isChoice_13 (by decide) ?_
      have hz := Option.some.inj h
      subst hz
      exact hret H locs 17 ls (fun ty h => by cases h; exact nar_1) hP hD hS dX8_isChoice_17
abbrev rmX8_valuesOf : Room := { frames := 1, cells := 0, slots := 0, locals := 21 }
theorem hdX8_valuesOf : yX8_valuesOf.cls = RX8 ∧ yX8_valuesOf.cls ≠ "java/lang/invoke/MethodHandle" ∧ yX8_valuesOf.cls ≠ "java/lang/invoke/VarHandle" ∧ (parseMethodDescriptor yX8_valuesOf.desc).map (fun d => d.parameters.length) = some 1 := by decide +kernel
set_option maxRecDepth 100000 in
set_option maxHeartbeats 4000000 in
theorem c_X8_valuesOf (l : Launch) (D : va_G) (cI cB cZ : ClassId) (a_o : Nat) (w_o_left : Value) (o_choices : Int32) (o_worlds : Int32) (a_values : Nat) (f_values : Nat → Int32) (p1 : Int32) (z : Int32) (h : P_X8_valuesOf p1 o_choices f_values = some z) : KI l yX8_valuesOf wsX8_valuesOf rmX8_valuesOf D [(cI, .int), (cB, .byte), (cZ, .boolean)] [.ref a_o, .int p1] [(a_o, .inr (7, [.ref a_values, w_o_left, .int o_choices, .int o_worlds])), (a_values, .inl (cI, 3, .inl f_values))] [(a_o, .inr (7, [.ref a_values, w_o_left, .int o_choices, .int o_worlds])), (a_values, .inl (cI, 3, .inl f_values))] z := by
  refine KI_of (own := RX8) (cc := cX8_valuesOf) (maxL := 2) (ret := some .int) (by decide) rfl rfl (Nat.le_of_ble_eq_true rfl) (Or.inl rfl) ?_
  intro p e s m args below meth c A Q hx hb hml hown hts hA hZ hK hret H locs ls hP hD hS hl
  have hl : lv_has ls 2 [(0, .ref a_o), (1, .int p1)] := hl
  have hF : CallFix p m c cX8_valuesOf 2 s args wsX8_valuesOf RX8 := ⟨hx, hb, hml, hown, hts⟩
  have u_X8 : ∀ w ∈ u_ws RX8 TX8 4, w ∈ wsX8_valuesOf := by decide +kernel
  have k_f0 := hts (.fieldLink RX8 9 "NoWordNo$Tongue" "values" "[I") (by decide +kernel)
  unfold P_X8_valuesOf at h
  refine lv_aload_n hx hb dX8_valuesOf_0 rfl (lv_at hl 0 rfl) ?_
  refine lv_iload_n hx hb dX8_valuesOf_1 rfl (lv_at hl 1 rfl) ?_
  obtain ⟨z_2, hc_2, h⟩ := bd_e h
  refine q_iV (As := [.int p1]) (rest := []) (wF := [(a_values, .inl (cI, 3, .inl f_values)), (a_o, .inr (7, [.ref a_values, w_o_left, .int o_choices, .int o_worlds]))]) hF hA hZ hK hP hD hS (c_X8_isChoice l D cI cB cZ a_o (.ref a_values) w_o_left o_choices o_worlds p1 z_2 hc_2) rfl gX8_valuesOf_X8_isChoice hdX8_isChoice ⟨rfl, rfl⟩ (Nat.le_of_ble_eq_true rfl) (Nat.le_of_ble_eq_true rfl) 7 0 rfl rfl [0] [1] rfl rfl rfl rfl (by decide) rfl hl.1 rfl (Nat.le_of_ble_eq_true rfl) (Nat.zero_le _) (Nat.zero_le _) dX8_valuesOf_2 (fun H locs hP hD hS => ?_)
  refine lv_if_eq (tgt := 19) hx hb dX8_valuesOf_5 (by decide) (fun c_5 => ?_) (fun c_5 => ?_)
  · replace h := it_e c_5 h
    refine lv_iconst (v := 0) hx hb dX8_valuesOf_19 ic_0 ?_
    have hz := Option.some.inj h
    subst hz
    exact hret H locs 20 ls (fun ty h => by cases h; rfl) (hP.sub [1, 0] rfl) (hD.sub [1, 0] (by decide) rfl) hS dX8_valuesOf_20
  · replace h := if_e c_5 h
    refine lv_aload_n hx hb dX8_valuesOf_8 rfl (lv_at hl 0 rfl) ?_
    refine va_get (D := D) (ci := 7) (v := .ref a_values) (C := RX8) (T := TX8) (N := 4) hx hb hts u_X8 hown hK hP 1 rfl rfl 0 (by decide) k_f0 (fun _ h9 => h9) rfl dX8_valuesOf_9 ?_
    refine lv_iload_n hx hb dX8_valuesOf_12 rfl (lv_at hl 1 rfl) ?_
    obtain ⟨z_13, hc_13, h⟩ := bd_e h
    refine q_iS (As := [.ref a_values, .int p1]) (rest := []) (wF := [(a_o, .inr (7, [.ref a_values, w_o_left, .int o_choices, .int o_worlds])), (a_values, .inl (cI, 3, .inl f_values))]) hF hA hZ hK hP hD hS (c_X4_at l D cI cB cZ a_values 3 f_values p1 z_13 hc_13) rfl gX8_valuesOf_X4_at hdX4_at ⟨rfl, rfl⟩ (Nat.le_of_ble_eq_true rfl) (Nat.le_of_ble_eq_true rfl) [0] [1] rfl rfl rfl rfl (by decide) rfl hl.1 rfl (Nat.le_of_ble_eq_true rfl) (Nat.zero_le _) (Nat.zero_le _) dX8_valuesOf_13 (fun H locs hP hD hS => ?_)
    refine lv_goto (tgt := 20) hx hb dX8_valuesOf_16 (by decide) ?_
    have hz := Option.some.inj h
    subst hz
    exact hret H locs 20 ls (fun ty h => by cases h; rfl) hP hD hS dX8_valuesOf_20
abbrev rmX8_layOutChoice : Room := { frames := 2, cells := 0, slots := 0, locals := 42 }
theorem hdX8_layOutChoice : yX8_layOutChoice.cls = RX8 ∧ yX8_layOutChoice.cls ≠ "java/lang/invoke/MethodHandle" ∧ yX8_layOutChoice.cls ≠ "java/lang/invoke/VarHandle" ∧ (parseMethodDescriptor yX8_layOutChoice.desc).map (fun d => d.parameters.length) = some 2 := by decide +kernel
set_option maxRecDepth 100000 in
set_option maxHeartbeats 4000000 in
theorem c_X8_layOutChoice (l : Launch) (D : va_G) (cI cB cZ : ClassId) (a_o : Nat) (o_choices : Int32) (o_worlds : Int32) (a_values : Nat) (f_values : Nat → Int32) (a_left : Nat) (f_left : Nat → Int32) (p1 : Int32) (p2 : Int32) (z : (Nat → Int32)) (h : P_X8_layOutChoice p1 p2 o_choices o_worlds f_values f_left = some z) : KV l yX8_layOutChoice wsX8_layOutChoice rmX8_layOutChoice D [(cI, .int), (cB, .byte), (cZ, .boolean)] [.ref a_o, .int p1, .int p2] [(a_o, .inr (7, [.ref a_values, .ref a_left, .int o_choices, .int o_worlds])), (a_values, .inl (cI, 3, .inl f_values)), (a_left, .inl (cI, 30, .inl f_left))] [(a_o, .inr (7, [.ref a_values, .ref a_left, .int o_choices, .int o_worlds])), (a_values, .inl (cI, 3, .inl f_values)), (a_left, .inl (cI, 30, .inl z))] := by
  refine KV_of (own := RX8) (cc := cX8_layOutChoice) (maxL := 7) (by decide) rfl rfl (Nat.le_of_ble_eq_true rfl) ?_
  intro p e s m args below meth c A Q hx hb hml hown hts hA hZ hK hret H locs ls hP hD hS hl
  have hl : lv_has ls 7 [(0, .ref a_o), (1, .int p1), (2, .int p2)] := hl
  have hF : CallFix p m c cX8_layOutChoice 7 s args wsX8_layOutChoice RX8 := ⟨hx, hb, hml, hown, hts⟩
  have u_X8 : ∀ w ∈ u_ws RX8 TX8 4, w ∈ wsX8_layOutChoice := by decide +kernel
  have k_f0 := hts (.fieldLink RX8 20 "NoWordNo$Tongue" "worlds" "I") (by decide +kernel)
  have k_f1 := hts (.fieldLink RX8 13 "NoWordNo$Tongue" "left" "[I") (by decide +kernel)
  unfold P_X8_layOutChoice at h
  refine lv_iconst (v := 0) hx hb dX8_layOutChoice_0 ic_0 ?_
  refine lv_istore_n (lv' := [(3, .int 0), (0, .ref a_o), (1, .int p1), (2, .int p2)]) hx hb dX8_layOutChoice_1 rfl hl (by decide) rfl (fun ls hl => ?_)
  obtain ⟨k31, hk31, h⟩ := jn_e h
  have Jk31 : ∀ (x31_f_left : (Nat → Int32)) (H : Heap) (locs : List Loc) (ls : Array Slot), k31 x31_f_left = some z → va_P D vwCl [(a_o, .inr (7, [.ref a_values, .ref a_left, .int o_choices, .int o_worlds])), (a_values, .inl (cI, 3, .inl f_values)), (a_left, .inl (cI, 30, .inl x31_f_left))] H → va_D A [(a_o, .inr (7, [.ref a_values, .ref a_left, .int o_choices, .int o_worlds])), (a_values, .inl (cI, 3, .inl f_values)), (a_left, .inl (cI, 30, .inl x31_f_left))] → va_S A s.heap H locs → lv_has ls 7 [(0, .ref a_o), (1, .int p1), (2, .int p2)] → W p l e rmX8_layOutChoice s m args below meth c H locs 0 0 Q (F0 m 31 ls []) := by
    intro x31_f_left H locs ls h hP hD hS hl
    rw [hk31] at h
    refine lv_iconst (v := 0) hx hb dX8_layOutChoice_31 ic_0 ?_
    refine lv_istore_n (lv' := [(3, .int 0), (0, .ref a_o), (1, .int p1), (2, .int p2)]) hx hb dX8_layOutChoice_32 rfl hl (by decide) rfl (fun ls hl => ?_)
    refine lv_iconst (v := 0) hx hb dX8_layOutChoice_33 ic_0 ?_
    refine lv_istore (lv' := [(4, .int 0), (3, .int 0), (0, .ref a_o), (1, .int p1), (2, .int p2)]) hx hb dX8_layOutChoice_34 hl (by decide) rfl (fun ls hl => ?_)
    refine lv_iconst (v := 0) hx hb dX8_layOutChoice_36 ic_0 ?_
    refine lv_istore (lv' := [(5, .int 0), (4, .int 0), (3, .int 0), (0, .ref a_o), (1, .int p1), (2, .int p2)]) hx hb dX8_layOutChoice_37 hl (by decide) rfl (fun ls hl => ?_)
    have L39 : ∀ (n : Nat), ∀ (x39_l3 : Int32) (x39_l4 : Int32) (x39_l5 : Int32) (x39_f_left : (Nat → Int32)) (H : Heap) (locs : List Loc) (ls : Array Slot), P_X8_layOutChoice_39 p1 p2 o_choices o_worlds f_values n x39_l3 x39_l4 x39_l5 x39_f_left = some z → va_P D vwCl [(a_o, .inr (7, [.ref a_values, .ref a_left, .int o_choices, .int o_worlds])), (a_values, .inl (cI, 3, .inl f_values)), (a_left, .inl (cI, 30, .inl x39_f_left))] H → va_D A [(a_o, .inr (7, [.ref a_values, .ref a_left, .int o_choices, .int o_worlds])), (a_values, .inl (cI, 3, .inl f_values)), (a_left, .inl (cI, 30, .inl x39_f_left))] → va_S A s.heap H locs → lv_has ls 7 [(0, .ref a_o), (1, .int p1), (2, .int p2), (3, .int x39_l3), (4, .int x39_l4), (5, .int x39_l5)] → W p l e rmX8_layOutChoice s m args below meth c H locs 0 0 Q (F0 m 39 ls []) := by
      intro n
      induction n with
      | zero =>
        intro x39_l3 x39_l4 x39_l5 x39_f_left H locs ls h
        exact no_e h
      | succ n ih39 =>
        intro x39_l3 x39_l4 x39_l5 x39_f_left H locs ls h hP hD hS hl
        rw [P_X8_layOutChoice_39] at h
        refine lv_iload hx hb dX8_layOutChoice_39 (lv_at hl 5 rfl) ?_
        refine lv_aload_n hx hb dX8_layOutChoice_41 rfl (lv_at hl 0 rfl) ?_
        refine va_get (D := D) (ci := 7) (v := .int o_worlds) (C := RX8) (T := TX8) (N := 4) hx hb hts u_X8 hown hK hP 0 rfl rfl 3 (by decide) k_f0 (fun _ h9 => h9) rfl dX8_layOutChoice_42 ?_
        refine lv_icmp_ge (tgt := 116) hx hb dX8_layOutChoice_45 (by decide) (fun c_45 => ?_) (fun c_45 => ?_)
        · replace h := it_e c_45 h
          have hz := Option.some.inj h
          subst hz
          exact hret H locs 116 ls hP hD hS dX8_layOutChoice_116
        · replace h := if_e c_45 h
          refine lv_bipush (v := 10) hx hb dX8_layOutChoice_48 bc_10 ?_
          refine lv_iload_n hx hb dX8_layOutChoice_50 rfl (lv_at hl 1 rfl) ?_
          refine lv_imul hx hb dX8_layOutChoice_51 ?_
          refine lv_iload_n hx hb dX8_layOutChoice_52 rfl (lv_at hl 3 rfl) ?_
          refine lv_iadd hx hb dX8_layOutChoice_53 ?_
          refine lv_istore (lv' := [(6, .int ((10 * p1) + x39_l3)), (0, .ref a_o), (1, .int p1), (2, .int p2), (3, .int x39_l3), (4, .int x39_l4), (5, .int x39_l5)]) hx hb dX8_layOutChoice_54 hl (by decide) rfl (fun ls hl => ?_)
          refine lv_aload_n hx hb dX8_layOutChoice_56 rfl (lv_at hl 1 rfl) ?_
          refine va_get (D := D) (ci := 7) (v := .ref a_left) (C := RX8) (T := TX8) (N := 4) hx hb hts u_X8 hown hK hP 0 rfl rfl 1 (by decide) k_f1 (fun _ h9 => h9) rfl dX8_layOutChoice_57 ?_
          refine lv_iload hx hb dX8_layOutChoice_60 (lv_at hl 0 rfl) ?_
          refine lv_aload_n hx hb dX8_layOutChoice_62 rfl (lv_at hl 1 rfl) ?_
          refine va_get (D := D) (ci := 7) (v := .ref a_left) (C := RX8) (T := TX8) (N := 4) hx hb hts u_X8 hown hK hP 0 rfl rfl 1 (by decide) k_f1 (fun _ h9 => h9) rfl dX8_layOutChoice_63 ?_
          refine lv_iload hx hb dX8_layOutChoice_66 (lv_at hl 0 rfl) ?_
          obtain ⟨z_68, hc_68, h⟩ := bd_e h
          refine q_iS (As := [.ref a_left, .int ((10 * p1) + x39_l3)]) (rest := [.int ((10 * p1) + x39_l3), .ref a_left]) (wF := [(a_o, .inr (7, [.ref a_values, .ref a_left, .int o_choices, .int o_worlds])), (a_values, .inl (cI, 3, .inl f_values)), (a_left, .inl (cI, 30, .inl x39_f_left))]) hF hA hZ hK hP hD hS (c_X4_at l D cI cB cZ a_left 30 x39_f_left ((10 * p1) + x39_l3) z_68 hc_68) rfl gX8_layOutChoice_X4_at hdX4_at ⟨rfl, rfl⟩ (Nat.le_of_ble_eq_true rfl) (Nat.le_of_ble_eq_true rfl) [2] [0, 1] rfl rfl rfl rfl (by decide) rfl hl.1 rfl (Nat.le_of_ble_eq_true rfl) (Nat.zero_le _) (Nat.zero_le _) dX8_layOutChoice_68 (fun H locs hP hD hS => ?_)
          refine lv_iconst (v := 1) hx hb dX8_layOutChoice_71 ic_1 ?_
          refine lv_iload hx hb dX8_layOutChoice_72 (lv_at hl 6 rfl) ?_
          refine lv_ishl hx hb dX8_layOutChoice_74 ?_
          refine lv_ior hx hb dX8_layOutChoice_75 ?_
          obtain ⟨z_76, hc_76, h⟩ := bd_e h
          refine q_vS (As := [.ref a_left, .int ((10 * p1) + x39_l3), .int (z_68 ||| (1 <<< (x39_l5 &&& 31)))]) (rest := []) (wF := [(a_o, .inr (7, [.ref a_values, .ref a_left, .int o_choices, .int o_worlds])), (a_values, .inl (cI, 3, .inl f_values)), (a_left, .inl (cI, 30, .inl z_76))]) hF hA hZ hK hP hD hS (c_X4_put l D cI cB cZ a_left 30 x39_f_left ((10 * p1) + x39_l3) (z_68 ||| (1 <<< (x39_l5 &&& 31))) z_76 hc_76) rfl gX8_layOutChoice_X4_put hdX4_put ⟨rfl, rfl⟩ (Nat.le_of_ble_eq_true rfl) (Nat.le_of_ble_eq_true rfl) [2] [0, 1] rfl rfl rfl rfl (by decide) rfl hl.1 rfl (Nat.le_of_ble_eq_true rfl) (Nat.zero_le _) (Nat.zero_le _) dX8_layOutChoice_76 (fun H locs hP hD hS => ?_)
          refine lv_iinc (v := x39_l4 + 1) (lv' := [(4, .int (x39_l4 + 1)), (6, .int ((10 * p1) + x39_l3)), (0, .ref a_o), (1, .int p1), (2, .int p2), (3, .int x39_l3), (5, .int x39_l5)]) hx hb dX8_layOutChoice_79 hl (k := 5) rfl (congrArg (x39_l4 + ·) ic_1) (by decide) rfl (fun ls hl => ?_)
          refine lv_iload hx hb dX8_layOutChoice_82 (lv_at hl 0 rfl) ?_
          refine lv_iload_n hx hb dX8_layOutChoice_84 rfl (lv_at hl 4 rfl) ?_
          obtain ⟨j110, hj110, h⟩ := jn_e h
          have Jj110 : ∀ (x110_l3 : Int32) (x110_l4 : Int32) (H : Heap) (locs : List Loc) (ls : Array Slot), j110 x110_l3 x110_l4 = some z → va_P D vwCl [(a_o, .inr (7, [.ref a_values, .ref a_left, .int o_choices, .int o_worlds])), (a_values, .inl (cI, 3, .inl f_values)), (a_left, .inl (cI, 30, .inl z_76))] H → va_D A [(a_o, .inr (7, [.ref a_values, .ref a_left, .int o_choices, .int o_worlds])), (a_values, .inl (cI, 3, .inl f_values)), (a_left, .inl (cI, 30, .inl z_76))] → va_S A s.heap H locs → lv_has ls 7 [(0, .ref a_o), (1, .int p1), (2, .int p2), (3, .int x110_l3), (4, .int x110_l4), (5, .int x39_l5)] → W p l e rmX8_layOutChoice s m args below meth c H locs 0 0 Q (F0 m 110 ls []) := by
            intro x110_l3 x110_l4 H locs ls h hP hD hS hl
            rw [hj110] at h
            refine lv_iinc (v := x39_l5 + 1) (lv' := [(5, .int (x39_l5 + 1)), (0, .ref a_o), (1, .int p1), (2, .int p2), (3, .int x110_l3), (4, .int x110_l4)]) hx hb dX8_layOutChoice_110 hl (k := 5) rfl (congrArg (x39_l5 + ·) ic_1) (by decide) rfl (fun ls hl => ?_)
            refine lv_goto (tgt := 39) hx hb dX8_layOutChoice_113 (by decide) ?_
            exact ih39 x110_l3 x110_l4 (x39_l5 + 1) z_76 H locs ls h hP hD hS (lv_sub hl [1, 2, 3, 4, 5, 0] rfl)
          refine lv_icmp_ne (tgt := 110) hx hb dX8_layOutChoice_85 (by decide) (fun c_85 => ?_) (fun c_85 => ?_)
          · replace h := if_e c_85 h
            exact Jj110 x39_l3 (x39_l4 + 1) H locs ls h hP hD hS (lv_sub hl [2, 3, 4, 5, 0, 6] rfl)
          · replace h := it_e c_85 h
            refine lv_iconst (v := 0) hx hb dX8_layOutChoice_88 ic_0 ?_
            refine lv_istore (lv' := [(4, .int 0), (6, .int ((10 * p1) + x39_l3)), (0, .ref a_o), (1, .int p1), (2, .int p2), (3, .int x39_l3), (5, .int x39_l5)]) hx hb dX8_layOutChoice_89 hl (by decide) rfl (fun ls hl => ?_)
            refine lv_iload_n hx hb dX8_layOutChoice_91 rfl (lv_at hl 5 rfl) ?_
            refine lv_iconst (v := 1) hx hb dX8_layOutChoice_92 ic_1 ?_
            refine lv_iadd hx hb dX8_layOutChoice_93 ?_
            refine lv_aload_n hx hb dX8_layOutChoice_94 rfl (lv_at hl 2 rfl) ?_
            refine lv_iload_n hx hb dX8_layOutChoice_95 rfl (lv_at hl 3 rfl) ?_
            obtain ⟨z_96, hc_96, h⟩ := bd_e h
            refine q_iV (As := [.int p1]) (rest := [.int (x39_l3 + 1)]) (wF := [(a_left, .inl (cI, 30, .inl z_76)), (a_o, .inr (7, [.ref a_values, .ref a_left, .int o_choices, .int o_worlds])), (a_values, .inl (cI, 3, .inl f_values))]) hF hA hZ hK hP hD hS (c_X8_valuesOf l D cI cB cZ a_o (.ref a_left) o_choices o_worlds a_values f_values p1 z_96 hc_96) rfl gX8_layOutChoice_X8_valuesOf hdX8_valuesOf ⟨rfl, rfl⟩ (Nat.le_of_ble_eq_true rfl) (Nat.le_of_ble_eq_true rfl) 7 0 rfl rfl [0, 1] [2] rfl rfl rfl rfl (by decide) rfl hl.1 rfl (Nat.le_of_ble_eq_true rfl) (Nat.zero_le _) (Nat.zero_le _) dX8_layOutChoice_96 (fun H locs hP hD hS => ?_)
            obtain ⟨j109, hj109, h⟩ := jn_e h
            have Jj109 : ∀ (x109_s0 : Int32) (H : Heap) (locs : List Loc) (ls : Array Slot), j109 x109_s0 = some z → va_P D vwCl [(a_left, .inl (cI, 30, .inl z_76)), (a_o, .inr (7, [.ref a_values, .ref a_left, .int o_choices, .int o_worlds])), (a_values, .inl (cI, 3, .inl f_values))] H → va_D A [(a_left, .inl (cI, 30, .inl z_76)), (a_o, .inr (7, [.ref a_values, .ref a_left, .int o_choices, .int o_worlds])), (a_values, .inl (cI, 3, .inl f_values))] → va_S A s.heap H locs → lv_has ls 7 [(0, .ref a_o), (1, .int p1), (2, .int p2), (4, .int 0), (5, .int x39_l5)] → W p l e rmX8_layOutChoice s m args below meth c H locs 0 0 Q (F0 m 109 ls [.int x109_s0]) := by
              intro x109_s0 H locs ls h hP hD hS hl
              rw [hj109] at h
              refine lv_istore_n (lv' := [(3, .int x109_s0), (0, .ref a_o), (1, .int p1), (2, .int p2), (4, .int 0), (5, .int x39_l5)]) hx hb dX8_layOutChoice_109 rfl hl (by decide) rfl (fun ls hl => ?_)
              exact Jj110 x109_s0 0 H locs ls h (hP.sub [1, 2, 0] rfl) (hD.sub [1, 2, 0] (by decide) rfl) hS (lv_sub hl [1, 2, 3, 0, 4, 5] rfl)
            refine lv_icmp_ge (tgt := 108) hx hb dX8_layOutChoice_99 (by decide) (fun c_99 => ?_) (fun c_99 => ?_)
            · replace h := it_e c_99 h
              refine lv_iconst (v := 0) hx hb dX8_layOutChoice_108 ic_0 ?_
              exact Jj109 0 H locs ls h hP hD hS (lv_sub hl [2, 3, 4, 0, 6] rfl)
            · replace h := if_e c_99 h
              refine lv_iload_n hx hb dX8_layOutChoice_102 rfl (lv_at hl 5 rfl) ?_
              refine lv_iconst (v := 1) hx hb dX8_layOutChoice_103 ic_1 ?_
              refine lv_iadd hx hb dX8_layOutChoice_104 ?_
              refine lv_goto (tgt := 109) hx hb dX8_layOutChoice_105 (by decide) ?_
              exact Jj109 (x39_l3 + 1) H locs ls h hP hD hS (lv_sub hl [2, 3, 4, 0, 6] rfl)
    exact L39 QF 0 0 0 x31_f_left H locs ls h hP hD hS (lv_sub hl [3, 4, 5, 2, 1, 0] rfl)
  have L2 : ∀ (n : Nat), ∀ (x2_l3 : Int32) (x2_f_left : (Nat → Int32)) (H : Heap) (locs : List Loc) (ls : Array Slot), P_X8_layOutChoice_2 p1 o_choices f_values k31 n x2_l3 x2_f_left = some z → va_P D vwCl [(a_o, .inr (7, [.ref a_values, .ref a_left, .int o_choices, .int o_worlds])), (a_values, .inl (cI, 3, .inl f_values)), (a_left, .inl (cI, 30, .inl x2_f_left))] H → va_D A [(a_o, .inr (7, [.ref a_values, .ref a_left, .int o_choices, .int o_worlds])), (a_values, .inl (cI, 3, .inl f_values)), (a_left, .inl (cI, 30, .inl x2_f_left))] → va_S A s.heap H locs → lv_has ls 7 [(0, .ref a_o), (1, .int p1), (2, .int p2), (3, .int x2_l3)] → W p l e rmX8_layOutChoice s m args below meth c H locs 0 0 Q (F0 m 2 ls []) := by
    intro n
    induction n with
    | zero =>
      intro x2_l3 x2_f_left H locs ls h
      exact no_e h
    | succ n ih2 =>
      intro x2_l3 x2_f_left H locs ls h hP hD hS hl
      rw [P_X8_layOutChoice_2] at h
      refine lv_iload_n hx hb dX8_layOutChoice_2 rfl (lv_at hl 3 rfl) ?_
      refine lv_aload_n hx hb dX8_layOutChoice_3 rfl (lv_at hl 0 rfl) ?_
      refine lv_iload_n hx hb dX8_layOutChoice_4 rfl (lv_at hl 1 rfl) ?_
      obtain ⟨z_5, hc_5, h⟩ := bd_e h
      refine q_iV (As := [.int p1]) (rest := [.int x2_l3]) (wF := [(a_left, .inl (cI, 30, .inl x2_f_left)), (a_o, .inr (7, [.ref a_values, .ref a_left, .int o_choices, .int o_worlds])), (a_values, .inl (cI, 3, .inl f_values))]) hF hA hZ hK hP hD hS (c_X8_valuesOf l D cI cB cZ a_o (.ref a_left) o_choices o_worlds a_values f_values p1 z_5 hc_5) rfl gX8_layOutChoice_X8_valuesOf hdX8_valuesOf ⟨rfl, rfl⟩ (Nat.le_of_ble_eq_true rfl) (Nat.le_of_ble_eq_true rfl) 7 0 rfl rfl [0, 1] [2] rfl rfl rfl rfl (by decide) rfl hl.1 rfl (Nat.le_of_ble_eq_true rfl) (Nat.zero_le _) (Nat.zero_le _) dX8_layOutChoice_5 (fun H locs hP hD hS => ?_)
      refine lv_icmp_ge (tgt := 31) hx hb dX8_layOutChoice_8 (by decide) (fun c_8 => ?_) (fun c_8 => ?_)
      · replace h := it_e c_8 h
        exact Jk31 x2_f_left H locs ls h (hP.sub [1, 2, 0] rfl) (hD.sub [1, 2, 0] (by decide) rfl) hS (lv_sub hl [0, 1, 2] rfl)
      · replace h := if_e c_8 h
        refine lv_aload_n hx hb dX8_layOutChoice_11 rfl (lv_at hl 0 rfl) ?_
        refine va_get (D := D) (ci := 7) (v := .ref a_left) (C := RX8) (T := TX8) (N := 4) hx hb hts u_X8 hown hK hP 1 rfl rfl 1 (by decide) k_f1 (fun _ h9 => h9) rfl dX8_layOutChoice_12 ?_
        refine lv_bipush (v := 10) hx hb dX8_layOutChoice_15 bc_10 ?_
        refine lv_iload_n hx hb dX8_layOutChoice_17 rfl (lv_at hl 1 rfl) ?_
        refine lv_imul hx hb dX8_layOutChoice_18 ?_
        refine lv_iload_n hx hb dX8_layOutChoice_19 rfl (lv_at hl 3 rfl) ?_
        refine lv_iadd hx hb dX8_layOutChoice_20 ?_
        refine lv_iconst (v := 0) hx hb dX8_layOutChoice_21 ic_0 ?_
        obtain ⟨z_22, hc_22, h⟩ := bd_e h
        refine q_vS (As := [.ref a_left, .int ((10 * p1) + x2_l3), .int 0]) (rest := []) (wF := [(a_o, .inr (7, [.ref a_values, .ref a_left, .int o_choices, .int o_worlds])), (a_values, .inl (cI, 3, .inl f_values)), (a_left, .inl (cI, 30, .inl z_22))]) hF hA hZ hK hP hD hS (c_X4_put l D cI cB cZ a_left 30 x2_f_left ((10 * p1) + x2_l3) 0 z_22 hc_22) rfl gX8_layOutChoice_X4_put hdX4_put ⟨rfl, rfl⟩ (Nat.le_of_ble_eq_true rfl) (Nat.le_of_ble_eq_true rfl) [0] [1, 2] rfl rfl rfl rfl (by decide) rfl hl.1 rfl (Nat.le_of_ble_eq_true rfl) (Nat.zero_le _) (Nat.zero_le _) dX8_layOutChoice_22 (fun H locs hP hD hS => ?_)
        refine lv_iinc (v := x2_l3 + 1) (lv' := [(3, .int (x2_l3 + 1)), (0, .ref a_o), (1, .int p1), (2, .int p2)]) hx hb dX8_layOutChoice_25 hl (k := 3) rfl (congrArg (x2_l3 + ·) ic_1) (by decide) rfl (fun ls hl => ?_)
        refine lv_goto (tgt := 2) hx hb dX8_layOutChoice_28 (by decide) ?_
        exact ih2 (x2_l3 + 1) z_22 H locs ls h hP hD hS (lv_sub hl [1, 2, 3, 0] rfl)
  exact L2 QF 0 f_left H locs ls h hP hD hS (lv_sub hl [1, 2, 3, 0] rfl)
abbrev rmX8_layOut : Room := { frames := 3, cells := 0, slots := 0, locals := 68 }
theorem hdX8_layOut : yX8_layOut.cls = RX8 ∧ yX8_layOut.cls ≠ "java/lang/invoke/MethodHandle" ∧ yX8_layOut.cls ≠ "java/lang/invoke/VarHandle" ∧ (parseMethodDescriptor yX8_layOut.desc).map (fun d => d.parameters.length) = some 0 := by decide +kernel
set_option maxRecDepth 100000 in
set_option maxHeartbeats 4000000 in
theorem c_X8_layOut (l : Launch) (D : va_G) (cI cB cZ : ClassId) (a_o : Nat) (o_choices : Int32) (o_worlds : Int32) (a_values : Nat) (f_values : Nat → Int32) (a_left : Nat) (f_left : Nat → Int32) (z : (Nat → Int32)) (h : P_X8_layOut o_choices o_worlds f_values f_left = some z) : KV l yX8_layOut wsX8_layOut rmX8_layOut D [(cI, .int), (cB, .byte), (cZ, .boolean)] [.ref a_o] [(a_o, .inr (7, [.ref a_values, .ref a_left, .int o_choices, .int o_worlds])), (a_values, .inl (cI, 3, .inl f_values)), (a_left, .inl (cI, 30, .inl f_left))] [(a_o, .inr (7, [.ref a_values, .ref a_left, .int o_choices, .int o_worlds])), (a_values, .inl (cI, 3, .inl f_values)), (a_left, .inl (cI, 30, .inl z))] := by
  refine KV_of (own := RX8) (cc := cX8_layOut) (maxL := 3) (by decide) rfl rfl (Nat.le_of_ble_eq_true rfl) ?_
  intro p e s m args below meth c A Q hx hb hml hown hts hA hZ hK hret H locs ls hP hD hS hl
  have hl : lv_has ls 3 [(0, .ref a_o)] := hl
  have hF : CallFix p m c cX8_layOut 3 s args wsX8_layOut RX8 := ⟨hx, hb, hml, hown, hts⟩
  have u_X8 : ∀ w ∈ u_ws RX8 TX8 4, w ∈ wsX8_layOut := by decide +kernel
  have k_f0 := hts (.fieldLink RX8 16 "NoWordNo$Tongue" "choices" "I") (by decide +kernel)
  unfold P_X8_layOut at h
  refine lv_iconst (v := 1) hx hb dX8_layOut_0 ic_1 ?_
  refine lv_istore_n (lv' := [(1, .int 1), (0, .ref a_o)]) hx hb dX8_layOut_1 rfl hl (by decide) rfl (fun ls hl => ?_)
  refine lv_iconst (v := 0) hx hb dX8_layOut_2 ic_0 ?_
  refine lv_istore_n (lv' := [(2, .int 0), (1, .int 1), (0, .ref a_o)]) hx hb dX8_layOut_3 rfl hl (by decide) rfl (fun ls hl => ?_)
  have L4 : ∀ (n : Nat), ∀ (x4_l1 : Int32) (x4_l2 : Int32) (x4_f_left : (Nat → Int32)) (H : Heap) (locs : List Loc) (ls : Array Slot), P_X8_layOut_4 o_choices o_worlds f_values n x4_l1 x4_l2 x4_f_left = some z → va_P D vwCl [(a_o, .inr (7, [.ref a_values, .ref a_left, .int o_choices, .int o_worlds])), (a_values, .inl (cI, 3, .inl f_values)), (a_left, .inl (cI, 30, .inl x4_f_left))] H → va_D A [(a_o, .inr (7, [.ref a_values, .ref a_left, .int o_choices, .int o_worlds])), (a_values, .inl (cI, 3, .inl f_values)), (a_left, .inl (cI, 30, .inl x4_f_left))] → va_S A s.heap H locs → lv_has ls 3 [(0, .ref a_o), (1, .int x4_l1), (2, .int x4_l2)] → W p l e rmX8_layOut s m args below meth c H locs 0 0 Q (F0 m 4 ls []) := by
    intro n
    induction n with
    | zero =>
      intro x4_l1 x4_l2 x4_f_left H locs ls h
      exact no_e h
    | succ n ih4 =>
      intro x4_l1 x4_l2 x4_f_left H locs ls h hP hD hS hl
      rw [P_X8_layOut_4] at h
      refine lv_iload_n hx hb dX8_layOut_4 rfl (lv_at hl 2 rfl) ?_
      refine lv_aload_n hx hb dX8_layOut_5 rfl (lv_at hl 0 rfl) ?_
      refine va_get (D := D) (ci := 7) (v := .int o_choices) (C := RX8) (T := TX8) (N := 4) hx hb hts u_X8 hown hK hP 0 rfl rfl 2 (by decide) k_f0 (fun _ h9 => h9) rfl dX8_layOut_6 ?_
      refine lv_icmp_ge (tgt := 32) hx hb dX8_layOut_9 (by decide) (fun c_9 => ?_) (fun c_9 => ?_)
      · replace h := it_e c_9 h
        have hz := Option.some.inj h
        subst hz
        exact hret H locs 32 ls hP hD hS dX8_layOut_32
      · replace h := if_e c_9 h
        refine lv_aload_n hx hb dX8_layOut_12 rfl (lv_at hl 0 rfl) ?_
        refine lv_iload_n hx hb dX8_layOut_13 rfl (lv_at hl 2 rfl) ?_
        refine lv_iload_n hx hb dX8_layOut_14 rfl (lv_at hl 1 rfl) ?_
        obtain ⟨z_15, hc_15, h⟩ := bd_e h
        refine q_vV (As := [.int x4_l2, .int x4_l1]) (rest := []) (wF := [(a_o, .inr (7, [.ref a_values, .ref a_left, .int o_choices, .int o_worlds])), (a_values, .inl (cI, 3, .inl f_values)), (a_left, .inl (cI, 30, .inl z_15))]) hF hA hZ hK hP hD hS (c_X8_layOutChoice l D cI cB cZ a_o o_choices o_worlds a_values f_values a_left x4_f_left x4_l2 x4_l1 z_15 hc_15) rfl gX8_layOut_X8_layOutChoice hdX8_layOutChoice ⟨rfl, rfl⟩ (Nat.le_of_ble_eq_true rfl) (Nat.le_of_ble_eq_true rfl) 7 0 rfl rfl [0, 1, 2] [] rfl rfl rfl rfl (by decide) rfl hl.1 rfl (Nat.le_of_ble_eq_true rfl) (Nat.zero_le _) (Nat.zero_le _) dX8_layOut_15 (fun H locs hP hD hS => ?_)
        refine lv_iload_n hx hb dX8_layOut_18 rfl (lv_at hl 1 rfl) ?_
        refine lv_aload_n hx hb dX8_layOut_19 rfl (lv_at hl 0 rfl) ?_
        refine lv_iload_n hx hb dX8_layOut_20 rfl (lv_at hl 2 rfl) ?_
        obtain ⟨z_21, hc_21, h⟩ := bd_e h
        refine q_iV (As := [.int x4_l2]) (rest := [.int x4_l1]) (wF := [(a_left, .inl (cI, 30, .inl z_15)), (a_o, .inr (7, [.ref a_values, .ref a_left, .int o_choices, .int o_worlds])), (a_values, .inl (cI, 3, .inl f_values))]) hF hA hZ hK hP hD hS (c_X8_valuesOf l D cI cB cZ a_o (.ref a_left) o_choices o_worlds a_values f_values x4_l2 z_21 hc_21) rfl gX8_layOut_X8_valuesOf hdX8_valuesOf ⟨rfl, rfl⟩ (Nat.le_of_ble_eq_true rfl) (Nat.le_of_ble_eq_true rfl) 7 0 rfl rfl [0, 1] [2] rfl rfl rfl rfl (by decide) rfl hl.1 rfl (Nat.le_of_ble_eq_true rfl) (Nat.zero_le _) (Nat.zero_le _) dX8_layOut_21 (fun H locs hP hD hS => ?_)
        refine lv_imul hx hb dX8_layOut_24 ?_
        refine lv_istore_n (lv' := [(1, .int (x4_l1 * z_21)), (0, .ref a_o), (2, .int x4_l2)]) hx hb dX8_layOut_25 rfl hl (by decide) rfl (fun ls hl => ?_)
        refine lv_iinc (v := x4_l2 + 1) (lv' := [(2, .int (x4_l2 + 1)), (1, .int (x4_l1 * z_21)), (0, .ref a_o)]) hx hb dX8_layOut_26 hl (k := 2) rfl (congrArg (x4_l2 + ·) ic_1) (by decide) rfl (fun ls hl => ?_)
        refine lv_goto (tgt := 4) hx hb dX8_layOut_29 (by decide) ?_
        exact ih4 (x4_l1 * z_21) (x4_l2 + 1) z_15 H locs ls h (hP.sub [1, 2, 0] rfl) (hD.sub [1, 2, 0] (by decide) rfl) hS (lv_sub hl [2, 1, 0] rfl)
  exact L4 QF 1 0 f_left H locs ls h hP hD hS (lv_sub hl [2, 1, 0] rfl)
abbrev rmX0_forget : Room := { frames := 0, cells := 0, slots := 0, locals := 0 }
theorem hdX0_forget : yX0_forget.cls = RX0 ∧ yX0_forget.cls ≠ "java/lang/invoke/MethodHandle" ∧ yX0_forget.cls ≠ "java/lang/invoke/VarHandle" ∧ (parseMethodDescriptor yX0_forget.desc).map (fun d => d.parameters.length) = some 0 := by decide +kernel
set_option maxRecDepth 100000 in
set_option maxHeartbeats 4000000 in
theorem c_X0_forget (l : Launch) (D : va_G) (cI cB cZ : ClassId) (a_o : Nat) (w_o_left : Value) (w_o_signs : Value) (w_o_wordSets : Value) (o_sayings : Int32) (o_words : Int32) (o_filled : Int32) (z : Int32 × Int32 × Int32) (h : P_X0_forget o_sayings o_words o_filled = some z) : KV l yX0_forget wsX0_forget rmX0_forget D [(cI, .int), (cB, .byte), (cZ, .boolean)] [.ref a_o] [(a_o, .inr (0, [w_o_left, w_o_signs, w_o_wordSets, .int o_sayings, .int o_words, .int o_filled]))] [(a_o, .inr (0, [w_o_left, w_o_signs, w_o_wordSets, .int z.1, .int z.2.1, .int z.2.2]))] := by
  refine KV_of (own := RX0) (cc := cX0_forget) (maxL := 1) (by decide) rfl rfl (Nat.le_of_ble_eq_true rfl) ?_
  intro p e s m args below meth c A Q hx hb hml hown hts hA hZ hK hret H locs ls hP hD hS hl
  have hl : lv_has ls 1 [(0, .ref a_o)] := hl
  have hF : CallFix p m c cX0_forget 1 s args wsX0_forget RX0 := ⟨hx, hb, hml, hown, hts⟩
  have u_X0 : ∀ w ∈ u_ws RX0 TX0 6, w ∈ wsX0_forget := by decide +kernel
  have k_f0 := hts (.fieldLink RX0 19 "NoWordNo$Kept" "sayings" "I") (by decide +kernel)
  have k_f1 := hts (.fieldLink RX0 23 "NoWordNo$Kept" "words" "I") (by decide +kernel)
  have k_f2 := hts (.fieldLink RX0 26 "NoWordNo$Kept" "filled" "Z") (by decide +kernel)
  unfold P_X0_forget at h
  refine lv_aload_n hx hb dX0_forget_0 rfl (lv_at hl 0 rfl) ?_
  refine lv_iconst (v := 0) hx hb dX0_forget_1 ic_0 ?_
  refine va_put (D := D) (ci := 0) (v := .int 0) (ty := .int) (C := RX0) (T := TX0) (N := 6) hx hb hts u_X0 tyX0 tyX0_ok nmX0 hown hK hP hD hS 0 rfl rfl 3 (by decide) k_f0 (fun _ h9 => h9) rfl (tyX0_ok 3 (by decide)) rfl rfl (Nat.le_of_ble_eq_true rfl) dX0_forget_2 (fun H locs hP hD hS => ?_)
  have hP : va_P D vwCl [(a_o, .inr (0, [w_o_left, w_o_signs, w_o_wordSets, .int 0, .int o_words, .int o_filled]))] H := hP
  have hD : va_D A [(a_o, .inr (0, [w_o_left, w_o_signs, w_o_wordSets, .int 0, .int o_words, .int o_filled]))] := hD
  refine lv_aload_n hx hb dX0_forget_5 rfl (lv_at hl 0 rfl) ?_
  refine lv_iconst (v := 0) hx hb dX0_forget_6 ic_0 ?_
  refine va_put (D := D) (ci := 0) (v := .int 0) (ty := .int) (C := RX0) (T := TX0) (N := 6) hx hb hts u_X0 tyX0 tyX0_ok nmX0 hown hK hP hD hS 0 rfl rfl 4 (by decide) k_f1 (fun _ h9 => h9) rfl (tyX0_ok 4 (by decide)) rfl rfl (Nat.le_of_ble_eq_true rfl) dX0_forget_7 (fun H locs hP hD hS => ?_)
  have hP : va_P D vwCl [(a_o, .inr (0, [w_o_left, w_o_signs, w_o_wordSets, .int 0, .int 0, .int o_filled]))] H := hP
  have hD : va_D A [(a_o, .inr (0, [w_o_left, w_o_signs, w_o_wordSets, .int 0, .int 0, .int o_filled]))] := hD
  refine lv_aload_n hx hb dX0_forget_10 rfl (lv_at hl 0 rfl) ?_
  refine lv_iconst (v := 0) hx hb dX0_forget_11 ic_0 ?_
  refine va_put (D := D) (ci := 0) (v := .int 0) (ty := .boolean) (C := RX0) (T := TX0) (N := 6) hx hb hts u_X0 tyX0 tyX0_ok nmX0 hown hK hP hD hS 0 rfl rfl 5 (by decide) k_f2 (fun _ h9 => h9) rfl (tyX0_ok 5 (by decide)) rfl rfl (Nat.le_of_ble_eq_true rfl) dX0_forget_12 (fun H locs hP hD hS => ?_)
  have hP : va_P D vwCl [(a_o, .inr (0, [w_o_left, w_o_signs, w_o_wordSets, .int 0, .int 0, .int 0]))] H := hP
  have hD : va_D A [(a_o, .inr (0, [w_o_left, w_o_signs, w_o_wordSets, .int 0, .int 0, .int 0]))] := hD
  have hz := Option.some.inj h
  subst hz
  exact hret H locs 15 ls hP hD hS dX0_forget_15
abbrev rmX3_forget : Room := { frames := 0, cells := 0, slots := 0, locals := 0 }
theorem hdX3_forget : yX3_forget.cls = RX3 ∧ yX3_forget.cls ≠ "java/lang/invoke/MethodHandle" ∧ yX3_forget.cls ≠ "java/lang/invoke/VarHandle" ∧ (parseMethodDescriptor yX3_forget.desc).map (fun d => d.parameters.length) = some 0 := by decide +kernel
set_option maxRecDepth 100000 in
set_option maxHeartbeats 4000000 in
theorem c_X3_forget (l : Launch) (D : va_G) (cI cB cZ : ClassId) (a_o : Nat) (w_o_tongue : Value) (w_o_tried : Value) (o_sign : Int32) (o_sum : Int32) (o_known : Int32) (z : Int32) (h : P_X3_forget o_known = some z) : KV l yX3_forget wsX3_forget rmX3_forget D [(cI, .int), (cB, .byte), (cZ, .boolean)] [.ref a_o] [(a_o, .inr (3, [w_o_tongue, w_o_tried, .int o_sign, .int o_sum, .int o_known]))] [(a_o, .inr (3, [w_o_tongue, w_o_tried, .int o_sign, .int o_sum, .int z]))] := by
  refine KV_of (own := RX3) (cc := cX3_forget) (maxL := 1) (by decide) rfl rfl (Nat.le_of_ble_eq_true rfl) ?_
  intro p e s m args below meth c A Q hx hb hml hown hts hA hZ hK hret H locs ls hP hD hS hl
  have hl : lv_has ls 1 [(0, .ref a_o)] := hl
  have hF : CallFix p m c cX3_forget 1 s args wsX3_forget RX3 := ⟨hx, hb, hml, hown, hts⟩
  have u_X3 : ∀ w ∈ u_ws RX3 TX3 5, w ∈ wsX3_forget := by decide +kernel
  have k_f0 := hts (.fieldLink RX3 16 "NoWordNo$Refusals" "known" "Z") (by decide +kernel)
  unfold P_X3_forget at h
  refine lv_aload_n hx hb dX3_forget_0 rfl (lv_at hl 0 rfl) ?_
  refine lv_iconst (v := 0) hx hb dX3_forget_1 ic_0 ?_
  refine va_put (D := D) (ci := 3) (v := .int 0) (ty := .boolean) (C := RX3) (T := TX3) (N := 5) hx hb hts u_X3 tyX3 tyX3_ok nmX3 hown hK hP hD hS 0 rfl rfl 4 (by decide) k_f0 (fun _ h9 => h9) rfl (tyX3_ok 4 (by decide)) rfl rfl (Nat.le_of_ble_eq_true rfl) dX3_forget_2 (fun H locs hP hD hS => ?_)
  have hP : va_P D vwCl [(a_o, .inr (3, [w_o_tongue, w_o_tried, .int o_sign, .int o_sum, .int 0]))] H := hP
  have hD : va_D A [(a_o, .inr (3, [w_o_tongue, w_o_tried, .int o_sign, .int o_sum, .int 0]))] := hD
  have hz := Option.some.inj h
  subst hz
  exact hret H locs 5 ls hP hD hS dX3_forget_5
abbrev rmX10_signsChanged : Room := { frames := 1, cells := 0, slots := 0, locals := 20 }
theorem hdX10_signsChanged : yX10_signsChanged.cls = RX10 ∧ yX10_signsChanged.cls ≠ "java/lang/invoke/MethodHandle" ∧ yX10_signsChanged.cls ≠ "java/lang/invoke/VarHandle" ∧ (parseMethodDescriptor yX10_signsChanged.desc).map (fun d => d.parameters.length) = some 0 := by decide +kernel
set_option maxRecDepth 100000 in
set_option maxHeartbeats 4000000 in
theorem c_X10_signsChanged (l : Launch) (D : va_G) (cI cB cZ : ClassId) (a_o : Nat) (w_o_text : Value) (w_o_speech : Value) (w_o_now : Value) (w_o_image0 : Value) (w_o_image1 : Value) (w_o_signs : Value) (w_o_reader : Value) (w_o_lengths : Value) (w_o_two : Value) (o_measured : Int32) (o_traced : Int64) (a_refusals : Nat) (w_refusals_tongue : Value) (w_refusals_tried : Value) (refusals_sign : Int32) (refusals_sum : Int32) (refusals_known : Int32) (z : Int32 × Int32) (h : P_X10_signsChanged o_measured refusals_known = some z) : KV l yX10_signsChanged wsX10_signsChanged rmX10_signsChanged D [(cI, .int), (cB, .byte), (cZ, .boolean)] [.ref a_o] [(a_o, .inr (9, [w_o_text, w_o_speech, w_o_now, w_o_image0, w_o_image1, w_o_signs, w_o_reader, w_o_lengths, .ref a_refusals, w_o_two, .int o_measured, .long o_traced])), (a_refusals, .inr (3, [w_refusals_tongue, w_refusals_tried, .int refusals_sign, .int refusals_sum, .int refusals_known]))] [(a_o, .inr (9, [w_o_text, w_o_speech, w_o_now, w_o_image0, w_o_image1, w_o_signs, w_o_reader, w_o_lengths, .ref a_refusals, w_o_two, .int z.1, .long o_traced])), (a_refusals, .inr (3, [w_refusals_tongue, w_refusals_tried, .int refusals_sign, .int refusals_sum, .int z.2]))] := by
  refine KV_of (own := RX10) (cc := cX10_signsChanged) (maxL := 1) (by decide) rfl rfl (Nat.le_of_ble_eq_true rfl) ?_
  intro p e s m args below meth c A Q hx hb hml hown hts hA hZ hK hret H locs ls hP hD hS hl
  have hl : lv_has ls 1 [(0, .ref a_o)] := hl
  have hF : CallFix p m c cX10_signsChanged 1 s args wsX10_signsChanged RX10 := ⟨hx, hb, hml, hown, hts⟩
  have u_X10 : ∀ w ∈ u_ws RX10 TX10 12, w ∈ wsX10_signsChanged := by decide +kernel
  have k_f0 := hts (.fieldLink RX10 81 "NoWordNo" "measured" "Z") (by decide +kernel)
  have k_f1 := hts (.fieldLink RX10 68 "NoWordNo" "refusals" "LNoWordNo$Refusals;") (by decide +kernel)
  unfold P_X10_signsChanged at h
  refine lv_aload_n hx hb dX10_signsChanged_0 rfl (lv_at hl 0 rfl) ?_
  refine lv_iconst (v := 0) hx hb dX10_signsChanged_1 ic_0 ?_
  refine va_put (D := D) (ci := 9) (v := .int 0) (ty := .boolean) (C := RX10) (T := TX10) (N := 12) hx hb hts u_X10 tyX10 tyX10_ok nmX10 hown hK hP hD hS 0 rfl rfl 10 (by decide) k_f0 (fun _ h9 => h9) rfl (tyX10_ok 10 (by decide)) rfl rfl (Nat.le_of_ble_eq_true rfl) dX10_signsChanged_2 (fun H locs hP hD hS => ?_)
  have hP : va_P D vwCl [(a_o, .inr (9, [w_o_text, w_o_speech, w_o_now, w_o_image0, w_o_image1, w_o_signs, w_o_reader, w_o_lengths, .ref a_refusals, w_o_two, .int 0, .long o_traced])), (a_refusals, .inr (3, [w_refusals_tongue, w_refusals_tried, .int refusals_sign, .int refusals_sum, .int refusals_known]))] H := hP
  have hD : va_D A [(a_o, .inr (9, [w_o_text, w_o_speech, w_o_now, w_o_image0, w_o_image1, w_o_signs, w_o_reader, w_o_lengths, .ref a_refusals, w_o_two, .int 0, .long o_traced])), (a_refusals, .inr (3, [w_refusals_tongue, w_refusals_tried, .int refusals_sign, .int refusals_sum, .int refusals_known]))] := hD
  refine lv_aload_n hx hb dX10_signsChanged_5 rfl (lv_at hl 0 rfl) ?_
  refine va_get (D := D) (ci := 9) (v := .ref a_refusals) (C := RX10) (T := TX10) (N := 12) hx hb hts u_X10 hown hK hP 0 rfl rfl 8 (by decide) k_f1 (fun _ h9 => h9) rfl dX10_signsChanged_6 ?_
  obtain ⟨z_9, hc_9, h⟩ := bd_e h
  refine q_vV (As := []) (rest := []) (wF := [(a_o, .inr (9, [w_o_text, w_o_speech, w_o_now, w_o_image0, w_o_image1, w_o_signs, w_o_reader, w_o_lengths, .ref a_refusals, w_o_two, .int 0, .long o_traced])), (a_refusals, .inr (3, [w_refusals_tongue, w_refusals_tried, .int refusals_sign, .int refusals_sum, .int z_9]))]) hF hA hZ hK hP hD hS (c_X3_forget l D cI cB cZ a_refusals w_refusals_tongue w_refusals_tried refusals_sign refusals_sum refusals_known z_9 hc_9) rfl gX10_signsChanged_X3_forget hdX3_forget ⟨rfl, rfl⟩ (Nat.le_of_ble_eq_true rfl) (Nat.le_of_ble_eq_true rfl) 3 0 rfl rfl [1] [0] rfl rfl rfl rfl (by decide) rfl hl.1 rfl (Nat.le_of_ble_eq_true rfl) (Nat.zero_le _) (Nat.zero_le _) dX10_signsChanged_9 (fun H locs hP hD hS => ?_)
  have hz := Option.some.inj h
  subst hz
  exact hret H locs 12 ls hP hD hS dX10_signsChanged_12
abbrev rmX8_choices : Room := { frames := 0, cells := 0, slots := 0, locals := 0 }
theorem hdX8_choices : yX8_choices.cls = RX8 ∧ yX8_choices.cls ≠ "java/lang/invoke/MethodHandle" ∧ yX8_choices.cls ≠ "java/lang/invoke/VarHandle" ∧ (parseMethodDescriptor yX8_choices.desc).map (fun d => d.parameters.length) = some 0 := by decide +kernel
set_option maxRecDepth 100000 in
set_option maxHeartbeats 4000000 in
theorem c_X8_choices (l : Launch) (D : va_G) (cI cB cZ : ClassId) (a_o : Nat) (w_o_values : Value) (w_o_left : Value) (o_choices : Int32) (o_worlds : Int32) (z : Int32) (h : P_X8_choices o_choices = some z) : KI l yX8_choices wsX8_choices rmX8_choices D [(cI, .int), (cB, .byte), (cZ, .boolean)] [.ref a_o] [(a_o, .inr (7, [w_o_values, w_o_left, .int o_choices, .int o_worlds]))] [(a_o, .inr (7, [w_o_values, w_o_left, .int o_choices, .int o_worlds]))] z := by
  refine KI_of (own := RX8) (cc := cX8_choices) (maxL := 1) (ret := some .int) (by decide) rfl rfl (Nat.le_of_ble_eq_true rfl) (Or.inl rfl) ?_
  intro p e s m args below meth c A Q hx hb hml hown hts hA hZ hK hret H locs ls hP hD hS hl
  have hl : lv_has ls 1 [(0, .ref a_o)] := hl
  have hF : CallFix p m c cX8_choices 1 s args wsX8_choices RX8 := ⟨hx, hb, hml, hown, hts⟩
  have u_X8 : ∀ w ∈ u_ws RX8 TX8 4, w ∈ wsX8_choices := by decide +kernel
  have k_f0 := hts (.fieldLink RX8 16 "NoWordNo$Tongue" "choices" "I") (by decide +kernel)
  unfold P_X8_choices at h
  refine lv_aload_n hx hb dX8_choices_0 rfl (lv_at hl 0 rfl) ?_
  refine va_get (D := D) (ci := 7) (v := .int o_choices) (C := RX8) (T := TX8) (N := 4) hx hb hts u_X8 hown hK hP 0 rfl rfl 2 (by decide) k_f0 (fun _ h9 => h9) rfl dX8_choices_1 ?_
  have hz := Option.some.inj h
  subst hz
  exact hret H locs 4 ls (fun ty h => by cases h; rfl) hP hD hS dX8_choices_4
abbrev rmX10_tongue : Room := { frames := 7, cells := 0, slots := 0, locals := 150 }
theorem hdX10_tongue : yX10_tongue.cls = RX10 ∧ yX10_tongue.cls ≠ "java/lang/invoke/MethodHandle" ∧ yX10_tongue.cls ≠ "java/lang/invoke/VarHandle" ∧ (parseMethodDescriptor yX10_tongue.desc).map (fun d => d.parameters.length) = some 0 := by decide +kernel
set_option maxRecDepth 100000 in
set_option maxHeartbeats 4000000 in
theorem c_X10_tongue (l : Launch) (D : va_G) (cI cB cZ : ClassId) (a_o : Nat) (w_o_signs : Value) (w_o_lengths : Value) (w_o_two : Value) (o_measured : Int32) (o_traced : Int64) (a_text : Nat) (text_size : Int32) (a_text_bytes : Nat) (f_text_bytes : Nat → Int32) (a_speech : Nat) (speech_choices : Int32) (speech_worlds : Int32) (a_speech_values : Nat) (f_speech_values : Nat → Int32) (a_speech_left : Nat) (f_speech_left : Nat → Int32) (a_now : Nat) (w_now_left : Value) (w_now_signs : Value) (w_now_wordSets : Value) (now_sayings : Int32) (now_words : Int32) (now_filled : Int32) (a_image0 : Nat) (w_image0_left : Value) (w_image0_signs : Value) (w_image0_wordSets : Value) (image0_sayings : Int32) (image0_words : Int32) (image0_filled : Int32) (a_image1 : Nat) (w_image1_left : Value) (w_image1_signs : Value) (w_image1_wordSets : Value) (image1_sayings : Int32) (image1_words : Int32) (image1_filled : Int32) (a_reader : Nat) (w_reader_signs : Value) (reader_choices : Int32) (w_reader_termsLeft : Value) (w_reader_factorsLeft : Value) (reader_depth : Int32) (reader_many : Int32) (reader_factorDue : Int32) (a_reader_tokens : Nat) (reader_tokens_next : Int32) (reader_tokens_place : Int32) (reader_tokens_kind : Int32) (a_reader_values : Nat) (f_reader_values : Nat → Int32) (a_refusals : Nat) (w_refusals_tried : Value) (refusals_sign : Int32) (refusals_sum : Int32) (refusals_known : Int32) (z : Int32 × Int32 × Int32 × Int32 × Int32 × (Nat → Int32) × (Nat → Int32) × Int32 × Int32 × Int32 × Int32 × Int32 × Int32 × Int32 × Int32 × Int32 × Int32 × Int32 × Int32 × Int32 × (Nat → Int32) × Int32) (h : P_X10_tongue o_measured text_size f_text_bytes speech_choices speech_worlds f_speech_values f_speech_left now_sayings now_words now_filled image0_sayings image0_words image0_filled image1_sayings image1_words image1_filled reader_choices reader_tokens_next reader_tokens_place reader_tokens_kind f_reader_values refusals_known = some z) : KI l yX10_tongue wsX10_tongue rmX10_tongue D [(cI, .int), (cB, .byte), (cZ, .boolean)] [.ref a_o] [(a_o, .inr (9, [.ref a_text, .ref a_speech, .ref a_now, .ref a_image0, .ref a_image1, w_o_signs, .ref a_reader, w_o_lengths, .ref a_refusals, w_o_two, .int o_measured, .long o_traced])), (a_text, .inr (5, [.ref a_text_bytes, .int text_size])), (a_text_bytes, .inl (cI, 200, .inl f_text_bytes)), (a_speech, .inr (7, [.ref a_speech_values, .ref a_speech_left, .int speech_choices, .int speech_worlds])), (a_speech_values, .inl (cI, 3, .inl f_speech_values)), (a_speech_left, .inl (cI, 30, .inl f_speech_left)), (a_now, .inr (0, [w_now_left, w_now_signs, w_now_wordSets, .int now_sayings, .int now_words, .int now_filled])), (a_image0, .inr (0, [w_image0_left, w_image0_signs, w_image0_wordSets, .int image0_sayings, .int image0_words, .int image0_filled])), (a_image1, .inr (0, [w_image1_left, w_image1_signs, w_image1_wordSets, .int image1_sayings, .int image1_words, .int image1_filled])), (a_reader, .inr (2, [.ref a_reader_tokens, w_reader_signs, .ref a_reader_values, .int reader_choices, w_reader_termsLeft, w_reader_factorsLeft, .int reader_depth, .int reader_many, .int reader_factorDue])), (a_reader_tokens, .inr (6, [.ref a_text, .int reader_tokens_next, .int reader_tokens_place, .int reader_tokens_kind])), (a_reader_values, .inl (cI, 3, .inl f_reader_values)), (a_refusals, .inr (3, [.ref a_speech, w_refusals_tried, .int refusals_sign, .int refusals_sum, .int refusals_known]))] [(a_o, .inr (9, [.ref a_text, .ref a_speech, .ref a_now, .ref a_image0, .ref a_image1, w_o_signs, .ref a_reader, w_o_lengths, .ref a_refusals, w_o_two, .int z.2.1, .long o_traced])), (a_text, .inr (5, [.ref a_text_bytes, .int z.2.2.1])), (a_text_bytes, .inl (cI, 200, .inl f_text_bytes)), (a_speech, .inr (7, [.ref a_speech_values, .ref a_speech_left, .int z.2.2.2.1, .int z.2.2.2.2.1])), (a_speech_values, .inl (cI, 3, .inl z.2.2.2.2.2.1)), (a_speech_left, .inl (cI, 30, .inl z.2.2.2.2.2.2.1)), (a_now, .inr (0, [w_now_left, w_now_signs, w_now_wordSets, .int z.2.2.2.2.2.2.2.1, .int z.2.2.2.2.2.2.2.2.1, .int z.2.2.2.2.2.2.2.2.2.1])), (a_image0, .inr (0, [w_image0_left, w_image0_signs, w_image0_wordSets, .int z.2.2.2.2.2.2.2.2.2.2.1, .int z.2.2.2.2.2.2.2.2.2.2.2.1, .int z.2.2.2.2.2.2.2.2.2.2.2.2.1])), (a_image1, .inr (0, [w_image1_left, w_image1_signs, w_image1_wordSets, .int z.2.2.2.2.2.2.2.2.2.2.2.2.2.1, .int z.2.2.2.2.2.2.2.2.2.2.2.2.2.2.1, .int z.2.2.2.2.2.2.2.2.2.2.2.2.2.2.2.1])), (a_reader, .inr (2, [.ref a_reader_tokens, w_reader_signs, .ref a_reader_values, .int z.2.2.2.2.2.2.2.2.2.2.2.2.2.2.2.2.1, w_reader_termsLeft, w_reader_factorsLeft, .int reader_depth, .int reader_many, .int reader_factorDue])), (a_reader_tokens, .inr (6, [.ref a_text, .int z.2.2.2.2.2.2.2.2.2.2.2.2.2.2.2.2.2.1, .int z.2.2.2.2.2.2.2.2.2.2.2.2.2.2.2.2.2.2.1, .int z.2.2.2.2.2.2.2.2.2.2.2.2.2.2.2.2.2.2.2.1])), (a_reader_values, .inl (cI, 3, .inl z.2.2.2.2.2.2.2.2.2.2.2.2.2.2.2.2.2.2.2.2.1)), (a_refusals, .inr (3, [.ref a_speech, w_refusals_tried, .int refusals_sign, .int refusals_sum, .int z.2.2.2.2.2.2.2.2.2.2.2.2.2.2.2.2.2.2.2.2.2]))] z.1 := by
  refine KI_of (own := RX10) (cc := cX10_tongue) (maxL := 3) (ret := some .int) (by decide) rfl rfl (Nat.le_of_ble_eq_true rfl) (Or.inl rfl) ?_
  intro p e s m args below meth c A Q hx hb hml hown hts hA hZ hK hret H locs ls hP hD hS hl
  have hl : lv_has ls 3 [(0, .ref a_o)] := hl
  have hF : CallFix p m c cX10_tongue 3 s args wsX10_tongue RX10 := ⟨hx, hb, hml, hown, hts⟩
  have u_X10 : ∀ w ∈ u_ws RX10 TX10 12, w ∈ wsX10_tongue := by decide +kernel
  have k_f0 := hts (.fieldLink RX10 50 "NoWordNo" "reader" "LNoWordNo$Reader;") (by decide +kernel)
  have k_f1 := hts (.fieldLink RX10 19 "NoWordNo" "speech" "LNoWordNo$Tongue;") (by decide +kernel)
  have k_f2 := hts (.fieldLink RX10 10 "NoWordNo" "text" "LNoWordNo$Text;") (by decide +kernel)
  have k_f3 := hts (.fieldLink RX10 26 "NoWordNo" "now" "LNoWordNo$Kept;") (by decide +kernel)
  have k_f4 := hts (.fieldLink RX10 30 "NoWordNo" "image0" "LNoWordNo$Kept;") (by decide +kernel)
  have k_f5 := hts (.fieldLink RX10 33 "NoWordNo" "image1" "LNoWordNo$Kept;") (by decide +kernel)
  unfold P_X10_tongue at h
  refine lv_aload_n hx hb dX10_tongue_0 rfl (lv_at hl 0 rfl) ?_
  refine va_get (D := D) (ci := 9) (v := .ref a_reader) (C := RX10) (T := TX10) (N := 12) hx hb hts u_X10 hown hK hP 0 rfl rfl 6 (by decide) k_f0 (fun _ h9 => h9) rfl dX10_tongue_1 ?_
  obtain ⟨z_4, hc_4, h⟩ := bd_e h
  refine q_iV (As := []) (rest := []) (wF := [(a_o, .inr (9, [.ref a_text, .ref a_speech, .ref a_now, .ref a_image0, .ref a_image1, w_o_signs, .ref a_reader, w_o_lengths, .ref a_refusals, w_o_two, .int o_measured, .long o_traced])), (a_speech, .inr (7, [.ref a_speech_values, .ref a_speech_left, .int speech_choices, .int speech_worlds])), (a_speech_values, .inl (cI, 3, .inl f_speech_values)), (a_speech_left, .inl (cI, 30, .inl f_speech_left)), (a_now, .inr (0, [w_now_left, w_now_signs, w_now_wordSets, .int now_sayings, .int now_words, .int now_filled])), (a_image0, .inr (0, [w_image0_left, w_image0_signs, w_image0_wordSets, .int image0_sayings, .int image0_words, .int image0_filled])), (a_image1, .inr (0, [w_image1_left, w_image1_signs, w_image1_wordSets, .int image1_sayings, .int image1_words, .int image1_filled])), (a_refusals, .inr (3, [.ref a_speech, w_refusals_tried, .int refusals_sign, .int refusals_sum, .int refusals_known])), (a_reader, .inr (2, [.ref a_reader_tokens, w_reader_signs, .ref a_reader_values, .int z_4.2.1, w_reader_termsLeft, w_reader_factorsLeft, .int reader_depth, .int reader_many, .int reader_factorDue])), (a_reader_tokens, .inr (6, [.ref a_text, .int z_4.2.2.1, .int z_4.2.2.2.1, .int z_4.2.2.2.2.1])), (a_text, .inr (5, [.ref a_text_bytes, .int text_size])), (a_text_bytes, .inl (cI, 200, .inl f_text_bytes)), (a_reader_values, .inl (cI, 3, .inl z_4.2.2.2.2.2))]) hF hA hZ hK hP hD hS (c_X2_faultOfTongue l D cI cB cZ a_reader w_reader_signs reader_choices w_reader_termsLeft w_reader_factorsLeft reader_depth reader_many reader_factorDue a_reader_tokens reader_tokens_next reader_tokens_place reader_tokens_kind a_text text_size a_text_bytes f_text_bytes a_reader_values f_reader_values z_4 hc_4) rfl gX10_tongue_X2_faultOfTongue hdX2_faultOfTongue ⟨rfl, rfl⟩ (Nat.le_of_ble_eq_true rfl) (Nat.le_of_ble_eq_true rfl) 2 0 rfl rfl [9, 10, 1, 2, 11] [0, 3, 4, 5, 6, 7, 8, 12] rfl rfl rfl rfl (by decide) rfl hl.1 rfl (Nat.le_of_ble_eq_true rfl) (Nat.zero_le _) (Nat.zero_le _) dX10_tongue_4 (fun H locs hP hD hS => ?_)
  refine lv_istore_n (lv' := [(1, .int z_4.1), (0, .ref a_o)]) hx hb dX10_tongue_7 rfl hl (by decide) rfl (fun ls hl => ?_)
  refine lv_iload_n hx hb dX10_tongue_8 rfl (lv_at hl 0 rfl) ?_
  refine lv_iconst (v := (-1)) hx hb dX10_tongue_9 ic_m1 ?_
  refine lv_icmp_eq (tgt := 18) hx hb dX10_tongue_10 (by decide) (fun c_10 => ?_) (fun c_10 => ?_)
  · replace h := it_e c_10 h
    refine lv_aload_n hx hb dX10_tongue_18 rfl (lv_at hl 1 rfl) ?_
    refine va_get (D := D) (ci := 9) (v := .ref a_speech) (C := RX10) (T := TX10) (N := 12) hx hb hts u_X10 hown hK hP 0 rfl rfl 1 (by decide) k_f1 (fun _ h9 => h9) rfl dX10_tongue_19 ?_
    obtain ⟨z_22, hc_22, h⟩ := bd_e h
    refine q_vV (As := []) (rest := []) (wF := [(a_o, .inr (9, [.ref a_text, .ref a_speech, .ref a_now, .ref a_image0, .ref a_image1, w_o_signs, .ref a_reader, w_o_lengths, .ref a_refusals, w_o_two, .int o_measured, .long o_traced])), (a_speech_values, .inl (cI, 3, .inl f_speech_values)), (a_speech_left, .inl (cI, 30, .inl f_speech_left)), (a_now, .inr (0, [w_now_left, w_now_signs, w_now_wordSets, .int now_sayings, .int now_words, .int now_filled])), (a_image0, .inr (0, [w_image0_left, w_image0_signs, w_image0_wordSets, .int image0_sayings, .int image0_words, .int image0_filled])), (a_image1, .inr (0, [w_image1_left, w_image1_signs, w_image1_wordSets, .int image1_sayings, .int image1_words, .int image1_filled])), (a_refusals, .inr (3, [.ref a_speech, w_refusals_tried, .int refusals_sign, .int refusals_sum, .int refusals_known])), (a_reader, .inr (2, [.ref a_reader_tokens, w_reader_signs, .ref a_reader_values, .int z_4.2.1, w_reader_termsLeft, w_reader_factorsLeft, .int reader_depth, .int reader_many, .int reader_factorDue])), (a_reader_tokens, .inr (6, [.ref a_text, .int z_4.2.2.1, .int z_4.2.2.2.1, .int z_4.2.2.2.2.1])), (a_text, .inr (5, [.ref a_text_bytes, .int text_size])), (a_text_bytes, .inl (cI, 200, .inl f_text_bytes)), (a_reader_values, .inl (cI, 3, .inl z_4.2.2.2.2.2)), (a_speech, .inr (7, [.ref a_speech_values, .ref a_speech_left, .int z_22.1, .int z_22.2]))]) hF hA hZ hK hP hD hS (c_X8_begin l D cI cB cZ a_speech (.ref a_speech_values) (.ref a_speech_left) speech_choices speech_worlds z_22 hc_22) rfl gX10_tongue_X8_begin hdX8_begin ⟨rfl, rfl⟩ (Nat.le_of_ble_eq_true rfl) (Nat.le_of_ble_eq_true rfl) 7 0 rfl rfl [1] [0, 2, 3, 4, 5, 6, 7, 8, 9, 10, 11, 12] rfl rfl rfl rfl (by decide) rfl hl.1 rfl (Nat.le_of_ble_eq_true rfl) (Nat.zero_le _) (Nat.zero_le _) dX10_tongue_22 (fun H locs hP hD hS => ?_)
    refine lv_iconst (v := 0) hx hb dX10_tongue_25 ic_0 ?_
    refine lv_istore_n (lv' := [(2, .int 0), (1, .int z_4.1), (0, .ref a_o)]) hx hb dX10_tongue_26 rfl hl (by decide) rfl (fun ls hl => ?_)
    obtain ⟨k59, hk59, h⟩ := jn_e h
    have Jk59 : ∀ (x59_speech_choices : Int32) (x59_speech_worlds : Int32) (x59_f_speech_values : (Nat → Int32)) (H : Heap) (locs : List Loc) (ls : Array Slot), k59 x59_speech_choices x59_speech_worlds x59_f_speech_values = some z → va_P D vwCl [(a_o, .inr (9, [.ref a_text, .ref a_speech, .ref a_now, .ref a_image0, .ref a_image1, w_o_signs, .ref a_reader, w_o_lengths, .ref a_refusals, w_o_two, .int o_measured, .long o_traced])), (a_speech_values, .inl (cI, 3, .inl x59_f_speech_values)), (a_speech_left, .inl (cI, 30, .inl f_speech_left)), (a_now, .inr (0, [w_now_left, w_now_signs, w_now_wordSets, .int now_sayings, .int now_words, .int now_filled])), (a_image0, .inr (0, [w_image0_left, w_image0_signs, w_image0_wordSets, .int image0_sayings, .int image0_words, .int image0_filled])), (a_image1, .inr (0, [w_image1_left, w_image1_signs, w_image1_wordSets, .int image1_sayings, .int image1_words, .int image1_filled])), (a_refusals, .inr (3, [.ref a_speech, w_refusals_tried, .int refusals_sign, .int refusals_sum, .int refusals_known])), (a_reader, .inr (2, [.ref a_reader_tokens, w_reader_signs, .ref a_reader_values, .int z_4.2.1, w_reader_termsLeft, w_reader_factorsLeft, .int reader_depth, .int reader_many, .int reader_factorDue])), (a_reader_tokens, .inr (6, [.ref a_text, .int z_4.2.2.1, .int z_4.2.2.2.1, .int z_4.2.2.2.2.1])), (a_text, .inr (5, [.ref a_text_bytes, .int text_size])), (a_text_bytes, .inl (cI, 200, .inl f_text_bytes)), (a_reader_values, .inl (cI, 3, .inl z_4.2.2.2.2.2)), (a_speech, .inr (7, [.ref a_speech_values, .ref a_speech_left, .int x59_speech_choices, .int x59_speech_worlds]))] H → va_D A [(a_o, .inr (9, [.ref a_text, .ref a_speech, .ref a_now, .ref a_image0, .ref a_image1, w_o_signs, .ref a_reader, w_o_lengths, .ref a_refusals, w_o_two, .int o_measured, .long o_traced])), (a_speech_values, .inl (cI, 3, .inl x59_f_speech_values)), (a_speech_left, .inl (cI, 30, .inl f_speech_left)), (a_now, .inr (0, [w_now_left, w_now_signs, w_now_wordSets, .int now_sayings, .int now_words, .int now_filled])), (a_image0, .inr (0, [w_image0_left, w_image0_signs, w_image0_wordSets, .int image0_sayings, .int image0_words, .int image0_filled])), (a_image1, .inr (0, [w_image1_left, w_image1_signs, w_image1_wordSets, .int image1_sayings, .int image1_words, .int image1_filled])), (a_refusals, .inr (3, [.ref a_speech, w_refusals_tried, .int refusals_sign, .int refusals_sum, .int refusals_known])), (a_reader, .inr (2, [.ref a_reader_tokens, w_reader_signs, .ref a_reader_values, .int z_4.2.1, w_reader_termsLeft, w_reader_factorsLeft, .int reader_depth, .int reader_many, .int reader_factorDue])), (a_reader_tokens, .inr (6, [.ref a_text, .int z_4.2.2.1, .int z_4.2.2.2.1, .int z_4.2.2.2.2.1])), (a_text, .inr (5, [.ref a_text_bytes, .int text_size])), (a_text_bytes, .inl (cI, 200, .inl f_text_bytes)), (a_reader_values, .inl (cI, 3, .inl z_4.2.2.2.2.2)), (a_speech, .inr (7, [.ref a_speech_values, .ref a_speech_left, .int x59_speech_choices, .int x59_speech_worlds]))] → va_S A s.heap H locs → lv_has ls 3 [(0, .ref a_o)] → W p l e rmX10_tongue s m args below meth c H locs 0 0 Q (F0 m 59 ls []) := by
      intro x59_speech_choices x59_speech_worlds x59_f_speech_values H locs ls h hP hD hS hl
      rw [hk59] at h
      refine lv_aload_n hx hb dX10_tongue_59 rfl (lv_at hl 0 rfl) ?_
      refine va_get (D := D) (ci := 9) (v := .ref a_speech) (C := RX10) (T := TX10) (N := 12) hx hb hts u_X10 hown hK hP 0 rfl rfl 1 (by decide) k_f1 (fun _ h9 => h9) rfl dX10_tongue_60 ?_
      obtain ⟨z_63, hc_63, h⟩ := bd_e h
      refine q_vV (As := []) (rest := []) (wF := [(a_o, .inr (9, [.ref a_text, .ref a_speech, .ref a_now, .ref a_image0, .ref a_image1, w_o_signs, .ref a_reader, w_o_lengths, .ref a_refusals, w_o_two, .int o_measured, .long o_traced])), (a_now, .inr (0, [w_now_left, w_now_signs, w_now_wordSets, .int now_sayings, .int now_words, .int now_filled])), (a_image0, .inr (0, [w_image0_left, w_image0_signs, w_image0_wordSets, .int image0_sayings, .int image0_words, .int image0_filled])), (a_image1, .inr (0, [w_image1_left, w_image1_signs, w_image1_wordSets, .int image1_sayings, .int image1_words, .int image1_filled])), (a_refusals, .inr (3, [.ref a_speech, w_refusals_tried, .int refusals_sign, .int refusals_sum, .int refusals_known])), (a_reader, .inr (2, [.ref a_reader_tokens, w_reader_signs, .ref a_reader_values, .int z_4.2.1, w_reader_termsLeft, w_reader_factorsLeft, .int reader_depth, .int reader_many, .int reader_factorDue])), (a_reader_tokens, .inr (6, [.ref a_text, .int z_4.2.2.1, .int z_4.2.2.2.1, .int z_4.2.2.2.2.1])), (a_text, .inr (5, [.ref a_text_bytes, .int text_size])), (a_text_bytes, .inl (cI, 200, .inl f_text_bytes)), (a_reader_values, .inl (cI, 3, .inl z_4.2.2.2.2.2)), (a_speech, .inr (7, [.ref a_speech_values, .ref a_speech_left, .int x59_speech_choices, .int x59_speech_worlds])), (a_speech_values, .inl (cI, 3, .inl x59_f_speech_values)), (a_speech_left, .inl (cI, 30, .inl z_63))]) hF hA hZ hK hP hD hS (c_X8_layOut l D cI cB cZ a_speech x59_speech_choices x59_speech_worlds a_speech_values x59_f_speech_values a_speech_left f_speech_left z_63 hc_63) rfl gX10_tongue_X8_layOut hdX8_layOut ⟨rfl, rfl⟩ (Nat.le_of_ble_eq_true rfl) (Nat.le_of_ble_eq_true rfl) 7 0 rfl rfl [12, 1, 2] [0, 3, 4, 5, 6, 7, 8, 9, 10, 11] rfl rfl rfl rfl (by decide) rfl hl.1 rfl (Nat.le_of_ble_eq_true rfl) (Nat.zero_le _) (Nat.zero_le _) dX10_tongue_63 (fun H locs hP hD hS => ?_)
      refine lv_aload_n hx hb dX10_tongue_66 rfl (lv_at hl 0 rfl) ?_
      refine va_get (D := D) (ci := 9) (v := .ref a_text) (C := RX10) (T := TX10) (N := 12) hx hb hts u_X10 hown hK hP 0 rfl rfl 0 (by decide) k_f2 (fun _ h9 => h9) rfl dX10_tongue_67 ?_
      obtain ⟨z_70, hc_70, h⟩ := bd_e h
      refine q_iV (As := []) (rest := []) (wF := [(a_o, .inr (9, [.ref a_text, .ref a_speech, .ref a_now, .ref a_image0, .ref a_image1, w_o_signs, .ref a_reader, w_o_lengths, .ref a_refusals, w_o_two, .int o_measured, .long o_traced])), (a_now, .inr (0, [w_now_left, w_now_signs, w_now_wordSets, .int now_sayings, .int now_words, .int now_filled])), (a_image0, .inr (0, [w_image0_left, w_image0_signs, w_image0_wordSets, .int image0_sayings, .int image0_words, .int image0_filled])), (a_image1, .inr (0, [w_image1_left, w_image1_signs, w_image1_wordSets, .int image1_sayings, .int image1_words, .int image1_filled])), (a_refusals, .inr (3, [.ref a_speech, w_refusals_tried, .int refusals_sign, .int refusals_sum, .int refusals_known])), (a_reader, .inr (2, [.ref a_reader_tokens, w_reader_signs, .ref a_reader_values, .int z_4.2.1, w_reader_termsLeft, w_reader_factorsLeft, .int reader_depth, .int reader_many, .int reader_factorDue])), (a_reader_tokens, .inr (6, [.ref a_text, .int z_4.2.2.1, .int z_4.2.2.2.1, .int z_4.2.2.2.2.1])), (a_text_bytes, .inl (cI, 200, .inl f_text_bytes)), (a_reader_values, .inl (cI, 3, .inl z_4.2.2.2.2.2)), (a_speech, .inr (7, [.ref a_speech_values, .ref a_speech_left, .int x59_speech_choices, .int x59_speech_worlds])), (a_speech_values, .inl (cI, 3, .inl x59_f_speech_values)), (a_speech_left, .inl (cI, 30, .inl z_63)), (a_text, .inr (5, [.ref a_text_bytes, .int z_70.2]))]) hF hA hZ hK hP hD hS (c_X6_drop l D cI cB cZ a_text (.ref a_text_bytes) text_size z_70 hc_70) rfl gX10_tongue_X6_drop hdX6_drop ⟨rfl, rfl⟩ (Nat.le_of_ble_eq_true rfl) (Nat.le_of_ble_eq_true rfl) 5 0 rfl rfl [7] [0, 1, 2, 3, 4, 5, 6, 8, 9, 10, 11, 12] rfl rfl rfl rfl (by decide) rfl hl.1 rfl (Nat.le_of_ble_eq_true rfl) (Nat.zero_le _) (Nat.zero_le _) dX10_tongue_70 (fun H locs hP hD hS => ?_)
      refine lv_pop hx hb dX10_tongue_73 rfl ?_
      refine lv_aload_n hx hb dX10_tongue_74 rfl (lv_at hl 0 rfl) ?_
      refine va_get (D := D) (ci := 9) (v := .ref a_now) (C := RX10) (T := TX10) (N := 12) hx hb hts u_X10 hown hK hP 0 rfl rfl 2 (by decide) k_f3 (fun _ h9 => h9) rfl dX10_tongue_75 ?_
      obtain ⟨z_78, hc_78, h⟩ := bd_e h
      refine q_vV (As := []) (rest := []) (wF := [(a_o, .inr (9, [.ref a_text, .ref a_speech, .ref a_now, .ref a_image0, .ref a_image1, w_o_signs, .ref a_reader, w_o_lengths, .ref a_refusals, w_o_two, .int o_measured, .long o_traced])), (a_image0, .inr (0, [w_image0_left, w_image0_signs, w_image0_wordSets, .int image0_sayings, .int image0_words, .int image0_filled])), (a_image1, .inr (0, [w_image1_left, w_image1_signs, w_image1_wordSets, .int image1_sayings, .int image1_words, .int image1_filled])), (a_refusals, .inr (3, [.ref a_speech, w_refusals_tried, .int refusals_sign, .int refusals_sum, .int refusals_known])), (a_reader, .inr (2, [.ref a_reader_tokens, w_reader_signs, .ref a_reader_values, .int z_4.2.1, w_reader_termsLeft, w_reader_factorsLeft, .int reader_depth, .int reader_many, .int reader_factorDue])), (a_reader_tokens, .inr (6, [.ref a_text, .int z_4.2.2.1, .int z_4.2.2.2.1, .int z_4.2.2.2.2.1])), (a_text_bytes, .inl (cI, 200, .inl f_text_bytes)), (a_reader_values, .inl (cI, 3, .inl z_4.2.2.2.2.2)), (a_speech, .inr (7, [.ref a_speech_values, .ref a_speech_left, .int x59_speech_choices, .int x59_speech_worlds])), (a_speech_values, .inl (cI, 3, .inl x59_f_speech_values)), (a_speech_left, .inl (cI, 30, .inl z_63)), (a_text, .inr (5, [.ref a_text_bytes, .int z_70.2])), (a_now, .inr (0, [w_now_left, w_now_signs, w_now_wordSets, .int z_78.1, .int z_78.2.1, .int z_78.2.2]))]) hF hA hZ hK hP hD hS (c_X0_forget l D cI cB cZ a_now w_now_left w_now_signs w_now_wordSets now_sayings now_words now_filled z_78 hc_78) rfl gX10_tongue_X0_forget hdX0_forget ⟨rfl, rfl⟩ (Nat.le_of_ble_eq_true rfl) (Nat.le_of_ble_eq_true rfl) 0 0 rfl rfl [1] [0, 2, 3, 4, 5, 6, 7, 8, 9, 10, 11, 12] rfl rfl rfl rfl (by decide) rfl hl.1 rfl (Nat.le_of_ble_eq_true rfl) (Nat.zero_le _) (Nat.zero_le _) dX10_tongue_78 (fun H locs hP hD hS => ?_)
      refine lv_aload_n hx hb dX10_tongue_81 rfl (lv_at hl 0 rfl) ?_
      refine va_get (D := D) (ci := 9) (v := .ref a_image0) (C := RX10) (T := TX10) (N := 12) hx hb hts u_X10 hown hK hP 0 rfl rfl 3 (by decide) k_f4 (fun _ h9 => h9) rfl dX10_tongue_82 ?_
      obtain ⟨z_85, hc_85, h⟩ := bd_e h
      refine q_vV (As := []) (rest := []) (wF := [(a_o, .inr (9, [.ref a_text, .ref a_speech, .ref a_now, .ref a_image0, .ref a_image1, w_o_signs, .ref a_reader, w_o_lengths, .ref a_refusals, w_o_two, .int o_measured, .long o_traced])), (a_image1, .inr (0, [w_image1_left, w_image1_signs, w_image1_wordSets, .int image1_sayings, .int image1_words, .int image1_filled])), (a_refusals, .inr (3, [.ref a_speech, w_refusals_tried, .int refusals_sign, .int refusals_sum, .int refusals_known])), (a_reader, .inr (2, [.ref a_reader_tokens, w_reader_signs, .ref a_reader_values, .int z_4.2.1, w_reader_termsLeft, w_reader_factorsLeft, .int reader_depth, .int reader_many, .int reader_factorDue])), (a_reader_tokens, .inr (6, [.ref a_text, .int z_4.2.2.1, .int z_4.2.2.2.1, .int z_4.2.2.2.2.1])), (a_text_bytes, .inl (cI, 200, .inl f_text_bytes)), (a_reader_values, .inl (cI, 3, .inl z_4.2.2.2.2.2)), (a_speech, .inr (7, [.ref a_speech_values, .ref a_speech_left, .int x59_speech_choices, .int x59_speech_worlds])), (a_speech_values, .inl (cI, 3, .inl x59_f_speech_values)), (a_speech_left, .inl (cI, 30, .inl z_63)), (a_text, .inr (5, [.ref a_text_bytes, .int z_70.2])), (a_now, .inr (0, [w_now_left, w_now_signs, w_now_wordSets, .int z_78.1, .int z_78.2.1, .int z_78.2.2])), (a_image0, .inr (0, [w_image0_left, w_image0_signs, w_image0_wordSets, .int z_85.1, .int z_85.2.1, .int z_85.2.2]))]) hF hA hZ hK hP hD hS (c_X0_forget l D cI cB cZ a_image0 w_image0_left w_image0_signs w_image0_wordSets image0_sayings image0_words image0_filled z_85 hc_85) rfl gX10_tongue_X0_forget hdX0_forget ⟨rfl, rfl⟩ (Nat.le_of_ble_eq_true rfl) (Nat.le_of_ble_eq_true rfl) 0 0 rfl rfl [1] [0, 2, 3, 4, 5, 6, 7, 8, 9, 10, 11, 12] rfl rfl rfl rfl (by decide) rfl hl.1 rfl (Nat.le_of_ble_eq_true rfl) (Nat.zero_le _) (Nat.zero_le _) dX10_tongue_85 (fun H locs hP hD hS => ?_)
      refine lv_aload_n hx hb dX10_tongue_88 rfl (lv_at hl 0 rfl) ?_
      refine va_get (D := D) (ci := 9) (v := .ref a_image1) (C := RX10) (T := TX10) (N := 12) hx hb hts u_X10 hown hK hP 0 rfl rfl 4 (by decide) k_f5 (fun _ h9 => h9) rfl dX10_tongue_89 ?_
      obtain ⟨z_92, hc_92, h⟩ := bd_e h
      refine q_vV (As := []) (rest := []) (wF := [(a_o, .inr (9, [.ref a_text, .ref a_speech, .ref a_now, .ref a_image0, .ref a_image1, w_o_signs, .ref a_reader, w_o_lengths, .ref a_refusals, w_o_two, .int o_measured, .long o_traced])), (a_refusals, .inr (3, [.ref a_speech, w_refusals_tried, .int refusals_sign, .int refusals_sum, .int refusals_known])), (a_reader, .inr (2, [.ref a_reader_tokens, w_reader_signs, .ref a_reader_values, .int z_4.2.1, w_reader_termsLeft, w_reader_factorsLeft, .int reader_depth, .int reader_many, .int reader_factorDue])), (a_reader_tokens, .inr (6, [.ref a_text, .int z_4.2.2.1, .int z_4.2.2.2.1, .int z_4.2.2.2.2.1])), (a_text_bytes, .inl (cI, 200, .inl f_text_bytes)), (a_reader_values, .inl (cI, 3, .inl z_4.2.2.2.2.2)), (a_speech, .inr (7, [.ref a_speech_values, .ref a_speech_left, .int x59_speech_choices, .int x59_speech_worlds])), (a_speech_values, .inl (cI, 3, .inl x59_f_speech_values)), (a_speech_left, .inl (cI, 30, .inl z_63)), (a_text, .inr (5, [.ref a_text_bytes, .int z_70.2])), (a_now, .inr (0, [w_now_left, w_now_signs, w_now_wordSets, .int z_78.1, .int z_78.2.1, .int z_78.2.2])), (a_image0, .inr (0, [w_image0_left, w_image0_signs, w_image0_wordSets, .int z_85.1, .int z_85.2.1, .int z_85.2.2])), (a_image1, .inr (0, [w_image1_left, w_image1_signs, w_image1_wordSets, .int z_92.1, .int z_92.2.1, .int z_92.2.2]))]) hF hA hZ hK hP hD hS (c_X0_forget l D cI cB cZ a_image1 w_image1_left w_image1_signs w_image1_wordSets image1_sayings image1_words image1_filled z_92 hc_92) rfl gX10_tongue_X0_forget hdX0_forget ⟨rfl, rfl⟩ (Nat.le_of_ble_eq_true rfl) (Nat.le_of_ble_eq_true rfl) 0 0 rfl rfl [1] [0, 2, 3, 4, 5, 6, 7, 8, 9, 10, 11, 12] rfl rfl rfl rfl (by decide) rfl hl.1 rfl (Nat.le_of_ble_eq_true rfl) (Nat.zero_le _) (Nat.zero_le _) dX10_tongue_92 (fun H locs hP hD hS => ?_)
      refine lv_aload_n hx hb dX10_tongue_95 rfl (lv_at hl 0 rfl) ?_
      obtain ⟨z_96, hc_96, h⟩ := bd_e h
      refine q_vV (As := []) (rest := []) (wF := [(a_reader, .inr (2, [.ref a_reader_tokens, w_reader_signs, .ref a_reader_values, .int z_4.2.1, w_reader_termsLeft, w_reader_factorsLeft, .int reader_depth, .int reader_many, .int reader_factorDue])), (a_reader_tokens, .inr (6, [.ref a_text, .int z_4.2.2.1, .int z_4.2.2.2.1, .int z_4.2.2.2.2.1])), (a_text_bytes, .inl (cI, 200, .inl f_text_bytes)), (a_reader_values, .inl (cI, 3, .inl z_4.2.2.2.2.2)), (a_speech, .inr (7, [.ref a_speech_values, .ref a_speech_left, .int x59_speech_choices, .int x59_speech_worlds])), (a_speech_values, .inl (cI, 3, .inl x59_f_speech_values)), (a_speech_left, .inl (cI, 30, .inl z_63)), (a_text, .inr (5, [.ref a_text_bytes, .int z_70.2])), (a_now, .inr (0, [w_now_left, w_now_signs, w_now_wordSets, .int z_78.1, .int z_78.2.1, .int z_78.2.2])), (a_image0, .inr (0, [w_image0_left, w_image0_signs, w_image0_wordSets, .int z_85.1, .int z_85.2.1, .int z_85.2.2])), (a_image1, .inr (0, [w_image1_left, w_image1_signs, w_image1_wordSets, .int z_92.1, .int z_92.2.1, .int z_92.2.2])), (a_o, .inr (9, [.ref a_text, .ref a_speech, .ref a_now, .ref a_image0, .ref a_image1, w_o_signs, .ref a_reader, w_o_lengths, .ref a_refusals, w_o_two, .int z_96.1, .long o_traced])), (a_refusals, .inr (3, [.ref a_speech, w_refusals_tried, .int refusals_sign, .int refusals_sum, .int z_96.2]))]) hF hA hZ hK hP hD hS (c_X10_signsChanged l D cI cB cZ a_o (.ref a_text) (.ref a_speech) (.ref a_now) (.ref a_image0) (.ref a_image1) w_o_signs (.ref a_reader) w_o_lengths w_o_two o_measured o_traced a_refusals (.ref a_speech) w_refusals_tried refusals_sign refusals_sum refusals_known z_96 hc_96) rfl gX10_tongue_X10_signsChanged hdX10_signsChanged ⟨rfl, rfl⟩ (Nat.le_of_ble_eq_true rfl) (Nat.le_of_ble_eq_true rfl) 9 0 rfl rfl [0, 1] [2, 3, 4, 5, 6, 7, 8, 9, 10, 11, 12] rfl rfl rfl rfl (by decide) rfl hl.1 rfl (Nat.le_of_ble_eq_true rfl) (Nat.zero_le _) (Nat.zero_le _) dX10_tongue_96 (fun H locs hP hD hS => ?_)
      refine lv_aload_n hx hb dX10_tongue_99 rfl (lv_at hl 0 rfl) ?_
      refine va_get (D := D) (ci := 9) (v := .ref a_speech) (C := RX10) (T := TX10) (N := 12) hx hb hts u_X10 hown hK hP 11 rfl rfl 1 (by decide) k_f1 (fun _ h9 => h9) rfl dX10_tongue_100 ?_
      obtain ⟨z_103, hc_103, h⟩ := bd_e h
      refine q_iV (As := []) (rest := []) (wF := [(a_reader, .inr (2, [.ref a_reader_tokens, w_reader_signs, .ref a_reader_values, .int z_4.2.1, w_reader_termsLeft, w_reader_factorsLeft, .int reader_depth, .int reader_many, .int reader_factorDue])), (a_reader_tokens, .inr (6, [.ref a_text, .int z_4.2.2.1, .int z_4.2.2.2.1, .int z_4.2.2.2.2.1])), (a_text_bytes, .inl (cI, 200, .inl f_text_bytes)), (a_reader_values, .inl (cI, 3, .inl z_4.2.2.2.2.2)), (a_speech_values, .inl (cI, 3, .inl x59_f_speech_values)), (a_speech_left, .inl (cI, 30, .inl z_63)), (a_text, .inr (5, [.ref a_text_bytes, .int z_70.2])), (a_now, .inr (0, [w_now_left, w_now_signs, w_now_wordSets, .int z_78.1, .int z_78.2.1, .int z_78.2.2])), (a_image0, .inr (0, [w_image0_left, w_image0_signs, w_image0_wordSets, .int z_85.1, .int z_85.2.1, .int z_85.2.2])), (a_image1, .inr (0, [w_image1_left, w_image1_signs, w_image1_wordSets, .int z_92.1, .int z_92.2.1, .int z_92.2.2])), (a_o, .inr (9, [.ref a_text, .ref a_speech, .ref a_now, .ref a_image0, .ref a_image1, w_o_signs, .ref a_reader, w_o_lengths, .ref a_refusals, w_o_two, .int z_96.1, .long o_traced])), (a_refusals, .inr (3, [.ref a_speech, w_refusals_tried, .int refusals_sign, .int refusals_sum, .int z_96.2])), (a_speech, .inr (7, [.ref a_speech_values, .ref a_speech_left, .int x59_speech_choices, .int x59_speech_worlds]))]) hF hA hZ hK hP hD hS (c_X8_choices l D cI cB cZ a_speech (.ref a_speech_values) (.ref a_speech_left) x59_speech_choices x59_speech_worlds z_103 hc_103) rfl gX10_tongue_X8_choices hdX8_choices ⟨rfl, rfl⟩ (Nat.le_of_ble_eq_true rfl) (Nat.le_of_ble_eq_true rfl) 7 0 rfl rfl [4] [0, 1, 2, 3, 5, 6, 7, 8, 9, 10, 11, 12] rfl rfl rfl rfl (by decide) rfl hl.1 rfl (Nat.le_of_ble_eq_true rfl) (Nat.zero_le _) (Nat.zero_le _) dX10_tongue_103 (fun H locs hP hD hS => ?_)
      have hz := Option.some.inj h
      subst hz
      exact hret H locs 106 ls (fun ty h => by cases h; rfl) (hP.sub [10, 6, 2, 12, 4, 5, 7, 8, 9, 0, 1, 3, 11] rfl) (hD.sub [10, 6, 2, 12, 4, 5, 7, 8, 9, 0, 1, 3, 11] (by decide) rfl) hS dX10_tongue_106
    have L27 : ∀ (n : Nat), ∀ (x27_l2 : Int32) (x27_speech_choices : Int32) (x27_speech_worlds : Int32) (x27_f_speech_values : (Nat → Int32)) (H : Heap) (locs : List Loc) (ls : Array Slot), P_X10_tongue_27 z_4 k59 n x27_l2 x27_speech_choices x27_speech_worlds x27_f_speech_values = some z → va_P D vwCl [(a_o, .inr (9, [.ref a_text, .ref a_speech, .ref a_now, .ref a_image0, .ref a_image1, w_o_signs, .ref a_reader, w_o_lengths, .ref a_refusals, w_o_two, .int o_measured, .long o_traced])), (a_speech_values, .inl (cI, 3, .inl x27_f_speech_values)), (a_speech_left, .inl (cI, 30, .inl f_speech_left)), (a_now, .inr (0, [w_now_left, w_now_signs, w_now_wordSets, .int now_sayings, .int now_words, .int now_filled])), (a_image0, .inr (0, [w_image0_left, w_image0_signs, w_image0_wordSets, .int image0_sayings, .int image0_words, .int image0_filled])), (a_image1, .inr (0, [w_image1_left, w_image1_signs, w_image1_wordSets, .int image1_sayings, .int image1_words, .int image1_filled])), (a_refusals, .inr (3, [.ref a_speech, w_refusals_tried, .int refusals_sign, .int refusals_sum, .int refusals_known])), (a_reader, .inr (2, [.ref a_reader_tokens, w_reader_signs, .ref a_reader_values, .int z_4.2.1, w_reader_termsLeft, w_reader_factorsLeft, .int reader_depth, .int reader_many, .int reader_factorDue])), (a_reader_tokens, .inr (6, [.ref a_text, .int z_4.2.2.1, .int z_4.2.2.2.1, .int z_4.2.2.2.2.1])), (a_text, .inr (5, [.ref a_text_bytes, .int text_size])), (a_text_bytes, .inl (cI, 200, .inl f_text_bytes)), (a_reader_values, .inl (cI, 3, .inl z_4.2.2.2.2.2)), (a_speech, .inr (7, [.ref a_speech_values, .ref a_speech_left, .int x27_speech_choices, .int x27_speech_worlds]))] H → va_D A [(a_o, .inr (9, [.ref a_text, .ref a_speech, .ref a_now, .ref a_image0, .ref a_image1, w_o_signs, .ref a_reader, w_o_lengths, .ref a_refusals, w_o_two, .int o_measured, .long o_traced])), (a_speech_values, .inl (cI, 3, .inl x27_f_speech_values)), (a_speech_left, .inl (cI, 30, .inl f_speech_left)), (a_now, .inr (0, [w_now_left, w_now_signs, w_now_wordSets, .int now_sayings, .int now_words, .int now_filled])), (a_image0, .inr (0, [w_image0_left, w_image0_signs, w_image0_wordSets, .int image0_sayings, .int image0_words, .int image0_filled])), (a_image1, .inr (0, [w_image1_left, w_image1_signs, w_image1_wordSets, .int image1_sayings, .int image1_words, .int image1_filled])), (a_refusals, .inr (3, [.ref a_speech, w_refusals_tried, .int refusals_sign, .int refusals_sum, .int refusals_known])), (a_reader, .inr (2, [.ref a_reader_tokens, w_reader_signs, .ref a_reader_values, .int z_4.2.1, w_reader_termsLeft, w_reader_factorsLeft, .int reader_depth, .int reader_many, .int reader_factorDue])), (a_reader_tokens, .inr (6, [.ref a_text, .int z_4.2.2.1, .int z_4.2.2.2.1, .int z_4.2.2.2.2.1])), (a_text, .inr (5, [.ref a_text_bytes, .int text_size])), (a_text_bytes, .inl (cI, 200, .inl f_text_bytes)), (a_reader_values, .inl (cI, 3, .inl z_4.2.2.2.2.2)), (a_speech, .inr (7, [.ref a_speech_values, .ref a_speech_left, .int x27_speech_choices, .int x27_speech_worlds]))] → va_S A s.heap H locs → lv_has ls 3 [(0, .ref a_o), (2, .int x27_l2)] → W p l e rmX10_tongue s m args below meth c H locs 0 0 Q (F0 m 27 ls []) := by
      intro n
      induction n with
      | zero =>
        intro x27_l2 x27_speech_choices x27_speech_worlds x27_f_speech_values H locs ls h
        exact no_e h
      | succ n ih27 =>
        intro x27_l2 x27_speech_choices x27_speech_worlds x27_f_speech_values H locs ls h hP hD hS hl
        rw [P_X10_tongue_27] at h
        refine lv_iload_n hx hb dX10_tongue_27 rfl (lv_at hl 1 rfl) ?_
        refine lv_aload_n hx hb dX10_tongue_28 rfl (lv_at hl 0 rfl) ?_
        refine va_get (D := D) (ci := 9) (v := .ref a_reader) (C := RX10) (T := TX10) (N := 12) hx hb hts u_X10 hown hK hP 0 rfl rfl 6 (by decide) k_f0 (fun _ h9 => h9) rfl dX10_tongue_29 ?_
        obtain ⟨z_32, hc_32, h⟩ := bd_e h
        refine q_iV (As := []) (rest := [.int x27_l2]) (wF := [(a_o, .inr (9, [.ref a_text, .ref a_speech, .ref a_now, .ref a_image0, .ref a_image1, w_o_signs, .ref a_reader, w_o_lengths, .ref a_refusals, w_o_two, .int o_measured, .long o_traced])), (a_speech_values, .inl (cI, 3, .inl x27_f_speech_values)), (a_speech_left, .inl (cI, 30, .inl f_speech_left)), (a_now, .inr (0, [w_now_left, w_now_signs, w_now_wordSets, .int now_sayings, .int now_words, .int now_filled])), (a_image0, .inr (0, [w_image0_left, w_image0_signs, w_image0_wordSets, .int image0_sayings, .int image0_words, .int image0_filled])), (a_image1, .inr (0, [w_image1_left, w_image1_signs, w_image1_wordSets, .int image1_sayings, .int image1_words, .int image1_filled])), (a_refusals, .inr (3, [.ref a_speech, w_refusals_tried, .int refusals_sign, .int refusals_sum, .int refusals_known])), (a_reader_tokens, .inr (6, [.ref a_text, .int z_4.2.2.1, .int z_4.2.2.2.1, .int z_4.2.2.2.2.1])), (a_text, .inr (5, [.ref a_text_bytes, .int text_size])), (a_text_bytes, .inl (cI, 200, .inl f_text_bytes)), (a_reader_values, .inl (cI, 3, .inl z_4.2.2.2.2.2)), (a_speech, .inr (7, [.ref a_speech_values, .ref a_speech_left, .int x27_speech_choices, .int x27_speech_worlds])), (a_reader, .inr (2, [.ref a_reader_tokens, w_reader_signs, .ref a_reader_values, .int z_4.2.1, w_reader_termsLeft, w_reader_factorsLeft, .int reader_depth, .int reader_many, .int reader_factorDue]))]) hF hA hZ hK hP hD hS (c_X2_choicesRead l D cI cB cZ a_reader (.ref a_reader_tokens) w_reader_signs (.ref a_reader_values) z_4.2.1 w_reader_termsLeft w_reader_factorsLeft reader_depth reader_many reader_factorDue z_32 hc_32) rfl gX10_tongue_X2_choicesRead hdX2_choicesRead ⟨rfl, rfl⟩ (Nat.le_of_ble_eq_true rfl) (Nat.le_of_ble_eq_true rfl) 2 0 rfl rfl [7] [0, 1, 2, 3, 4, 5, 6, 8, 9, 10, 11, 12] rfl rfl rfl rfl (by decide) rfl hl.1 rfl (Nat.le_of_ble_eq_true rfl) (Nat.zero_le _) (Nat.zero_le _) dX10_tongue_32 (fun H locs hP hD hS => ?_)
        refine lv_icmp_ge (tgt := 59) hx hb dX10_tongue_35 (by decide) (fun c_35 => ?_) (fun c_35 => ?_)
        · replace h := it_e c_35 h
          exact Jk59 x27_speech_choices x27_speech_worlds x27_f_speech_values H locs ls h (hP.sub [0, 1, 2, 3, 4, 5, 6, 12, 7, 8, 9, 10, 11] rfl) (hD.sub [0, 1, 2, 3, 4, 5, 6, 12, 7, 8, 9, 10, 11] (by decide) rfl) hS (lv_sub hl [0] rfl)
        · replace h := if_e c_35 h
          refine lv_aload_n hx hb dX10_tongue_38 rfl (lv_at hl 0 rfl) ?_
          refine va_get (D := D) (ci := 9) (v := .ref a_speech) (C := RX10) (T := TX10) (N := 12) hx hb hts u_X10 hown hK hP 0 rfl rfl 1 (by decide) k_f1 (fun _ h9 => h9) rfl dX10_tongue_39 ?_
          refine lv_aload_n hx hb dX10_tongue_42 rfl (lv_at hl 0 rfl) ?_
          refine va_get (D := D) (ci := 9) (v := .ref a_reader) (C := RX10) (T := TX10) (N := 12) hx hb hts u_X10 hown hK hP 0 rfl rfl 6 (by decide) k_f0 (fun _ h9 => h9) rfl dX10_tongue_43 ?_
          refine lv_iload_n hx hb dX10_tongue_46 rfl (lv_at hl 1 rfl) ?_
          obtain ⟨z_47, hc_47, h⟩ := bd_e h
          refine q_iV (As := [.int x27_l2]) (rest := [.ref a_speech]) (wF := [(a_o, .inr (9, [.ref a_text, .ref a_speech, .ref a_now, .ref a_image0, .ref a_image1, w_o_signs, .ref a_reader, w_o_lengths, .ref a_refusals, w_o_two, .int o_measured, .long o_traced])), (a_speech_values, .inl (cI, 3, .inl x27_f_speech_values)), (a_speech_left, .inl (cI, 30, .inl f_speech_left)), (a_now, .inr (0, [w_now_left, w_now_signs, w_now_wordSets, .int now_sayings, .int now_words, .int now_filled])), (a_image0, .inr (0, [w_image0_left, w_image0_signs, w_image0_wordSets, .int image0_sayings, .int image0_words, .int image0_filled])), (a_image1, .inr (0, [w_image1_left, w_image1_signs, w_image1_wordSets, .int image1_sayings, .int image1_words, .int image1_filled])), (a_refusals, .inr (3, [.ref a_speech, w_refusals_tried, .int refusals_sign, .int refusals_sum, .int refusals_known])), (a_reader_tokens, .inr (6, [.ref a_text, .int z_4.2.2.1, .int z_4.2.2.2.1, .int z_4.2.2.2.2.1])), (a_text, .inr (5, [.ref a_text_bytes, .int text_size])), (a_text_bytes, .inl (cI, 200, .inl f_text_bytes)), (a_speech, .inr (7, [.ref a_speech_values, .ref a_speech_left, .int x27_speech_choices, .int x27_speech_worlds])), (a_reader, .inr (2, [.ref a_reader_tokens, w_reader_signs, .ref a_reader_values, .int z_4.2.1, w_reader_termsLeft, w_reader_factorsLeft, .int reader_depth, .int reader_many, .int reader_factorDue])), (a_reader_values, .inl (cI, 3, .inl z_4.2.2.2.2.2))]) hF hA hZ hK hP hD hS (c_X2_valuesRead l D cI cB cZ a_reader (.ref a_reader_tokens) w_reader_signs z_4.2.1 w_reader_termsLeft w_reader_factorsLeft reader_depth reader_many reader_factorDue a_reader_values z_4.2.2.2.2.2 x27_l2 z_47 hc_47) rfl gX10_tongue_X2_valuesRead hdX2_valuesRead ⟨rfl, rfl⟩ (Nat.le_of_ble_eq_true rfl) (Nat.le_of_ble_eq_true rfl) 2 0 rfl rfl [12, 10] [0, 1, 2, 3, 4, 5, 6, 7, 8, 9, 11] rfl rfl rfl rfl (by decide) rfl hl.1 rfl (Nat.le_of_ble_eq_true rfl) (Nat.zero_le _) (Nat.zero_le _) dX10_tongue_47 (fun H locs hP hD hS => ?_)
          obtain ⟨z_50, hc_50, h⟩ := bd_e h
          refine q_vV (As := [.int z_47]) (rest := []) (wF := [(a_o, .inr (9, [.ref a_text, .ref a_speech, .ref a_now, .ref a_image0, .ref a_image1, w_o_signs, .ref a_reader, w_o_lengths, .ref a_refusals, w_o_two, .int o_measured, .long o_traced])), (a_speech_left, .inl (cI, 30, .inl f_speech_left)), (a_now, .inr (0, [w_now_left, w_now_signs, w_now_wordSets, .int now_sayings, .int now_words, .int now_filled])), (a_image0, .inr (0, [w_image0_left, w_image0_signs, w_image0_wordSets, .int image0_sayings, .int image0_words, .int image0_filled])), (a_image1, .inr (0, [w_image1_left, w_image1_signs, w_image1_wordSets, .int image1_sayings, .int image1_words, .int image1_filled])), (a_refusals, .inr (3, [.ref a_speech, w_refusals_tried, .int refusals_sign, .int refusals_sum, .int refusals_known])), (a_reader_tokens, .inr (6, [.ref a_text, .int z_4.2.2.1, .int z_4.2.2.2.1, .int z_4.2.2.2.2.1])), (a_text, .inr (5, [.ref a_text_bytes, .int text_size])), (a_text_bytes, .inl (cI, 200, .inl f_text_bytes)), (a_reader, .inr (2, [.ref a_reader_tokens, w_reader_signs, .ref a_reader_values, .int z_4.2.1, w_reader_termsLeft, w_reader_factorsLeft, .int reader_depth, .int reader_many, .int reader_factorDue])), (a_reader_values, .inl (cI, 3, .inl z_4.2.2.2.2.2)), (a_speech, .inr (7, [.ref a_speech_values, .ref a_speech_left, .int z_50.1, .int z_50.2.1])), (a_speech_values, .inl (cI, 3, .inl z_50.2.2))]) hF hA hZ hK hP hD hS (c_X8_addChoice l D cI cB cZ a_speech (.ref a_speech_left) x27_speech_choices x27_speech_worlds a_speech_values x27_f_speech_values z_47 z_50 hc_50) rfl gX10_tongue_X8_addChoice hdX8_addChoice ⟨rfl, rfl⟩ (Nat.le_of_ble_eq_true rfl) (Nat.le_of_ble_eq_true rfl) 7 0 rfl rfl [10, 1] [0, 2, 3, 4, 5, 6, 7, 8, 9, 11, 12] rfl rfl rfl rfl (by decide) rfl hl.1 rfl (Nat.le_of_ble_eq_true rfl) (Nat.zero_le _) (Nat.zero_le _) dX10_tongue_50 (fun H locs hP hD hS => ?_)
          refine lv_iinc (v := x27_l2 + 1) (lv' := [(2, .int (x27_l2 + 1)), (0, .ref a_o)]) hx hb dX10_tongue_53 hl (k := 1) rfl (congrArg (x27_l2 + ·) ic_1) (by decide) rfl (fun ls hl => ?_)
          refine lv_goto (tgt := 27) hx hb dX10_tongue_56 (by decide) ?_
          exact ih27 (x27_l2 + 1) z_50.1 z_50.2.1 z_50.2.2 H locs ls h (hP.sub [0, 12, 1, 2, 3, 4, 5, 9, 6, 7, 8, 10, 11] rfl) (hD.sub [0, 12, 1, 2, 3, 4, 5, 9, 6, 7, 8, 10, 11] (by decide) rfl) hS (lv_sub hl [1, 0] rfl)
    exact L27 QF 0 z_22.1 z_22.2 f_speech_values H locs ls h hP hD hS (lv_sub hl [2, 0] rfl)
  · replace h := if_e c_10 h
    refine lv_bipush (v := (-10)) hx hb dX10_tongue_13 bc_m10 ?_
    refine lv_iload_n hx hb dX10_tongue_15 rfl (lv_at hl 0 rfl) ?_
    refine lv_isub hx hb dX10_tongue_16 ?_
    have hz := Option.some.inj h
    subst hz
    exact hret H locs 17 ls (fun ty h => by cases h; rfl) (hP.sub [0, 10, 11, 1, 2, 3, 4, 5, 6, 8, 9, 12, 7] rfl) (hD.sub [0, 10, 11, 1, 2, 3, 4, 5, 6, 8, 9, 12, 7] (by decide) rfl) hS dX10_tongue_17
abbrev rmX0_sayings : Room := { frames := 0, cells := 0, slots := 0, locals := 0 }
theorem hdX0_sayings : yX0_sayings.cls = RX0 ∧ yX0_sayings.cls ≠ "java/lang/invoke/MethodHandle" ∧ yX0_sayings.cls ≠ "java/lang/invoke/VarHandle" ∧ (parseMethodDescriptor yX0_sayings.desc).map (fun d => d.parameters.length) = some 0 := by decide +kernel
set_option maxRecDepth 100000 in
set_option maxHeartbeats 4000000 in
theorem c_X0_sayings (l : Launch) (D : va_G) (cI cB cZ : ClassId) (a_o : Nat) (w_o_left : Value) (w_o_signs : Value) (w_o_wordSets : Value) (o_sayings : Int32) (o_words : Int32) (o_filled : Int32) (z : Int32) (h : P_X0_sayings o_sayings = some z) : KI l yX0_sayings wsX0_sayings rmX0_sayings D [(cI, .int), (cB, .byte), (cZ, .boolean)] [.ref a_o] [(a_o, .inr (0, [w_o_left, w_o_signs, w_o_wordSets, .int o_sayings, .int o_words, .int o_filled]))] [(a_o, .inr (0, [w_o_left, w_o_signs, w_o_wordSets, .int o_sayings, .int o_words, .int o_filled]))] z := by
  refine KI_of (own := RX0) (cc := cX0_sayings) (maxL := 1) (ret := some .int) (by decide) rfl rfl (Nat.le_of_ble_eq_true rfl) (Or.inl rfl) ?_
  intro p e s m args below meth c A Q hx hb hml hown hts hA hZ hK hret H locs ls hP hD hS hl
  have hl : lv_has ls 1 [(0, .ref a_o)] := hl
  have hF : CallFix p m c cX0_sayings 1 s args wsX0_sayings RX0 := ⟨hx, hb, hml, hown, hts⟩
  have u_X0 : ∀ w ∈ u_ws RX0 TX0 6, w ∈ wsX0_sayings := by decide +kernel
  have k_f0 := hts (.fieldLink RX0 19 "NoWordNo$Kept" "sayings" "I") (by decide +kernel)
  unfold P_X0_sayings at h
  refine lv_aload_n hx hb dX0_sayings_0 rfl (lv_at hl 0 rfl) ?_
  refine va_get (D := D) (ci := 0) (v := .int o_sayings) (C := RX0) (T := TX0) (N := 6) hx hb hts u_X0 hown hK hP 0 rfl rfl 3 (by decide) k_f0 (fun _ h9 => h9) rfl dX0_sayings_1 ?_
  have hz := Option.some.inj h
  subst hz
  exact hret H locs 4 ls (fun ty h => by cases h; rfl) hP hD hS dX0_sayings_4
abbrev rmX5_speech : Room := { frames := 0, cells := 0, slots := 0, locals := 0 }
theorem hdX5_speech : yX5_speech.cls = RX5 ∧ yX5_speech.cls ≠ "java/lang/invoke/MethodHandle" ∧ yX5_speech.cls ≠ "java/lang/invoke/VarHandle" ∧ (parseMethodDescriptor yX5_speech.desc).map (fun d => d.parameters.length) = some 0 := by decide +kernel
set_option maxRecDepth 100000 in
set_option maxHeartbeats 4000000 in
theorem c_X5_speech (l : Launch) (D : va_G) (cI cB cZ : ClassId) (a_o : Nat) (w_o_kept : Value) (a_tongue : Nat) (w_tongue_values : Value) (w_tongue_left : Value) (tongue_choices : Int32) (tongue_worlds : Int32) : KR l yX5_speech wsX5_speech rmX5_speech D [(cI, .int), (cB, .byte), (cZ, .boolean)] [.ref a_o] [(a_o, .inr (4, [.ref a_tongue, w_o_kept])), (a_tongue, .inr (7, [w_tongue_values, w_tongue_left, .int tongue_choices, .int tongue_worlds]))] [(a_o, .inr (4, [.ref a_tongue, w_o_kept])), (a_tongue, .inr (7, [w_tongue_values, w_tongue_left, .int tongue_choices, .int tongue_worlds]))] a_tongue := by
  refine KR_of (own := RX5) (cc := cX5_speech) (maxL := 1) (by decide) rfl rfl (Nat.le_of_ble_eq_true rfl) (Or.inl ⟨_, rfl⟩) ?_
  intro p e s m args below meth c A Q hx hb hml hown hts hA hZ hK hret H locs ls hP hD hS hl
  have hl : lv_has ls 1 [(0, .ref a_o)] := hl
  have hF : CallFix p m c cX5_speech 1 s args wsX5_speech RX5 := ⟨hx, hb, hml, hown, hts⟩
  have u_X5 : ∀ w ∈ u_ws RX5 TX5 2, w ∈ wsX5_speech := by decide +kernel
  have k_f0 := hts (.fieldLink RX5 9 "NoWordNo$Signs" "tongue" "LNoWordNo$Tongue;") (by decide +kernel)
  refine lv_aload_n hx hb dX5_speech_0 rfl (lv_at hl 0 rfl) ?_
  refine va_get (D := D) (ci := 4) (v := .ref a_tongue) (C := RX5) (T := TX5) (N := 2) hx hb hts u_X5 hown hK hP 0 rfl rfl 0 (by decide) k_f0 (fun _ h9 => h9) rfl dX5_speech_1 ?_
  exact hret H locs 4 ls hP hD hS dX5_speech_4
abbrev rmX8_all : Room := { frames := 0, cells := 0, slots := 0, locals := 0 }
theorem hdX8_all : yX8_all.cls = RX8 ∧ yX8_all.cls ≠ "java/lang/invoke/MethodHandle" ∧ yX8_all.cls ≠ "java/lang/invoke/VarHandle" ∧ (parseMethodDescriptor yX8_all.desc).map (fun d => d.parameters.length) = some 0 := by decide +kernel
set_option maxRecDepth 100000 in
set_option maxHeartbeats 4000000 in
theorem c_X8_all (l : Launch) (D : va_G) (cI cB cZ : ClassId) (a_o : Nat) (w_o_values : Value) (w_o_left : Value) (o_choices : Int32) (o_worlds : Int32) (z : Int32) (h : P_X8_all o_worlds = some z) : KI l yX8_all wsX8_all rmX8_all D [(cI, .int), (cB, .byte), (cZ, .boolean)] [.ref a_o] [(a_o, .inr (7, [w_o_values, w_o_left, .int o_choices, .int o_worlds]))] [(a_o, .inr (7, [w_o_values, w_o_left, .int o_choices, .int o_worlds]))] z := by
  refine KI_of (own := RX8) (cc := cX8_all) (maxL := 1) (ret := some .int) (by decide) rfl rfl (Nat.le_of_ble_eq_true rfl) (Or.inl rfl) ?_
  intro p e s m args below meth c A Q hx hb hml hown hts hA hZ hK hret H locs ls hP hD hS hl
  have hl : lv_has ls 1 [(0, .ref a_o)] := hl
  have hF : CallFix p m c cX8_all 1 s args wsX8_all RX8 := ⟨hx, hb, hml, hown, hts⟩
  have u_X8 : ∀ w ∈ u_ws RX8 TX8 4, w ∈ wsX8_all := by decide +kernel
  have k_f0 := hts (.fieldLink RX8 20 "NoWordNo$Tongue" "worlds" "I") (by decide +kernel)
  unfold P_X8_all at h
  refine lv_iconst (v := 1) hx hb dX8_all_0 ic_1 ?_
  refine lv_aload_n hx hb dX8_all_1 rfl (lv_at hl 0 rfl) ?_
  refine va_get (D := D) (ci := 7) (v := .int o_worlds) (C := RX8) (T := TX8) (N := 4) hx hb hts u_X8 hown hK hP 0 rfl rfl 3 (by decide) k_f0 (fun _ h9 => h9) rfl dX8_all_2 ?_
  refine lv_ishl hx hb dX8_all_5 ?_
  refine lv_iconst (v := 1) hx hb dX8_all_6 ic_1 ?_
  refine lv_isub hx hb dX8_all_7 ?_
  have hz := Option.some.inj h
  subst hz
  exact hret H locs 8 ls (fun ty h => by cases h; rfl) hP hD hS dX8_all_8
abbrev rmX2_openLevel : Room := { frames := 1, cells := 0, slots := 0, locals := 22 }
theorem hdX2_openLevel : yX2_openLevel.cls = RX2 ∧ yX2_openLevel.cls ≠ "java/lang/invoke/MethodHandle" ∧ yX2_openLevel.cls ≠ "java/lang/invoke/VarHandle" ∧ (parseMethodDescriptor yX2_openLevel.desc).map (fun d => d.parameters.length) = some 0 := by decide +kernel
set_option maxRecDepth 100000 in
set_option maxHeartbeats 4000000 in
theorem c_X2_openLevel (l : Launch) (D : va_G) (cI cB cZ : ClassId) (a_o : Nat) (w_o_tokens : Value) (w_o_values : Value) (o_choices : Int32) (o_depth : Int32) (o_many : Int32) (o_factorDue : Int32) (a_signs : Nat) (w_signs_kept : Value) (a_signs_tongue : Nat) (w_signs_tongue_values : Value) (w_signs_tongue_left : Value) (signs_tongue_choices : Int32) (signs_tongue_worlds : Int32) (a_termsLeft : Nat) (f_termsLeft : Nat → Int32) (a_factorsLeft : Nat) (f_factorsLeft : Nat → Int32) (z : Int32 × (Nat → Int32) × (Nat → Int32)) (h : P_X2_openLevel o_depth o_factorDue signs_tongue_worlds f_termsLeft f_factorsLeft = some z) : KV l yX2_openLevel wsX2_openLevel rmX2_openLevel D [(cI, .int), (cB, .byte), (cZ, .boolean)] [.ref a_o] [(a_o, .inr (2, [w_o_tokens, .ref a_signs, w_o_values, .int o_choices, .ref a_termsLeft, .ref a_factorsLeft, .int o_depth, .int o_many, .int o_factorDue])), (a_signs, .inr (4, [.ref a_signs_tongue, w_signs_kept])), (a_signs_tongue, .inr (7, [w_signs_tongue_values, w_signs_tongue_left, .int signs_tongue_choices, .int signs_tongue_worlds])), (a_termsLeft, .inl (cI, 10, .inl f_termsLeft)), (a_factorsLeft, .inl (cI, 10, .inl f_factorsLeft))] [(a_o, .inr (2, [w_o_tokens, .ref a_signs, w_o_values, .int o_choices, .ref a_termsLeft, .ref a_factorsLeft, .int o_depth, .int o_many, .int z.1])), (a_signs, .inr (4, [.ref a_signs_tongue, w_signs_kept])), (a_signs_tongue, .inr (7, [w_signs_tongue_values, w_signs_tongue_left, .int signs_tongue_choices, .int signs_tongue_worlds])), (a_termsLeft, .inl (cI, 10, .inl z.2.1)), (a_factorsLeft, .inl (cI, 10, .inl z.2.2))] := by
  refine KV_of (own := RX2) (cc := cX2_openLevel) (maxL := 1) (by decide) rfl rfl (Nat.le_of_ble_eq_true rfl) ?_
  intro p e s m args below meth c A Q hx hb hml hown hts hA hZ hK hret H locs ls hP hD hS hl
  have hl : lv_has ls 1 [(0, .ref a_o)] := hl
  have hF : CallFix p m c cX2_openLevel 1 s args wsX2_openLevel RX2 := ⟨hx, hb, hml, hown, hts⟩
  have u_X2 : ∀ w ∈ u_ws RX2 TX2 9, w ∈ wsX2_openLevel := by decide +kernel
  have k_f0 := hts (.fieldLink RX2 19 "NoWordNo$Reader" "termsLeft" "[I") (by decide +kernel)
  have k_f1 := hts (.fieldLink RX2 25 "NoWordNo$Reader" "depth" "I") (by decide +kernel)
  have k_f2 := hts (.fieldLink RX2 22 "NoWordNo$Reader" "factorsLeft" "[I") (by decide +kernel)
  have k_f3 := hts (.fieldLink RX2 44 "NoWordNo$Reader" "signs" "LNoWordNo$Signs;") (by decide +kernel)
  have k_f4 := hts (.fieldLink RX2 31 "NoWordNo$Reader" "factorDue" "Z") (by decide +kernel)
  unfold P_X2_openLevel at h
  refine lv_aload_n hx hb dX2_openLevel_0 rfl (lv_at hl 0 rfl) ?_
  refine va_get (D := D) (ci := 2) (v := .ref a_termsLeft) (C := RX2) (T := TX2) (N := 9) hx hb hts u_X2 hown hK hP 0 rfl rfl 4 (by decide) k_f0 (fun _ h9 => h9) rfl dX2_openLevel_1 ?_
  refine lv_aload_n hx hb dX2_openLevel_4 rfl (lv_at hl 0 rfl) ?_
  refine va_get (D := D) (ci := 2) (v := .int o_depth) (C := RX2) (T := TX2) (N := 9) hx hb hts u_X2 hown hK hP 0 rfl rfl 6 (by decide) k_f1 (fun _ h9 => h9) rfl dX2_openLevel_5 ?_
  refine lv_iconst (v := 0) hx hb dX2_openLevel_8 ic_0 ?_
  obtain ⟨z_9, hc_9, h⟩ := bd_e h
  refine q_vS (As := [.ref a_termsLeft, .int o_depth, .int 0]) (rest := []) (wF := [(a_o, .inr (2, [w_o_tokens, .ref a_signs, w_o_values, .int o_choices, .ref a_termsLeft, .ref a_factorsLeft, .int o_depth, .int o_many, .int o_factorDue])), (a_signs, .inr (4, [.ref a_signs_tongue, w_signs_kept])), (a_signs_tongue, .inr (7, [w_signs_tongue_values, w_signs_tongue_left, .int signs_tongue_choices, .int signs_tongue_worlds])), (a_factorsLeft, .inl (cI, 10, .inl f_factorsLeft)), (a_termsLeft, .inl (cI, 10, .inl z_9))]) hF hA hZ hK hP hD hS (c_X4_put l D cI cB cZ a_termsLeft 10 f_termsLeft o_depth 0 z_9 hc_9) rfl gX2_openLevel_X4_put hdX4_put ⟨rfl, rfl⟩ (Nat.le_of_ble_eq_true rfl) (Nat.le_of_ble_eq_true rfl) [3] [0, 1, 2, 4] rfl rfl rfl rfl (by decide) rfl hl.1 rfl (Nat.le_of_ble_eq_true rfl) (Nat.zero_le _) (Nat.zero_le _) dX2_openLevel_9 (fun H locs hP hD hS => ?_)
  refine lv_aload_n hx hb dX2_openLevel_12 rfl (lv_at hl 0 rfl) ?_
  refine va_get (D := D) (ci := 2) (v := .ref a_factorsLeft) (C := RX2) (T := TX2) (N := 9) hx hb hts u_X2 hown hK hP 0 rfl rfl 5 (by decide) k_f2 (fun _ h9 => h9) rfl dX2_openLevel_13 ?_
  refine lv_aload_n hx hb dX2_openLevel_16 rfl (lv_at hl 0 rfl) ?_
  refine va_get (D := D) (ci := 2) (v := .int o_depth) (C := RX2) (T := TX2) (N := 9) hx hb hts u_X2 hown hK hP 0 rfl rfl 6 (by decide) k_f1 (fun _ h9 => h9) rfl dX2_openLevel_17 ?_
  refine lv_aload_n hx hb dX2_openLevel_20 rfl (lv_at hl 0 rfl) ?_
  refine va_get (D := D) (ci := 2) (v := .ref a_signs) (C := RX2) (T := TX2) (N := 9) hx hb hts u_X2 hown hK hP 0 rfl rfl 1 (by decide) k_f3 (fun _ h9 => h9) rfl dX2_openLevel_21 ?_
  refine q_rV (As := []) (rest := [.int o_depth, .ref a_factorsLeft]) (wF := [(a_o, .inr (2, [w_o_tokens, .ref a_signs, w_o_values, .int o_choices, .ref a_termsLeft, .ref a_factorsLeft, .int o_depth, .int o_many, .int o_factorDue])), (a_factorsLeft, .inl (cI, 10, .inl f_factorsLeft)), (a_termsLeft, .inl (cI, 10, .inl z_9)), (a_signs, .inr (4, [.ref a_signs_tongue, w_signs_kept])), (a_signs_tongue, .inr (7, [w_signs_tongue_values, w_signs_tongue_left, .int signs_tongue_choices, .int signs_tongue_worlds]))]) hF hA hZ hK hP hD hS (c_X5_speech l D cI cB cZ a_signs w_signs_kept a_signs_tongue w_signs_tongue_values w_signs_tongue_left signs_tongue_choices signs_tongue_worlds) rfl gX2_openLevel_X5_speech hdX5_speech ⟨rfl, rfl⟩ (Nat.le_of_ble_eq_true rfl) (Nat.le_of_ble_eq_true rfl) 4 0 rfl rfl [1, 2] [0, 3, 4] rfl rfl rfl rfl (by decide) rfl hl.1 rfl (Nat.le_of_ble_eq_true rfl) (Nat.zero_le _) (Nat.zero_le _) dX2_openLevel_24 (fun H locs hP hD hS => ?_)
  obtain ⟨z_27, hc_27, h⟩ := bd_e h
  refine q_iV (As := []) (rest := [.int o_depth, .ref a_factorsLeft]) (wF := [(a_o, .inr (2, [w_o_tokens, .ref a_signs, w_o_values, .int o_choices, .ref a_termsLeft, .ref a_factorsLeft, .int o_depth, .int o_many, .int o_factorDue])), (a_factorsLeft, .inl (cI, 10, .inl f_factorsLeft)), (a_termsLeft, .inl (cI, 10, .inl z_9)), (a_signs, .inr (4, [.ref a_signs_tongue, w_signs_kept])), (a_signs_tongue, .inr (7, [w_signs_tongue_values, w_signs_tongue_left, .int signs_tongue_choices, .int signs_tongue_worlds]))]) hF hA hZ hK hP hD hS (c_X8_all l D cI cB cZ a_signs_tongue w_signs_tongue_values w_signs_tongue_left signs_tongue_choices signs_tongue_worlds z_27 hc_27) rfl gX2_openLevel_X8_all hdX8_all ⟨rfl, rfl⟩ (Nat.le_of_ble_eq_true rfl) (Nat.le_of_ble_eq_true rfl) 7 0 rfl rfl [4] [0, 1, 2, 3] rfl rfl rfl rfl (by decide) rfl hl.1 rfl (Nat.le_of_ble_eq_true rfl) (Nat.zero_le _) (Nat.zero_le _) dX2_openLevel_27 (fun H locs hP hD hS => ?_)
  obtain ⟨z_30, hc_30, h⟩ := bd_e h
  refine q_vS (As := [.ref a_factorsLeft, .int o_depth, .int z_27]) (rest := []) (wF := [(a_o, .inr (2, [w_o_tokens, .ref a_signs, w_o_values, .int o_choices, .ref a_termsLeft, .ref a_factorsLeft, .int o_depth, .int o_many, .int o_factorDue])), (a_termsLeft, .inl (cI, 10, .inl z_9)), (a_signs, .inr (4, [.ref a_signs_tongue, w_signs_kept])), (a_signs_tongue, .inr (7, [w_signs_tongue_values, w_signs_tongue_left, .int signs_tongue_choices, .int signs_tongue_worlds])), (a_factorsLeft, .inl (cI, 10, .inl z_30))]) hF hA hZ hK hP hD hS (c_X4_put l D cI cB cZ a_factorsLeft 10 f_factorsLeft o_depth z_27 z_30 hc_30) rfl gX2_openLevel_X4_put hdX4_put ⟨rfl, rfl⟩ (Nat.le_of_ble_eq_true rfl) (Nat.le_of_ble_eq_true rfl) [1] [0, 2, 3, 4] rfl rfl rfl rfl (by decide) rfl hl.1 rfl (Nat.le_of_ble_eq_true rfl) (Nat.zero_le _) (Nat.zero_le _) dX2_openLevel_30 (fun H locs hP hD hS => ?_)
  refine lv_aload_n hx hb dX2_openLevel_33 rfl (lv_at hl 0 rfl) ?_
  refine lv_iconst (v := 1) hx hb dX2_openLevel_34 ic_1 ?_
  refine va_put (D := D) (ci := 2) (v := .int 1) (ty := .boolean) (C := RX2) (T := TX2) (N := 9) hx hb hts u_X2 tyX2 tyX2_ok nmX2 hown hK hP hD hS 0 rfl rfl 8 (by decide) k_f4 (fun _ h9 => h9) rfl (tyX2_ok 8 (by decide)) rfl rfl (Nat.le_of_ble_eq_true rfl) dX2_openLevel_35 (fun H locs hP hD hS => ?_)
  have hP : va_P D vwCl [(a_o, .inr (2, [w_o_tokens, .ref a_signs, w_o_values, .int o_choices, .ref a_termsLeft, .ref a_factorsLeft, .int o_depth, .int o_many, .int 1])), (a_termsLeft, .inl (cI, 10, .inl z_9)), (a_signs, .inr (4, [.ref a_signs_tongue, w_signs_kept])), (a_signs_tongue, .inr (7, [w_signs_tongue_values, w_signs_tongue_left, .int signs_tongue_choices, .int signs_tongue_worlds])), (a_factorsLeft, .inl (cI, 10, .inl z_30))] H := hP
  have hD : va_D A [(a_o, .inr (2, [w_o_tokens, .ref a_signs, w_o_values, .int o_choices, .ref a_termsLeft, .ref a_factorsLeft, .int o_depth, .int o_many, .int 1])), (a_termsLeft, .inl (cI, 10, .inl z_9)), (a_signs, .inr (4, [.ref a_signs_tongue, w_signs_kept])), (a_signs_tongue, .inr (7, [w_signs_tongue_values, w_signs_tongue_left, .int signs_tongue_choices, .int signs_tongue_worlds])), (a_factorsLeft, .inl (cI, 10, .inl z_30))] := hD
  have hz := Option.some.inj h
  subst hz
  exact hret H locs 38 ls (hP.sub [0, 2, 3, 1, 4] rfl) (hD.sub [0, 2, 3, 1, 4] (by decide) rfl) hS dX2_openLevel_38
