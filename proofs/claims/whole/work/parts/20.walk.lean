abbrev rmX11_made : Room := { frames := 3, cells := 0, slots := 0, locals := 73 }
theorem hdX11_made : yX11_made.cls = RX11 ∧ yX11_made.cls ≠ "java/lang/invoke/MethodHandle" ∧ yX11_made.cls ≠ "java/lang/invoke/VarHandle" ∧ (parseMethodDescriptor yX11_made.desc).map (fun d => d.parameters.length) = some 2 := by decide +kernel
set_option maxRecDepth 100000 in
set_option maxHeartbeats 4000000 in
theorem c_X11_made (l : Launch) (D : va_G) (cI cB cZ : ClassId) (a_o : Nat) (o_trace : Int64) (w_o_text : Value) (o_typed : Int32) (o_choices : Int32) (o_worlds : Int32) (o_at : Int32) (o_start : Int32) (o_sort : Int32) (o_value : Int32) (o_fault : Int32) (w_o_draft : Value) (w_o_sayings : Value) (w_o_leaves : Value) (w_o_signs : Value) (w_o_isKept : Value) (w_o_some : Value) (w_o_every : Value) (o_deep : Int32) (o_many : Int32) (o_foundMany : Int32) (a_values : Nat) (f_values : Nat → Int32) (a_words : Nat) (f_words : Nat → Int32) (a_word : Nat) (f_word : Nat → Int32) (a_length : Nat) (f_length : Nat → Int32) (a_found : Nat) (f_found : Nat → Int32) (p1 : Int32) (p2 : Int32) (z : Int32 × Int32 × (Nat → Int32) × (Nat → Int32)) (h : P_X11_made p1 p2 o_choices o_worlds o_foundMany f_values f_words f_word f_length f_found = some z) : KI l yX11_made wsX11_made rmX11_made D [(cI, .int), (cB, .byte), (cZ, .boolean)] [.ref a_o, .int p1, .int p2] [(a_o, .inr (10, [.long o_trace, w_o_text, .int o_typed, .int o_choices, .int o_worlds, .ref a_values, .int o_at, .int o_start, .int o_sort, .int o_value, .int o_fault, w_o_draft, w_o_sayings, w_o_leaves, w_o_signs, .ref a_words, .ref a_word, w_o_isKept, w_o_some, w_o_every, .int o_deep, .int o_many, .ref a_length, .ref a_found, .int o_foundMany])), (a_values, .inl (cI, 3, .inl f_values)), (a_words, .inl (cI, 3, .inl f_words)), (a_word, .inl (cI, 9, .inl f_word)), (a_length, .inl (cI, 512, .inl f_length)), (a_found, .inl (cI, 512, .inl f_found))] [(a_o, .inr (10, [.long o_trace, w_o_text, .int o_typed, .int o_choices, .int o_worlds, .ref a_values, .int o_at, .int o_start, .int o_sort, .int o_value, .int o_fault, w_o_draft, w_o_sayings, w_o_leaves, w_o_signs, .ref a_words, .ref a_word, w_o_isKept, w_o_some, w_o_every, .int o_deep, .int o_many, .ref a_length, .ref a_found, .int z.2.1])), (a_values, .inl (cI, 3, .inl f_values)), (a_words, .inl (cI, 3, .inl f_words)), (a_word, .inl (cI, 9, .inl f_word)), (a_length, .inl (cI, 512, .inl z.2.2.1)), (a_found, .inl (cI, 512, .inl z.2.2.2))] z.1 := by
  refine KI_of (own := RX11) (cc := cX11_made) (maxL := 7) (ret := some .int) (by decide) rfl rfl (Nat.le_of_ble_eq_true rfl) (Or.inl rfl) ?_
  intro p e s m args below meth c A Q hx hb hml hown hts hA hZ hK hret H locs ls hP hD hS hl
  have hl : lv_has ls 7 [(0, .ref a_o), (1, .int p1), (2, .int p2)] := hl
  have hF : CallFix p m c cX11_made 7 s args wsX11_made RX11 := ⟨hx, hb, hml, hown, hts⟩
  have u_X11 : ∀ w ∈ u_ws RX11 TX11 25, w ∈ wsX11_made := by decide +kernel
  have k_f0 := hts (.fieldLink RX11 45 "NoWordNoModel" "length" "[I") (by decide +kernel)
  unfold P_X11_made at h
  refine lv_aload_n hx hb dX11_made_0 rfl (lv_at hl 0 rfl) ?_
  refine lv_iload_n hx hb dX11_made_1 rfl (lv_at hl 1 rfl) ?_
  obtain ⟨z_2, hc_2, h⟩ := bd_e h
  refine q_iV (As := [.int p1]) (rest := []) (wF := [(a_values, .inl (cI, 3, .inl f_values)), (a_words, .inl (cI, 3, .inl f_words)), (a_word, .inl (cI, 9, .inl f_word)), (a_length, .inl (cI, 512, .inl f_length)), (a_found, .inl (cI, 512, .inl f_found)), (a_o, .inr (10, [.long o_trace, w_o_text, .int o_typed, .int o_choices, .int o_worlds, .ref a_values, .int o_at, .int o_start, .int o_sort, .int o_value, .int o_fault, w_o_draft, w_o_sayings, w_o_leaves, w_o_signs, .ref a_words, .ref a_word, w_o_isKept, w_o_some, w_o_every, .int o_deep, .int o_many, .ref a_length, .ref a_found, .int o_foundMany]))]) hF hA hZ hK hP hD hS (c_X11_isSet l D cI cB cZ a_o o_trace w_o_text o_typed o_choices o_worlds (.ref a_values) o_at o_start o_sort o_value o_fault w_o_draft w_o_sayings w_o_leaves w_o_signs (.ref a_words) (.ref a_word) w_o_isKept w_o_some w_o_every o_deep o_many (.ref a_length) (.ref a_found) o_foundMany p1 z_2 hc_2) rfl gX11_made_X11_isSet hdX11_isSet ⟨rfl, rfl⟩ (Nat.le_of_ble_eq_true rfl) (Nat.le_of_ble_eq_true rfl) 10 0 rfl rfl [0] [1, 2, 3, 4, 5] rfl rfl rfl rfl (by decide) rfl hl.1 rfl (Nat.le_of_ble_eq_true rfl) (Nat.zero_le _) (Nat.zero_le _) dX11_made_2 (fun H locs hP hD hS => ?_)
  refine lv_if_eq (tgt := 17) hx hb dX11_made_5 (by decide) (fun c_5 => ?_) (fun c_5 => ?_)
  · replace h := it_e c_5 h
    refine lv_iconst (v := (-1)) hx hb dX11_made_17 ic_m1 ?_
    have hz := Option.some.inj h
    subst hz
    exact hret H locs 18 ls (fun ty h => by cases h; rfl) (hP.sub [5, 0, 1, 2, 3, 4] rfl) (hD.sub [5, 0, 1, 2, 3, 4] (by decide) rfl) hS dX11_made_18
  · replace h := if_e c_5 h
    refine lv_iload_n hx hb dX11_made_8 rfl (lv_at hl 2 rfl) ?_
    refine lv_iconst (v := 0) hx hb dX11_made_9 ic_0 ?_
    refine lv_iconst (v := 2) hx hb dX11_made_10 ic_2 ?_
    obtain ⟨z_11, hc_11, h⟩ := bd_e h
    refine q_iS (As := [.int p2, .int 0, .int 2]) (rest := []) (wF := [(a_values, .inl (cI, 3, .inl f_values)), (a_words, .inl (cI, 3, .inl f_words)), (a_word, .inl (cI, 9, .inl f_word)), (a_length, .inl (cI, 512, .inl f_length)), (a_found, .inl (cI, 512, .inl f_found)), (a_o, .inr (10, [.long o_trace, w_o_text, .int o_typed, .int o_choices, .int o_worlds, .ref a_values, .int o_at, .int o_start, .int o_sort, .int o_value, .int o_fault, w_o_draft, w_o_sayings, w_o_leaves, w_o_signs, .ref a_words, .ref a_word, w_o_isKept, w_o_some, w_o_every, .int o_deep, .int o_many, .ref a_length, .ref a_found, .int o_foundMany]))]) hF hA hZ hK hP hD hS (c_X11_in l D cI cB cZ p2 0 2 z_11 hc_11) rfl gX11_made_X11_in hdX11_in ⟨rfl, rfl⟩ (Nat.le_of_ble_eq_true rfl) (Nat.le_of_ble_eq_true rfl) [] [0, 1, 2, 3, 4, 5] rfl rfl rfl rfl (by decide) rfl hl.1 rfl (Nat.le_of_ble_eq_true rfl) (Nat.zero_le _) (Nat.zero_le _) dX11_made_11 (fun H locs hP hD hS => ?_)
    refine lv_if_ne (tgt := 19) hx hb dX11_made_14 (by decide) (fun c_14 => ?_) (fun c_14 => ?_)
    · replace h := if_e c_14 h
      refine lv_aload_n hx hb dX11_made_19 rfl (lv_at hl 0 rfl) ?_
      refine lv_iconst (v := (-1)) hx hb dX11_made_20 ic_m1 ?_
      obtain ⟨z_21, hc_21, h⟩ := bd_e h
      refine q_vV (As := [.int (-1)]) (rest := []) (wF := [(a_o, .inr (10, [.long o_trace, w_o_text, .int o_typed, .int o_choices, .int o_worlds, .ref a_values, .int o_at, .int o_start, .int o_sort, .int o_value, .int o_fault, w_o_draft, w_o_sayings, w_o_leaves, w_o_signs, .ref a_words, .ref a_word, w_o_isKept, w_o_some, w_o_every, .int o_deep, .int o_many, .ref a_length, .ref a_found, .int z_21.1])), (a_values, .inl (cI, 3, .inl f_values)), (a_words, .inl (cI, 3, .inl f_words)), (a_word, .inl (cI, 9, .inl f_word)), (a_length, .inl (cI, 512, .inl z_21.2.1)), (a_found, .inl (cI, 512, .inl z_21.2.2))]) hF hA hZ hK hP hD hS (c_X11_findAll l D cI cB cZ a_o o_trace w_o_text o_typed o_choices o_worlds o_at o_start o_sort o_value o_fault w_o_draft w_o_sayings w_o_leaves w_o_signs w_o_isKept w_o_some w_o_every o_deep o_many o_foundMany a_values f_values a_words f_words a_word f_word a_length f_length a_found f_found (-1) z_21 hc_21) rfl gX11_made_X11_findAll hdX11_findAll ⟨rfl, rfl⟩ (Nat.le_of_ble_eq_true rfl) (Nat.le_of_ble_eq_true rfl) 10 0 rfl rfl [5, 0, 1, 2, 3, 4] [] rfl rfl rfl rfl (by decide) rfl hl.1 rfl (Nat.le_of_ble_eq_true rfl) (Nat.zero_le _) (Nat.zero_le _) dX11_made_21 (fun H locs hP hD hS => ?_)
      refine lv_aload_n hx hb dX11_made_24 rfl (lv_at hl 0 rfl) ?_
      refine va_get (D := D) (ci := 10) (v := .ref a_length) (C := RX11) (T := TX11) (N := 25) hx hb hts u_X11 hown hK hP 0 rfl rfl 22 (by decide) k_f0 (fun _ h9 => h9) rfl dX11_made_25 ?_
      refine lv_iload_n hx hb dX11_made_28 rfl (lv_at hl 1 rfl) ?_
      obtain ⟨hi_29, h⟩ := ck_e h
      refine va_iald hx hb hK hP 4 0 rfl rfl hi_29 dX11_made_29 ?_
      refine lv_if_ne (tgt := 36) hx hb dX11_made_30 (by decide) (fun c_30 => ?_) (fun c_30 => ?_)
      · replace h := if_e c_30 h
        refine lv_aload_n hx hb dX11_made_36 rfl (lv_at hl 0 rfl) ?_
        refine va_get (D := D) (ci := 10) (v := .ref a_length) (C := RX11) (T := TX11) (N := 25) hx hb hts u_X11 hown hK hP 0 rfl rfl 22 (by decide) k_f0 (fun _ h9 => h9) rfl dX11_made_37 ?_
        refine lv_iload_n hx hb dX11_made_40 rfl (lv_at hl 1 rfl) ?_
        obtain ⟨hi_41, h⟩ := ck_e h
        refine va_iald hx hb hK hP 4 0 rfl rfl hi_41 dX11_made_41 ?_
        refine lv_iconst (v := 1) hx hb dX11_made_42 ic_1 ?_
        refine lv_icmp_ne (tgt := 61) hx hb dX11_made_43 (by decide) (fun c_43 => ?_) (fun c_43 => ?_)
        · replace h := if_e c_43 h
          refine lv_iconst (v := 1) hx hb dX11_made_61 ic_1 ?_
          refine lv_istore_n (lv' := [(3, .int 1), (0, .ref a_o), (1, .int p1), (2, .int p2)]) hx hb dX11_made_62 rfl hl (by decide) rfl (fun ls hl => ?_)
          obtain ⟨k170, hk170, h⟩ := jn_e h
          have Jk170 : ∀ (x170_l3 : Int32) (x170_l4 : Int32) (x170_l5 : Int32) (H : Heap) (locs : List Loc) (ls : Array Slot), k170 x170_l3 x170_l4 x170_l5 = some z → va_P D vwCl [(a_o, .inr (10, [.long o_trace, w_o_text, .int o_typed, .int o_choices, .int o_worlds, .ref a_values, .int o_at, .int o_start, .int o_sort, .int o_value, .int o_fault, w_o_draft, w_o_sayings, w_o_leaves, w_o_signs, .ref a_words, .ref a_word, w_o_isKept, w_o_some, w_o_every, .int o_deep, .int o_many, .ref a_length, .ref a_found, .int z_21.1])), (a_values, .inl (cI, 3, .inl f_values)), (a_words, .inl (cI, 3, .inl f_words)), (a_word, .inl (cI, 9, .inl f_word)), (a_length, .inl (cI, 512, .inl z_21.2.1)), (a_found, .inl (cI, 512, .inl z_21.2.2))] H → va_D A [(a_o, .inr (10, [.long o_trace, w_o_text, .int o_typed, .int o_choices, .int o_worlds, .ref a_values, .int o_at, .int o_start, .int o_sort, .int o_value, .int o_fault, w_o_draft, w_o_sayings, w_o_leaves, w_o_signs, .ref a_words, .ref a_word, w_o_isKept, w_o_some, w_o_every, .int o_deep, .int o_many, .ref a_length, .ref a_found, .int z_21.1])), (a_values, .inl (cI, 3, .inl f_values)), (a_words, .inl (cI, 3, .inl f_words)), (a_word, .inl (cI, 9, .inl f_word)), (a_length, .inl (cI, 512, .inl z_21.2.1)), (a_found, .inl (cI, 512, .inl z_21.2.2))] → va_S A s.heap H locs → lv_has ls 7 [(2, .int p2), (3, .int x170_l3), (4, .int x170_l4), (5, .int x170_l5)] → W p l e rmX11_made s m args below meth c H locs 0 0 Q (F0 m 170 ls []) := by
            intro x170_l3 x170_l4 x170_l5 H locs ls h hP hD hS hl
            rw [hk170] at h
            refine lv_iload_n hx hb dX11_made_170 rfl (lv_at hl 0 rfl) ?_
            refine lv_if_ne (tgt := 178) hx hb dX11_made_171 (by decide) (fun c_171 => ?_) (fun c_171 => ?_)
            · replace h := if_e c_171 h
              refine lv_iload_n hx hb dX11_made_178 rfl (lv_at hl 0 rfl) ?_
              refine lv_iconst (v := 1) hx hb dX11_made_179 ic_1 ?_
              refine lv_icmp_ne (tgt := 188) hx hb dX11_made_180 (by decide) (fun c_180 => ?_) (fun c_180 => ?_)
              · replace h := if_e c_180 h
                refine lv_iload hx hb dX11_made_188 (lv_at hl 3 rfl) ?_
                have hz := Option.some.inj h
                subst hz
                exact hret H locs 190 ls (fun ty h => by cases h; rfl) hP hD hS dX11_made_190
              · replace h := it_e c_180 h
                refine lv_iload hx hb dX11_made_183 (lv_at hl 2 rfl) ?_
                refine lv_goto (tgt := 190) hx hb dX11_made_185 (by decide) ?_
                have hz := Option.some.inj h
                subst hz
                exact hret H locs 190 ls (fun ty h => by cases h; rfl) hP hD hS dX11_made_190
            · replace h := it_e c_171 h
              refine lv_iload_n hx hb dX11_made_174 rfl (lv_at hl 1 rfl) ?_
              refine lv_goto (tgt := 190) hx hb dX11_made_175 (by decide) ?_
              have hz := Option.some.inj h
              subst hz
              exact hret H locs 190 ls (fun ty h => by cases h; rfl) hP hD hS dX11_made_190
          have L63 : ∀ (n : Nat), ∀ (x63_l3 : Int32) (H : Heap) (locs : List Loc) (ls : Array Slot), P_X11_made_63 p1 o_worlds z_21 k170 n x63_l3 = some z → va_P D vwCl [(a_o, .inr (10, [.long o_trace, w_o_text, .int o_typed, .int o_choices, .int o_worlds, .ref a_values, .int o_at, .int o_start, .int o_sort, .int o_value, .int o_fault, w_o_draft, w_o_sayings, w_o_leaves, w_o_signs, .ref a_words, .ref a_word, w_o_isKept, w_o_some, w_o_every, .int o_deep, .int o_many, .ref a_length, .ref a_found, .int z_21.1])), (a_values, .inl (cI, 3, .inl f_values)), (a_words, .inl (cI, 3, .inl f_words)), (a_word, .inl (cI, 9, .inl f_word)), (a_length, .inl (cI, 512, .inl z_21.2.1)), (a_found, .inl (cI, 512, .inl z_21.2.2))] H → va_D A [(a_o, .inr (10, [.long o_trace, w_o_text, .int o_typed, .int o_choices, .int o_worlds, .ref a_values, .int o_at, .int o_start, .int o_sort, .int o_value, .int o_fault, w_o_draft, w_o_sayings, w_o_leaves, w_o_signs, .ref a_words, .ref a_word, w_o_isKept, w_o_some, w_o_every, .int o_deep, .int o_many, .ref a_length, .ref a_found, .int z_21.1])), (a_values, .inl (cI, 3, .inl f_values)), (a_words, .inl (cI, 3, .inl f_words)), (a_word, .inl (cI, 9, .inl f_word)), (a_length, .inl (cI, 512, .inl z_21.2.1)), (a_found, .inl (cI, 512, .inl z_21.2.2))] → va_S A s.heap H locs → lv_has ls 7 [(0, .ref a_o), (1, .int p1), (2, .int p2), (3, .int x63_l3)] → W p l e rmX11_made s m args below meth c H locs 0 0 Q (F0 m 63 ls []) := by
            intro n
            induction n with
            | zero =>
              intro x63_l3 H locs ls h
              exact no_e h
            | succ n ih63 =>
              intro x63_l3 H locs ls h hP hD hS hl
              rw [P_X11_made_63] at h
              refine lv_iload_n hx hb dX11_made_63 rfl (lv_at hl 3 rfl) ?_
              refine lv_iconst (v := 2) hx hb dX11_made_64 ic_2 ?_
              refine lv_icmp_gt (tgt := 209) hx hb dX11_made_65 (by decide) (fun c_65 => ?_) (fun c_65 => ?_)
              · replace h := it_e c_65 h
                refine lv_bipush (v := (-9)) hx hb dX11_made_209 bc_m9 ?_
                have hz := Option.some.inj h
                subst hz
                exact hret H locs 211 ls (fun ty h => by cases h; rfl) hP hD hS dX11_made_211
              · replace h := if_e c_65 h
                refine lv_iconst (v := 0) hx hb dX11_made_68 ic_0 ?_
                refine lv_istore (lv' := [(4, .int 0), (0, .ref a_o), (1, .int p1), (2, .int p2), (3, .int x63_l3)]) hx hb dX11_made_69 hl (by decide) rfl (fun ls hl => ?_)
                obtain ⟨k203, hk203, h⟩ := jn_e h
                have Jk203 : ∀ (H : Heap) (locs : List Loc) (ls : Array Slot), k203 () = some z → va_P D vwCl [(a_o, .inr (10, [.long o_trace, w_o_text, .int o_typed, .int o_choices, .int o_worlds, .ref a_values, .int o_at, .int o_start, .int o_sort, .int o_value, .int o_fault, w_o_draft, w_o_sayings, w_o_leaves, w_o_signs, .ref a_words, .ref a_word, w_o_isKept, w_o_some, w_o_every, .int o_deep, .int o_many, .ref a_length, .ref a_found, .int z_21.1])), (a_values, .inl (cI, 3, .inl f_values)), (a_words, .inl (cI, 3, .inl f_words)), (a_word, .inl (cI, 9, .inl f_word)), (a_length, .inl (cI, 512, .inl z_21.2.1)), (a_found, .inl (cI, 512, .inl z_21.2.2))] H → va_D A [(a_o, .inr (10, [.long o_trace, w_o_text, .int o_typed, .int o_choices, .int o_worlds, .ref a_values, .int o_at, .int o_start, .int o_sort, .int o_value, .int o_fault, w_o_draft, w_o_sayings, w_o_leaves, w_o_signs, .ref a_words, .ref a_word, w_o_isKept, w_o_some, w_o_every, .int o_deep, .int o_many, .ref a_length, .ref a_found, .int z_21.1])), (a_values, .inl (cI, 3, .inl f_values)), (a_words, .inl (cI, 3, .inl f_words)), (a_word, .inl (cI, 9, .inl f_word)), (a_length, .inl (cI, 512, .inl z_21.2.1)), (a_found, .inl (cI, 512, .inl z_21.2.2))] → va_S A s.heap H locs → lv_has ls 7 [(0, .ref a_o), (1, .int p1), (2, .int p2), (3, .int x63_l3)] → W p l e rmX11_made s m args below meth c H locs 0 0 Q (F0 m 203 ls []) := by
                  intro H locs ls h hP hD hS hl
                  rw [hk203] at h
                  refine lv_iinc (v := x63_l3 + 1) (lv' := [(3, .int (x63_l3 + 1)), (0, .ref a_o), (1, .int p1), (2, .int p2)]) hx hb dX11_made_203 hl (k := 3) rfl (congrArg (x63_l3 + ·) ic_1) (by decide) rfl (fun ls hl => ?_)
                  refine lv_goto (tgt := 63) hx hb dX11_made_206 (by decide) ?_
                  exact ih63 (x63_l3 + 1) H locs ls h hP hD hS (lv_sub hl [1, 2, 3, 0] rfl)
                have L71 : ∀ (n : Nat), ∀ (x71_l4 : Int32) (H : Heap) (locs : List Loc) (ls : Array Slot), P_X11_made_71 p1 o_worlds z_21 k170 x63_l3 k203 n x71_l4 = some z → va_P D vwCl [(a_o, .inr (10, [.long o_trace, w_o_text, .int o_typed, .int o_choices, .int o_worlds, .ref a_values, .int o_at, .int o_start, .int o_sort, .int o_value, .int o_fault, w_o_draft, w_o_sayings, w_o_leaves, w_o_signs, .ref a_words, .ref a_word, w_o_isKept, w_o_some, w_o_every, .int o_deep, .int o_many, .ref a_length, .ref a_found, .int z_21.1])), (a_values, .inl (cI, 3, .inl f_values)), (a_words, .inl (cI, 3, .inl f_words)), (a_word, .inl (cI, 9, .inl f_word)), (a_length, .inl (cI, 512, .inl z_21.2.1)), (a_found, .inl (cI, 512, .inl z_21.2.2))] H → va_D A [(a_o, .inr (10, [.long o_trace, w_o_text, .int o_typed, .int o_choices, .int o_worlds, .ref a_values, .int o_at, .int o_start, .int o_sort, .int o_value, .int o_fault, w_o_draft, w_o_sayings, w_o_leaves, w_o_signs, .ref a_words, .ref a_word, w_o_isKept, w_o_some, w_o_every, .int o_deep, .int o_many, .ref a_length, .ref a_found, .int z_21.1])), (a_values, .inl (cI, 3, .inl f_values)), (a_words, .inl (cI, 3, .inl f_words)), (a_word, .inl (cI, 9, .inl f_word)), (a_length, .inl (cI, 512, .inl z_21.2.1)), (a_found, .inl (cI, 512, .inl z_21.2.2))] → va_S A s.heap H locs → lv_has ls 7 [(0, .ref a_o), (1, .int p1), (2, .int p2), (3, .int x63_l3), (4, .int x71_l4)] → W p l e rmX11_made s m args below meth c H locs 0 0 Q (F0 m 71 ls []) := by
                  intro n
                  induction n with
                  | zero =>
                    intro x71_l4 H locs ls h
                    exact no_e h
                  | succ n ih71 =>
                    intro x71_l4 H locs ls h hP hD hS hl
                    rw [P_X11_made_71] at h
                    refine lv_iload hx hb dX11_made_71 (lv_at hl 4 rfl) ?_
                    refine lv_aload_n hx hb dX11_made_73 rfl (lv_at hl 0 rfl) ?_
                    obtain ⟨z_74, hc_74, h⟩ := bd_e h
                    refine q_iV (As := []) (rest := [.int x71_l4]) (wF := [(a_values, .inl (cI, 3, .inl f_values)), (a_words, .inl (cI, 3, .inl f_words)), (a_word, .inl (cI, 9, .inl f_word)), (a_length, .inl (cI, 512, .inl z_21.2.1)), (a_found, .inl (cI, 512, .inl z_21.2.2)), (a_o, .inr (10, [.long o_trace, w_o_text, .int o_typed, .int o_choices, .int o_worlds, .ref a_values, .int o_at, .int o_start, .int o_sort, .int o_value, .int o_fault, w_o_draft, w_o_sayings, w_o_leaves, w_o_signs, .ref a_words, .ref a_word, w_o_isKept, w_o_some, w_o_every, .int o_deep, .int o_many, .ref a_length, .ref a_found, .int z_21.1]))]) hF hA hZ hK hP hD hS (c_X11_allSets l D cI cB cZ a_o o_trace w_o_text o_typed o_choices o_worlds (.ref a_values) o_at o_start o_sort o_value o_fault w_o_draft w_o_sayings w_o_leaves w_o_signs (.ref a_words) (.ref a_word) w_o_isKept w_o_some w_o_every o_deep o_many (.ref a_length) (.ref a_found) z_21.1 z_74 hc_74) rfl gX11_made_X11_allSets hdX11_allSets ⟨rfl, rfl⟩ (Nat.le_of_ble_eq_true rfl) (Nat.le_of_ble_eq_true rfl) 10 0 rfl rfl [0] [1, 2, 3, 4, 5] rfl rfl rfl rfl (by decide) rfl hl.1 rfl (Nat.le_of_ble_eq_true rfl) (Nat.zero_le _) (Nat.zero_le _) dX11_made_74 (fun H locs hP hD hS => ?_)
                    refine lv_icmp_gt (tgt := 203) hx hb dX11_made_77 (by decide) (fun c_77 => ?_) (fun c_77 => ?_)
                    · replace h := it_e c_77 h
                      exact Jk203  H locs ls h (hP.sub [5, 0, 1, 2, 3, 4] rfl) (hD.sub [5, 0, 1, 2, 3, 4] (by decide) rfl) hS (lv_sub hl [0, 1, 2, 3] rfl)
                    · replace h := if_e c_77 h
                      refine lv_iconst (v := 0) hx hb dX11_made_80 ic_0 ?_
                      refine lv_istore (lv' := [(5, .int 0), (0, .ref a_o), (1, .int p1), (2, .int p2), (3, .int x63_l3), (4, .int x71_l4)]) hx hb dX11_made_81 hl (by decide) rfl (fun ls hl => ?_)
                      obtain ⟨k197, hk197, h⟩ := jn_e h
                      have Jk197 : ∀ (H : Heap) (locs : List Loc) (ls : Array Slot), k197 () = some z → va_P D vwCl [(a_values, .inl (cI, 3, .inl f_values)), (a_words, .inl (cI, 3, .inl f_words)), (a_word, .inl (cI, 9, .inl f_word)), (a_length, .inl (cI, 512, .inl z_21.2.1)), (a_found, .inl (cI, 512, .inl z_21.2.2)), (a_o, .inr (10, [.long o_trace, w_o_text, .int o_typed, .int o_choices, .int o_worlds, .ref a_values, .int o_at, .int o_start, .int o_sort, .int o_value, .int o_fault, w_o_draft, w_o_sayings, w_o_leaves, w_o_signs, .ref a_words, .ref a_word, w_o_isKept, w_o_some, w_o_every, .int o_deep, .int o_many, .ref a_length, .ref a_found, .int z_21.1]))] H → va_D A [(a_values, .inl (cI, 3, .inl f_values)), (a_words, .inl (cI, 3, .inl f_words)), (a_word, .inl (cI, 9, .inl f_word)), (a_length, .inl (cI, 512, .inl z_21.2.1)), (a_found, .inl (cI, 512, .inl z_21.2.2)), (a_o, .inr (10, [.long o_trace, w_o_text, .int o_typed, .int o_choices, .int o_worlds, .ref a_values, .int o_at, .int o_start, .int o_sort, .int o_value, .int o_fault, w_o_draft, w_o_sayings, w_o_leaves, w_o_signs, .ref a_words, .ref a_word, w_o_isKept, w_o_some, w_o_every, .int o_deep, .int o_many, .ref a_length, .ref a_found, .int z_21.1]))] → va_S A s.heap H locs → lv_has ls 7 [(0, .ref a_o), (1, .int p1), (2, .int p2), (3, .int x63_l3), (4, .int x71_l4)] → W p l e rmX11_made s m args below meth c H locs 0 0 Q (F0 m 197 ls []) := by
                        intro H locs ls h hP hD hS hl
                        rw [hk197] at h
                        refine lv_iinc (v := x71_l4 + 1) (lv' := [(4, .int (x71_l4 + 1)), (0, .ref a_o), (1, .int p1), (2, .int p2), (3, .int x63_l3)]) hx hb dX11_made_197 hl (k := 4) rfl (congrArg (x71_l4 + ·) ic_1) (by decide) rfl (fun ls hl => ?_)
                        refine lv_goto (tgt := 71) hx hb dX11_made_200 (by decide) ?_
                        exact ih71 (x71_l4 + 1) H locs ls h (hP.sub [5, 0, 1, 2, 3, 4] rfl) (hD.sub [5, 0, 1, 2, 3, 4] (by decide) rfl) hS (lv_sub hl [1, 2, 3, 4, 0] rfl)
                      have L83 : ∀ (n : Nat), ∀ (x83_l5 : Int32) (H : Heap) (locs : List Loc) (ls : Array Slot), P_X11_made_83 p1 o_worlds z_21 k170 x63_l3 x71_l4 k197 n x83_l5 = some z → va_P D vwCl [(a_values, .inl (cI, 3, .inl f_values)), (a_words, .inl (cI, 3, .inl f_words)), (a_word, .inl (cI, 9, .inl f_word)), (a_length, .inl (cI, 512, .inl z_21.2.1)), (a_found, .inl (cI, 512, .inl z_21.2.2)), (a_o, .inr (10, [.long o_trace, w_o_text, .int o_typed, .int o_choices, .int o_worlds, .ref a_values, .int o_at, .int o_start, .int o_sort, .int o_value, .int o_fault, w_o_draft, w_o_sayings, w_o_leaves, w_o_signs, .ref a_words, .ref a_word, w_o_isKept, w_o_some, w_o_every, .int o_deep, .int o_many, .ref a_length, .ref a_found, .int z_21.1]))] H → va_D A [(a_values, .inl (cI, 3, .inl f_values)), (a_words, .inl (cI, 3, .inl f_words)), (a_word, .inl (cI, 9, .inl f_word)), (a_length, .inl (cI, 512, .inl z_21.2.1)), (a_found, .inl (cI, 512, .inl z_21.2.2)), (a_o, .inr (10, [.long o_trace, w_o_text, .int o_typed, .int o_choices, .int o_worlds, .ref a_values, .int o_at, .int o_start, .int o_sort, .int o_value, .int o_fault, w_o_draft, w_o_sayings, w_o_leaves, w_o_signs, .ref a_words, .ref a_word, w_o_isKept, w_o_some, w_o_every, .int o_deep, .int o_many, .ref a_length, .ref a_found, .int z_21.1]))] → va_S A s.heap H locs → lv_has ls 7 [(0, .ref a_o), (1, .int p1), (2, .int p2), (3, .int x63_l3), (4, .int x71_l4), (5, .int x83_l5)] → W p l e rmX11_made s m args below meth c H locs 0 0 Q (F0 m 83 ls []) := by
                        intro n
                        induction n with
                        | zero =>
                          intro x83_l5 H locs ls h
                          exact no_e h
                        | succ n ih83 =>
                          intro x83_l5 H locs ls h hP hD hS hl
                          rw [P_X11_made_83] at h
                          refine lv_iload hx hb dX11_made_83 (lv_at hl 5 rfl) ?_
                          refine lv_aload_n hx hb dX11_made_85 rfl (lv_at hl 0 rfl) ?_
                          obtain ⟨z_86, hc_86, h⟩ := bd_e h
                          refine q_iV (As := []) (rest := [.int x83_l5]) (wF := [(a_values, .inl (cI, 3, .inl f_values)), (a_words, .inl (cI, 3, .inl f_words)), (a_word, .inl (cI, 9, .inl f_word)), (a_length, .inl (cI, 512, .inl z_21.2.1)), (a_found, .inl (cI, 512, .inl z_21.2.2)), (a_o, .inr (10, [.long o_trace, w_o_text, .int o_typed, .int o_choices, .int o_worlds, .ref a_values, .int o_at, .int o_start, .int o_sort, .int o_value, .int o_fault, w_o_draft, w_o_sayings, w_o_leaves, w_o_signs, .ref a_words, .ref a_word, w_o_isKept, w_o_some, w_o_every, .int o_deep, .int o_many, .ref a_length, .ref a_found, .int z_21.1]))]) hF hA hZ hK hP hD hS (c_X11_allSets l D cI cB cZ a_o o_trace w_o_text o_typed o_choices o_worlds (.ref a_values) o_at o_start o_sort o_value o_fault w_o_draft w_o_sayings w_o_leaves w_o_signs (.ref a_words) (.ref a_word) w_o_isKept w_o_some w_o_every o_deep o_many (.ref a_length) (.ref a_found) z_21.1 z_86 hc_86) rfl gX11_made_X11_allSets hdX11_allSets ⟨rfl, rfl⟩ (Nat.le_of_ble_eq_true rfl) (Nat.le_of_ble_eq_true rfl) 10 0 rfl rfl [5] [0, 1, 2, 3, 4] rfl rfl rfl rfl (by decide) rfl hl.1 rfl (Nat.le_of_ble_eq_true rfl) (Nat.zero_le _) (Nat.zero_le _) dX11_made_86 (fun H locs hP hD hS => ?_)
                          refine lv_icmp_gt (tgt := 197) hx hb dX11_made_89 (by decide) (fun c_89 => ?_) (fun c_89 => ?_)
                          · replace h := it_e c_89 h
                            exact Jk197  H locs ls h hP hD hS (lv_sub hl [0, 1, 2, 3, 4] rfl)
                          · replace h := if_e c_89 h
                            refine lv_aload_n hx hb dX11_made_92 rfl (lv_at hl 0 rfl) ?_
                            refine va_get (D := D) (ci := 10) (v := .ref a_length) (C := RX11) (T := TX11) (N := 25) hx hb hts u_X11 hown hK hP 5 rfl rfl 22 (by decide) k_f0 (fun _ h9 => h9) rfl dX11_made_93 ?_
                            refine lv_iload hx hb dX11_made_96 (lv_at hl 4 rfl) ?_
                            obtain ⟨hi_98, h⟩ := ck_e h
                            refine va_iald hx hb hK hP 3 0 rfl rfl hi_98 dX11_made_98 ?_
                            refine lv_if_le (tgt := 197) hx hb dX11_made_99 (by decide) (fun c_99 => ?_) (fun c_99 => ?_)
                            · replace h := it_e c_99 h
                              exact Jk197  H locs ls h hP hD hS (lv_sub hl [0, 1, 2, 3, 4] rfl)
                            · replace h := if_e c_99 h
                              refine lv_aload_n hx hb dX11_made_102 rfl (lv_at hl 0 rfl) ?_
                              refine va_get (D := D) (ci := 10) (v := .ref a_length) (C := RX11) (T := TX11) (N := 25) hx hb hts u_X11 hown hK hP 5 rfl rfl 22 (by decide) k_f0 (fun _ h9 => h9) rfl dX11_made_103 ?_
                              refine lv_iload hx hb dX11_made_106 (lv_at hl 5 rfl) ?_
                              obtain ⟨hi_108, h⟩ := ck_e h
                              refine va_iald hx hb hK hP 3 0 rfl rfl hi_108 dX11_made_108 ?_
                              obtain ⟨j162, hj162, h⟩ := jn_e h
                              have Jj162 : ∀ (H : Heap) (locs : List Loc) (ls : Array Slot), j162 () = some z → va_P D vwCl [(a_values, .inl (cI, 3, .inl f_values)), (a_words, .inl (cI, 3, .inl f_words)), (a_word, .inl (cI, 9, .inl f_word)), (a_length, .inl (cI, 512, .inl z_21.2.1)), (a_found, .inl (cI, 512, .inl z_21.2.2)), (a_o, .inr (10, [.long o_trace, w_o_text, .int o_typed, .int o_choices, .int o_worlds, .ref a_values, .int o_at, .int o_start, .int o_sort, .int o_value, .int o_fault, w_o_draft, w_o_sayings, w_o_leaves, w_o_signs, .ref a_words, .ref a_word, w_o_isKept, w_o_some, w_o_every, .int o_deep, .int o_many, .ref a_length, .ref a_found, .int z_21.1]))] H → va_D A [(a_values, .inl (cI, 3, .inl f_values)), (a_words, .inl (cI, 3, .inl f_words)), (a_word, .inl (cI, 9, .inl f_word)), (a_length, .inl (cI, 512, .inl z_21.2.1)), (a_found, .inl (cI, 512, .inl z_21.2.2)), (a_o, .inr (10, [.long o_trace, w_o_text, .int o_typed, .int o_choices, .int o_worlds, .ref a_values, .int o_at, .int o_start, .int o_sort, .int o_value, .int o_fault, w_o_draft, w_o_sayings, w_o_leaves, w_o_signs, .ref a_words, .ref a_word, w_o_isKept, w_o_some, w_o_every, .int o_deep, .int o_many, .ref a_length, .ref a_found, .int z_21.1]))] → va_S A s.heap H locs → lv_has ls 7 [(0, .ref a_o), (1, .int p1), (2, .int p2), (3, .int x63_l3), (4, .int x71_l4), (5, .int x83_l5)] → W p l e rmX11_made s m args below meth c H locs 0 0 Q (F0 m 162 ls []) := by
                                intro H locs ls h hP hD hS hl
                                rw [hj162] at h
                                refine lv_iconst (v := 0) hx hb dX11_made_162 ic_0 ?_
                                refine lv_istore (lv' := [(6, .int 0), (0, .ref a_o), (1, .int p1), (2, .int p2), (3, .int x63_l3), (4, .int x71_l4), (5, .int x83_l5)]) hx hb dX11_made_163 hl (by decide) rfl (fun ls hl => ?_)
                                refine lv_iload hx hb dX11_made_165 (lv_at hl 0 rfl) ?_
                                refine lv_if_eq (tgt := 191) hx hb dX11_made_167 (by decide) (fun c_167 => ?_) (fun c_167 => ?_)
                                · replace h := it_e c_167 h
                                  refine lv_iinc (v := x83_l5 + 1) (lv' := [(5, .int (x83_l5 + 1)), (6, .int 0), (0, .ref a_o), (1, .int p1), (2, .int p2), (3, .int x63_l3), (4, .int x71_l4)]) hx hb dX11_made_191 hl (k := 6) rfl (congrArg (x83_l5 + ·) ic_1) (by decide) rfl (fun ls hl => ?_)
                                  refine lv_goto (tgt := 83) hx hb dX11_made_194 (by decide) ?_
                                  exact ih83 (x83_l5 + 1) H locs ls h hP hD hS (lv_sub hl [2, 3, 4, 5, 6, 0] rfl)
                                · replace h := if_e c_167 h
                                  exact Jk170 x63_l3 x71_l4 x83_l5 H locs ls h (hP.sub [5, 0, 1, 2, 3, 4] rfl) (hD.sub [5, 0, 1, 2, 3, 4] (by decide) rfl) hS (lv_sub hl [3, 4, 5, 6] rfl)
                              obtain ⟨j163, hj163, h⟩ := jn_e h
                              have Jj163 : ∀ (x163_s0 : Int32) (H : Heap) (locs : List Loc) (ls : Array Slot), j163 x163_s0 = some z → va_P D vwCl [(a_values, .inl (cI, 3, .inl f_values)), (a_words, .inl (cI, 3, .inl f_words)), (a_word, .inl (cI, 9, .inl f_word)), (a_length, .inl (cI, 512, .inl z_21.2.1)), (a_found, .inl (cI, 512, .inl z_21.2.2)), (a_o, .inr (10, [.long o_trace, w_o_text, .int o_typed, .int o_choices, .int o_worlds, .ref a_values, .int o_at, .int o_start, .int o_sort, .int o_value, .int o_fault, w_o_draft, w_o_sayings, w_o_leaves, w_o_signs, .ref a_words, .ref a_word, w_o_isKept, w_o_some, w_o_every, .int o_deep, .int o_many, .ref a_length, .ref a_found, .int z_21.1]))] H → va_D A [(a_values, .inl (cI, 3, .inl f_values)), (a_words, .inl (cI, 3, .inl f_words)), (a_word, .inl (cI, 9, .inl f_word)), (a_length, .inl (cI, 512, .inl z_21.2.1)), (a_found, .inl (cI, 512, .inl z_21.2.2)), (a_o, .inr (10, [.long o_trace, w_o_text, .int o_typed, .int o_choices, .int o_worlds, .ref a_values, .int o_at, .int o_start, .int o_sort, .int o_value, .int o_fault, w_o_draft, w_o_sayings, w_o_leaves, w_o_signs, .ref a_words, .ref a_word, w_o_isKept, w_o_some, w_o_every, .int o_deep, .int o_many, .ref a_length, .ref a_found, .int z_21.1]))] → va_S A s.heap H locs → lv_has ls 7 [(0, .ref a_o), (1, .int p1), (2, .int p2), (3, .int x63_l3), (4, .int x71_l4), (5, .int x83_l5)] → W p l e rmX11_made s m args below meth c H locs 0 0 Q (F0 m 163 ls [.int x163_s0]) := by
                                intro x163_s0 H locs ls h hP hD hS hl
                                rw [hj163] at h
                                refine lv_istore (lv' := [(6, .int x163_s0), (0, .ref a_o), (1, .int p1), (2, .int p2), (3, .int x63_l3), (4, .int x71_l4), (5, .int x83_l5)]) hx hb dX11_made_163 hl (by decide) rfl (fun ls hl => ?_)
                                refine lv_iload hx hb dX11_made_165 (lv_at hl 0 rfl) ?_
                                refine lv_if_eq (tgt := 191) hx hb dX11_made_167 (by decide) (fun c_167 => ?_) (fun c_167 => ?_)
                                · replace h := it_e c_167 h
                                  refine lv_iinc (v := x83_l5 + 1) (lv' := [(5, .int (x83_l5 + 1)), (6, .int x163_s0), (0, .ref a_o), (1, .int p1), (2, .int p2), (3, .int x63_l3), (4, .int x71_l4)]) hx hb dX11_made_191 hl (k := 6) rfl (congrArg (x83_l5 + ·) ic_1) (by decide) rfl (fun ls hl => ?_)
                                  refine lv_goto (tgt := 83) hx hb dX11_made_194 (by decide) ?_
                                  exact ih83 (x83_l5 + 1) H locs ls h hP hD hS (lv_sub hl [2, 3, 4, 5, 6, 0] rfl)
                                · replace h := if_e c_167 h
                                  exact Jk170 x63_l3 x71_l4 x83_l5 H locs ls h (hP.sub [5, 0, 1, 2, 3, 4] rfl) (hD.sub [5, 0, 1, 2, 3, 4] (by decide) rfl) hS (lv_sub hl [3, 4, 5, 6] rfl)
                              refine lv_if_le (tgt := 162) hx hb dX11_made_109 (by decide) (fun c_109 => ?_) (fun c_109 => ?_)
                              · replace h := it_e c_109 h
                                exact Jj162  H locs ls h hP hD hS hl
                              · replace h := if_e c_109 h
                                refine lv_aload_n hx hb dX11_made_112 rfl (lv_at hl 0 rfl) ?_
                                refine va_get (D := D) (ci := 10) (v := .ref a_length) (C := RX11) (T := TX11) (N := 25) hx hb hts u_X11 hown hK hP 5 rfl rfl 22 (by decide) k_f0 (fun _ h9 => h9) rfl dX11_made_113 ?_
                                refine lv_iload hx hb dX11_made_116 (lv_at hl 4 rfl) ?_
                                obtain ⟨hi_118, h⟩ := ck_e h
                                refine va_iald hx hb hK hP 3 0 rfl rfl hi_118 dX11_made_118 ?_
                                refine lv_aload_n hx hb dX11_made_119 rfl (lv_at hl 0 rfl) ?_
                                refine va_get (D := D) (ci := 10) (v := .ref a_length) (C := RX11) (T := TX11) (N := 25) hx hb hts u_X11 hown hK hP 5 rfl rfl 22 (by decide) k_f0 (fun _ h9 => h9) rfl dX11_made_120 ?_
                                refine lv_iload hx hb dX11_made_123 (lv_at hl 5 rfl) ?_
                                obtain ⟨hi_125, h⟩ := ck_e h
                                refine va_iald hx hb hK hP 3 0 rfl rfl hi_125 dX11_made_125 ?_
                                refine lv_iadd hx hb dX11_made_126 ?_
                                refine lv_aload_n hx hb dX11_made_127 rfl (lv_at hl 0 rfl) ?_
                                refine va_get (D := D) (ci := 10) (v := .ref a_length) (C := RX11) (T := TX11) (N := 25) hx hb hts u_X11 hown hK hP 5 rfl rfl 22 (by decide) k_f0 (fun _ h9 => h9) rfl dX11_made_128 ?_
                                refine lv_iload_n hx hb dX11_made_131 rfl (lv_at hl 1 rfl) ?_
                                obtain ⟨hi_132, h⟩ := ck_e h
                                refine va_iald hx hb hK hP 3 0 rfl rfl hi_132 dX11_made_132 ?_
                                refine lv_icmp_ne (tgt := 162) hx hb dX11_made_133 (by decide) (fun c_133 => ?_) (fun c_133 => ?_)
                                · replace h := if_e c_133 h
                                  exact Jj162  H locs ls h hP hD hS hl
                                · replace h := it_e c_133 h
                                  refine lv_iload_n hx hb dX11_made_136 rfl (lv_at hl 3 rfl) ?_
                                  refine lv_iconst (v := 1) hx hb dX11_made_137 ic_1 ?_
                                  obtain ⟨j154, hj154, h⟩ := jn_e h
                                  have Jj154 : ∀ (x154_s0 : Int32) (H : Heap) (locs : List Loc) (ls : Array Slot), j154 x154_s0 = some z → va_P D vwCl [(a_values, .inl (cI, 3, .inl f_values)), (a_words, .inl (cI, 3, .inl f_words)), (a_word, .inl (cI, 9, .inl f_word)), (a_length, .inl (cI, 512, .inl z_21.2.1)), (a_found, .inl (cI, 512, .inl z_21.2.2)), (a_o, .inr (10, [.long o_trace, w_o_text, .int o_typed, .int o_choices, .int o_worlds, .ref a_values, .int o_at, .int o_start, .int o_sort, .int o_value, .int o_fault, w_o_draft, w_o_sayings, w_o_leaves, w_o_signs, .ref a_words, .ref a_word, w_o_isKept, w_o_some, w_o_every, .int o_deep, .int o_many, .ref a_length, .ref a_found, .int z_21.1]))] H → va_D A [(a_values, .inl (cI, 3, .inl f_values)), (a_words, .inl (cI, 3, .inl f_words)), (a_word, .inl (cI, 9, .inl f_word)), (a_length, .inl (cI, 512, .inl z_21.2.1)), (a_found, .inl (cI, 512, .inl z_21.2.2)), (a_o, .inr (10, [.long o_trace, w_o_text, .int o_typed, .int o_choices, .int o_worlds, .ref a_values, .int o_at, .int o_start, .int o_sort, .int o_value, .int o_fault, w_o_draft, w_o_sayings, w_o_leaves, w_o_signs, .ref a_words, .ref a_word, w_o_isKept, w_o_some, w_o_every, .int o_deep, .int o_many, .ref a_length, .ref a_found, .int z_21.1]))] → va_S A s.heap H locs → lv_has ls 7 [(0, .ref a_o), (1, .int p1), (2, .int p2), (3, .int x63_l3), (4, .int x71_l4), (5, .int x83_l5)] → W p l e rmX11_made s m args below meth c H locs 0 0 Q (F0 m 154 ls [.int x154_s0]) := by
                                    intro x154_s0 H locs ls h hP hD hS hl
                                    rw [hj154] at h
                                    refine lv_iload_n hx hb dX11_made_154 rfl (lv_at hl 1 rfl) ?_
                                    refine lv_icmp_ne (tgt := 162) hx hb dX11_made_155 (by decide) (fun c_155 => ?_) (fun c_155 => ?_)
                                    · replace h := if_e c_155 h
                                      exact Jj162  H locs ls h hP hD hS hl
                                    · replace h := it_e c_155 h
                                      refine lv_iconst (v := 1) hx hb dX11_made_158 ic_1 ?_
                                      refine lv_goto (tgt := 163) hx hb dX11_made_159 (by decide) ?_
                                      exact Jj163 1 H locs ls h hP hD hS hl
                                  refine lv_icmp_ne (tgt := 149) hx hb dX11_made_138 (by decide) (fun c_138 => ?_) (fun c_138 => ?_)
                                  · replace h := if_e c_138 h
                                    refine lv_iload hx hb dX11_made_149 (lv_at hl 4 rfl) ?_
                                    refine lv_iload hx hb dX11_made_151 (lv_at hl 5 rfl) ?_
                                    refine lv_ior hx hb dX11_made_153 ?_
                                    exact Jj154 (x71_l4 ||| x83_l5) H locs ls h hP hD hS hl
                                  · replace h := it_e c_138 h
                                    refine lv_iload hx hb dX11_made_141 (lv_at hl 4 rfl) ?_
                                    refine lv_iload hx hb dX11_made_143 (lv_at hl 5 rfl) ?_
                                    refine lv_iand hx hb dX11_made_145 ?_
                                    refine lv_goto (tgt := 154) hx hb dX11_made_146 (by decide) ?_
                                    exact Jj154 (x71_l4 &&& x83_l5) H locs ls h hP hD hS hl
                      exact L83 QF 0 H locs ls h hP hD hS (lv_sub hl [1, 2, 3, 4, 5, 0] rfl)
                exact L71 QF 0 H locs ls h hP hD hS (lv_sub hl [1, 2, 3, 4, 0] rfl)
          exact L63 QF 1 H locs ls h hP hD hS (lv_sub hl [1, 2, 3, 0] rfl)
        · replace h := it_e c_43 h
          refine lv_iload_n hx hb dX11_made_46 rfl (lv_at hl 2 rfl) ?_
          refine lv_iconst (v := 1) hx hb dX11_made_47 ic_1 ?_
          refine lv_icmp_ne (tgt := 59) hx hb dX11_made_48 (by decide) (fun c_48 => ?_) (fun c_48 => ?_)
          · replace h := if_e c_48 h
            refine lv_iconst (v := 0) hx hb dX11_made_59 ic_0 ?_
            have hz := Option.some.inj h
            subst hz
            exact hret H locs 60 ls (fun ty h => by cases h; rfl) hP hD hS dX11_made_60
          · replace h := it_e c_48 h
            refine lv_aload_n hx hb dX11_made_51 rfl (lv_at hl 0 rfl) ?_
            refine lv_iload_n hx hb dX11_made_52 rfl (lv_at hl 1 rfl) ?_
            obtain ⟨z_53, hc_53, h⟩ := bd_e h
            refine q_iV (As := [.int p1]) (rest := []) (wF := [(a_words, .inl (cI, 3, .inl f_words)), (a_length, .inl (cI, 512, .inl z_21.2.1)), (a_found, .inl (cI, 512, .inl z_21.2.2)), (a_o, .inr (10, [.long o_trace, w_o_text, .int o_typed, .int o_choices, .int o_worlds, .ref a_values, .int o_at, .int o_start, .int o_sort, .int o_value, .int o_fault, w_o_draft, w_o_sayings, w_o_leaves, w_o_signs, .ref a_words, .ref a_word, w_o_isKept, w_o_some, w_o_every, .int o_deep, .int o_many, .ref a_length, .ref a_found, .int z_21.1])), (a_values, .inl (cI, 3, .inl f_values)), (a_word, .inl (cI, 9, .inl f_word))]) hF hA hZ hK hP hD hS (c_X11_signBy l D cI cB cZ a_o o_trace w_o_text o_typed o_choices o_worlds o_at o_start o_sort o_value o_fault w_o_draft w_o_sayings w_o_leaves w_o_signs (.ref a_words) w_o_isKept w_o_some w_o_every o_deep o_many (.ref a_length) (.ref a_found) z_21.1 a_values f_values a_word f_word p1 z_53 hc_53) rfl gX11_made_X11_signBy hdX11_signBy ⟨rfl, rfl⟩ (Nat.le_of_ble_eq_true rfl) (Nat.le_of_ble_eq_true rfl) 10 0 rfl rfl [0, 1, 3] [2, 4, 5] rfl rfl rfl rfl (by decide) rfl hl.1 rfl (Nat.le_of_ble_eq_true rfl) (Nat.zero_le _) (Nat.zero_le _) dX11_made_53 (fun H locs hP hD hS => ?_)
            refine lv_goto (tgt := 60) hx hb dX11_made_56 (by decide) ?_
            have hz := Option.some.inj h
            subst hz
            exact hret H locs 60 ls (fun ty h => by cases h; rfl) (hP.sub [3, 4, 0, 5, 1, 2] rfl) (hD.sub [3, 4, 0, 5, 1, 2] (by decide) rfl) hS dX11_made_60
      · replace h := it_e c_30 h
        refine lv_bipush (v := (-9)) hx hb dX11_made_33 bc_m9 ?_
        have hz := Option.some.inj h
        subst hz
        exact hret H locs 35 ls (fun ty h => by cases h; rfl) hP hD hS dX11_made_35
    · replace h := it_e c_14 h
      refine lv_iconst (v := (-1)) hx hb dX11_made_17 ic_m1 ?_
      have hz := Option.some.inj h
      subst hz
      exact hret H locs 18 ls (fun ty h => by cases h; rfl) (hP.sub [5, 0, 1, 2, 3, 4] rfl) (hD.sub [5, 0, 1, 2, 3, 4] (by decide) rfl) hS dX11_made_18
abbrev rmX11_cubeOf : Room := { frames := 2, cells := 0, slots := 0, locals := 48 }
theorem hdX11_cubeOf : yX11_cubeOf.cls = RX11 ∧ yX11_cubeOf.cls ≠ "java/lang/invoke/MethodHandle" ∧ yX11_cubeOf.cls ≠ "java/lang/invoke/VarHandle" ∧ (parseMethodDescriptor yX11_cubeOf.desc).map (fun d => d.parameters.length) = some 1 := by decide +kernel
set_option maxRecDepth 100000 in
set_option maxHeartbeats 4000000 in
theorem c_X11_cubeOf (l : Launch) (D : va_G) (cI cB cZ : ClassId) (a_o : Nat) (o_trace : Int64) (w_o_text : Value) (o_typed : Int32) (o_choices : Int32) (o_worlds : Int32) (o_at : Int32) (o_start : Int32) (o_sort : Int32) (o_value : Int32) (o_fault : Int32) (w_o_draft : Value) (w_o_sayings : Value) (w_o_leaves : Value) (w_o_signs : Value) (w_o_words : Value) (w_o_word : Value) (w_o_isKept : Value) (w_o_some : Value) (w_o_every : Value) (o_deep : Int32) (o_many : Int32) (w_o_length : Value) (w_o_found : Value) (o_foundMany : Int32) (a_values : Nat) (f_values : Nat → Int32) (p1 : Int32) (z : Int32) (h : P_X11_cubeOf p1 o_choices o_worlds f_values = some z) : KI l yX11_cubeOf wsX11_cubeOf rmX11_cubeOf D [(cI, .int), (cB, .byte), (cZ, .boolean)] [.ref a_o, .int p1] [(a_o, .inr (10, [.long o_trace, w_o_text, .int o_typed, .int o_choices, .int o_worlds, .ref a_values, .int o_at, .int o_start, .int o_sort, .int o_value, .int o_fault, w_o_draft, w_o_sayings, w_o_leaves, w_o_signs, w_o_words, w_o_word, w_o_isKept, w_o_some, w_o_every, .int o_deep, .int o_many, w_o_length, w_o_found, .int o_foundMany])), (a_values, .inl (cI, 3, .inl f_values))] [(a_o, .inr (10, [.long o_trace, w_o_text, .int o_typed, .int o_choices, .int o_worlds, .ref a_values, .int o_at, .int o_start, .int o_sort, .int o_value, .int o_fault, w_o_draft, w_o_sayings, w_o_leaves, w_o_signs, w_o_words, w_o_word, w_o_isKept, w_o_some, w_o_every, .int o_deep, .int o_many, w_o_length, w_o_found, .int o_foundMany])), (a_values, .inl (cI, 3, .inl f_values))] z := by
  refine KI_of (own := RX11) (cc := cX11_cubeOf) (maxL := 6) (ret := some .int) (by decide) rfl rfl (Nat.le_of_ble_eq_true rfl) (Or.inl rfl) ?_
  intro p e s m args below meth c A Q hx hb hml hown hts hA hZ hK hret H locs ls hP hD hS hl
  have hl : lv_has ls 6 [(0, .ref a_o), (1, .int p1)] := hl
  have hF : CallFix p m c cX11_cubeOf 6 s args wsX11_cubeOf RX11 := ⟨hx, hb, hml, hown, hts⟩
  have u_X11 : ∀ w ∈ u_ws RX11 TX11 25, w ∈ wsX11_cubeOf := by decide +kernel
  have k_f0 := hts (.fieldLink RX11 95 "NoWordNoModel" "choices" "I") (by decide +kernel)
  have k_f1 := hts (.fieldLink RX11 13 "NoWordNoModel" "values" "[I") (by decide +kernel)
  unfold P_X11_cubeOf at h
  refine lv_iload_n hx hb dX11_cubeOf_0 rfl (lv_at hl 1 rfl) ?_
  refine lv_istore_n (lv' := [(2, .int p1), (0, .ref a_o), (1, .int p1)]) hx hb dX11_cubeOf_1 rfl hl (by decide) rfl (fun ls hl => ?_)
  refine lv_aload_n hx hb dX11_cubeOf_2 rfl (lv_at hl 1 rfl) ?_
  obtain ⟨z_3, hc_3, h⟩ := bd_e h
  refine q_iV (As := []) (rest := []) (wF := [(a_values, .inl (cI, 3, .inl f_values)), (a_o, .inr (10, [.long o_trace, w_o_text, .int o_typed, .int o_choices, .int o_worlds, .ref a_values, .int o_at, .int o_start, .int o_sort, .int o_value, .int o_fault, w_o_draft, w_o_sayings, w_o_leaves, w_o_signs, w_o_words, w_o_word, w_o_isKept, w_o_some, w_o_every, .int o_deep, .int o_many, w_o_length, w_o_found, .int o_foundMany]))]) hF hA hZ hK hP hD hS (c_X11_allSets l D cI cB cZ a_o o_trace w_o_text o_typed o_choices o_worlds (.ref a_values) o_at o_start o_sort o_value o_fault w_o_draft w_o_sayings w_o_leaves w_o_signs w_o_words w_o_word w_o_isKept w_o_some w_o_every o_deep o_many w_o_length w_o_found o_foundMany z_3 hc_3) rfl gX11_cubeOf_X11_allSets hdX11_allSets ⟨rfl, rfl⟩ (Nat.le_of_ble_eq_true rfl) (Nat.le_of_ble_eq_true rfl) 10 0 rfl rfl [0] [1] rfl rfl rfl rfl (by decide) rfl hl.1 rfl (Nat.le_of_ble_eq_true rfl) (Nat.zero_le _) (Nat.zero_le _) dX11_cubeOf_3 (fun H locs hP hD hS => ?_)
  refine lv_istore_n (lv' := [(3, .int z_3), (2, .int p1), (0, .ref a_o), (1, .int p1)]) hx hb dX11_cubeOf_6 rfl hl (by decide) rfl (fun ls hl => ?_)
  refine lv_iconst (v := 0) hx hb dX11_cubeOf_7 ic_0 ?_
  refine lv_istore (lv' := [(4, .int 0), (3, .int z_3), (2, .int p1), (0, .ref a_o), (1, .int p1)]) hx hb dX11_cubeOf_8 hl (by decide) rfl (fun ls hl => ?_)
  have L10 : ∀ (n : Nat), ∀ (x10_l2 : Int32) (x10_l3 : Int32) (x10_l4 : Int32) (H : Heap) (locs : List Loc) (ls : Array Slot), P_X11_cubeOf_10 o_choices o_worlds f_values n x10_l2 x10_l3 x10_l4 = some z → va_P D vwCl [(a_values, .inl (cI, 3, .inl f_values)), (a_o, .inr (10, [.long o_trace, w_o_text, .int o_typed, .int o_choices, .int o_worlds, .ref a_values, .int o_at, .int o_start, .int o_sort, .int o_value, .int o_fault, w_o_draft, w_o_sayings, w_o_leaves, w_o_signs, w_o_words, w_o_word, w_o_isKept, w_o_some, w_o_every, .int o_deep, .int o_many, w_o_length, w_o_found, .int o_foundMany]))] H → va_D A [(a_values, .inl (cI, 3, .inl f_values)), (a_o, .inr (10, [.long o_trace, w_o_text, .int o_typed, .int o_choices, .int o_worlds, .ref a_values, .int o_at, .int o_start, .int o_sort, .int o_value, .int o_fault, w_o_draft, w_o_sayings, w_o_leaves, w_o_signs, w_o_words, w_o_word, w_o_isKept, w_o_some, w_o_every, .int o_deep, .int o_many, w_o_length, w_o_found, .int o_foundMany]))] → va_S A s.heap H locs → lv_has ls 6 [(0, .ref a_o), (2, .int x10_l2), (3, .int x10_l3), (4, .int x10_l4)] → W p l e rmX11_cubeOf s m args below meth c H locs 0 0 Q (F0 m 10 ls []) := by
    intro n
    induction n with
    | zero =>
      intro x10_l2 x10_l3 x10_l4 H locs ls h
      exact no_e h
    | succ n ih10 =>
      intro x10_l2 x10_l3 x10_l4 H locs ls h hP hD hS hl
      rw [P_X11_cubeOf_10] at h
      refine lv_iload hx hb dX11_cubeOf_10 (lv_at hl 3 rfl) ?_
      refine lv_aload_n hx hb dX11_cubeOf_12 rfl (lv_at hl 0 rfl) ?_
      refine va_get (D := D) (ci := 10) (v := .int o_choices) (C := RX11) (T := TX11) (N := 25) hx hb hts u_X11 hown hK hP 1 rfl rfl 3 (by decide) k_f0 (fun _ h9 => h9) rfl dX11_cubeOf_13 ?_
      refine lv_icmp_ge (tgt := 80) hx hb dX11_cubeOf_16 (by decide) (fun c_16 => ?_) (fun c_16 => ?_)
      · replace h := it_e c_16 h
        refine lv_iload_n hx hb dX11_cubeOf_80 rfl (lv_at hl 2 rfl) ?_
        have hz := Option.some.inj h
        subst hz
        exact hret H locs 81 ls (fun ty h => by cases h; rfl) (hP.sub [1, 0] rfl) (hD.sub [1, 0] (by decide) rfl) hS dX11_cubeOf_81
      · replace h := if_e c_16 h
        refine lv_iload_n hx hb dX11_cubeOf_19 rfl (lv_at hl 1 rfl) ?_
        refine lv_aload_n hx hb dX11_cubeOf_20 rfl (lv_at hl 0 rfl) ?_
        refine va_get (D := D) (ci := 10) (v := .ref a_values) (C := RX11) (T := TX11) (N := 25) hx hb hts u_X11 hown hK hP 1 rfl rfl 5 (by decide) k_f1 (fun _ h9 => h9) rfl dX11_cubeOf_21 ?_
        refine lv_iload hx hb dX11_cubeOf_24 (lv_at hl 3 rfl) ?_
        obtain ⟨hi_26, h⟩ := ck_e h
        refine va_iald hx hb hK hP 0 0 rfl rfl hi_26 dX11_cubeOf_26 ?_
        refine lv_iconst (v := 1) hx hb dX11_cubeOf_27 ic_1 ?_
        refine lv_iadd hx hb dX11_cubeOf_28 ?_
        obtain ⟨hz_29, h⟩ := dz_e h
        refine lv_irem hx hb dX11_cubeOf_29 hz_29 ?_
        refine lv_istore (lv' := [(5, .int (x10_l2 - x10_l2 / ((f_values x10_l4.toNatClampNeg) + 1) * ((f_values x10_l4.toNatClampNeg) + 1))), (0, .ref a_o), (2, .int x10_l2), (3, .int x10_l3), (4, .int x10_l4)]) hx hb dX11_cubeOf_30 hl (by decide) rfl (fun ls hl => ?_)
        refine lv_iload_n hx hb dX11_cubeOf_32 rfl (lv_at hl 2 rfl) ?_
        refine lv_aload_n hx hb dX11_cubeOf_33 rfl (lv_at hl 1 rfl) ?_
        refine va_get (D := D) (ci := 10) (v := .ref a_values) (C := RX11) (T := TX11) (N := 25) hx hb hts u_X11 hown hK hP 1 rfl rfl 5 (by decide) k_f1 (fun _ h9 => h9) rfl dX11_cubeOf_34 ?_
        refine lv_iload hx hb dX11_cubeOf_37 (lv_at hl 4 rfl) ?_
        obtain ⟨hi_39, h⟩ := ck_e h
        refine va_iald hx hb hK hP 0 0 rfl rfl hi_39 dX11_cubeOf_39 ?_
        refine lv_iconst (v := 1) hx hb dX11_cubeOf_40 ic_1 ?_
        refine lv_iadd hx hb dX11_cubeOf_41 ?_
        obtain ⟨hz_42, h⟩ := dz_e h
        refine lv_idiv hx hb dX11_cubeOf_42 hz_42 ?_
        refine lv_istore_n (lv' := [(2, .int (x10_l2 / ((f_values x10_l4.toNatClampNeg) + 1))), (5, .int (x10_l2 - x10_l2 / ((f_values x10_l4.toNatClampNeg) + 1) * ((f_values x10_l4.toNatClampNeg) + 1))), (0, .ref a_o), (3, .int x10_l3), (4, .int x10_l4)]) hx hb dX11_cubeOf_43 rfl hl (by decide) rfl (fun ls hl => ?_)
        refine lv_iload_n hx hb dX11_cubeOf_44 rfl (lv_at hl 3 rfl) ?_
        refine lv_iload hx hb dX11_cubeOf_45 (lv_at hl 1 rfl) ?_
        refine lv_aload_n hx hb dX11_cubeOf_47 rfl (lv_at hl 2 rfl) ?_
        refine va_get (D := D) (ci := 10) (v := .ref a_values) (C := RX11) (T := TX11) (N := 25) hx hb hts u_X11 hown hK hP 1 rfl rfl 5 (by decide) k_f1 (fun _ h9 => h9) rfl dX11_cubeOf_48 ?_
        refine lv_iload hx hb dX11_cubeOf_51 (lv_at hl 4 rfl) ?_
        obtain ⟨hi_53, h⟩ := ck_e h
        refine va_iald hx hb hK hP 0 0 rfl rfl hi_53 dX11_cubeOf_53 ?_
        obtain ⟨j72, hj72, h⟩ := jn_e h
        have Jj72 : ∀ (x72_s1 : Int32) (H : Heap) (locs : List Loc) (ls : Array Slot), j72 x72_s1 = some z → va_P D vwCl [(a_values, .inl (cI, 3, .inl f_values)), (a_o, .inr (10, [.long o_trace, w_o_text, .int o_typed, .int o_choices, .int o_worlds, .ref a_values, .int o_at, .int o_start, .int o_sort, .int o_value, .int o_fault, w_o_draft, w_o_sayings, w_o_leaves, w_o_signs, w_o_words, w_o_word, w_o_isKept, w_o_some, w_o_every, .int o_deep, .int o_many, w_o_length, w_o_found, .int o_foundMany]))] H → va_D A [(a_values, .inl (cI, 3, .inl f_values)), (a_o, .inr (10, [.long o_trace, w_o_text, .int o_typed, .int o_choices, .int o_worlds, .ref a_values, .int o_at, .int o_start, .int o_sort, .int o_value, .int o_fault, w_o_draft, w_o_sayings, w_o_leaves, w_o_signs, w_o_words, w_o_word, w_o_isKept, w_o_some, w_o_every, .int o_deep, .int o_many, w_o_length, w_o_found, .int o_foundMany]))] → va_S A s.heap H locs → lv_has ls 6 [(0, .ref a_o), (2, .int (x10_l2 / ((f_values x10_l4.toNatClampNeg) + 1))), (4, .int x10_l4)] → W p l e rmX11_cubeOf s m args below meth c H locs 0 0 Q (F0 m 72 ls [.int x72_s1, .int x10_l3]) := by
          intro x72_s1 H locs ls h hP hD hS hl
          rw [hj72] at h
          refine lv_iand hx hb dX11_cubeOf_72 ?_
          refine lv_istore_n (lv' := [(3, .int (x10_l3 &&& x72_s1)), (0, .ref a_o), (2, .int (x10_l2 / ((f_values x10_l4.toNatClampNeg) + 1))), (4, .int x10_l4)]) hx hb dX11_cubeOf_73 rfl hl (by decide) rfl (fun ls hl => ?_)
          refine lv_iinc (v := x10_l4 + 1) (lv' := [(4, .int (x10_l4 + 1)), (3, .int (x10_l3 &&& x72_s1)), (0, .ref a_o), (2, .int (x10_l2 / ((f_values x10_l4.toNatClampNeg) + 1)))]) hx hb dX11_cubeOf_74 hl (k := 3) rfl (congrArg (x10_l4 + ·) ic_1) (by decide) rfl (fun ls hl => ?_)
          refine lv_goto (tgt := 10) hx hb dX11_cubeOf_77 (by decide) ?_
          exact ih10 (x10_l2 / ((f_values x10_l4.toNatClampNeg) + 1)) (x10_l3 &&& x72_s1) (x10_l4 + 1) H locs ls h hP hD hS (lv_sub hl [2, 3, 1, 0] rfl)
        refine lv_icmp_ne (tgt := 64) hx hb dX11_cubeOf_54 (by decide) (fun c_54 => ?_) (fun c_54 => ?_)
        · replace h := if_e c_54 h
          refine lv_aload_n hx hb dX11_cubeOf_64 rfl (lv_at hl 2 rfl) ?_
          refine lv_iload hx hb dX11_cubeOf_65 (lv_at hl 4 rfl) ?_
          refine lv_iload hx hb dX11_cubeOf_67 (lv_at hl 1 rfl) ?_
          obtain ⟨z_69, hc_69, h⟩ := bd_e h
          refine q_iV (As := [.int x10_l4, .int (x10_l2 - x10_l2 / ((f_values x10_l4.toNatClampNeg) + 1) * ((f_values x10_l4.toNatClampNeg) + 1))]) (rest := [.int x10_l3]) (wF := [(a_o, .inr (10, [.long o_trace, w_o_text, .int o_typed, .int o_choices, .int o_worlds, .ref a_values, .int o_at, .int o_start, .int o_sort, .int o_value, .int o_fault, w_o_draft, w_o_sayings, w_o_leaves, w_o_signs, w_o_words, w_o_word, w_o_isKept, w_o_some, w_o_every, .int o_deep, .int o_many, w_o_length, w_o_found, .int o_foundMany])), (a_values, .inl (cI, 3, .inl f_values))]) hF hA hZ hK hP hD hS (c_X11_worldsOf l D cI cB cZ a_o o_trace w_o_text o_typed o_choices o_worlds o_at o_start o_sort o_value o_fault w_o_draft w_o_sayings w_o_leaves w_o_signs w_o_words w_o_word w_o_isKept w_o_some w_o_every o_deep o_many w_o_length w_o_found o_foundMany a_values f_values x10_l4 (x10_l2 - x10_l2 / ((f_values x10_l4.toNatClampNeg) + 1) * ((f_values x10_l4.toNatClampNeg) + 1)) z_69 hc_69) rfl gX11_cubeOf_X11_worldsOf hdX11_worldsOf ⟨rfl, rfl⟩ (Nat.le_of_ble_eq_true rfl) (Nat.le_of_ble_eq_true rfl) 10 0 rfl rfl [1, 0] [] rfl rfl rfl rfl (by decide) rfl hl.1 rfl (Nat.le_of_ble_eq_true rfl) (Nat.zero_le _) (Nat.zero_le _) dX11_cubeOf_69 (fun H locs hP hD hS => ?_)
          exact Jj72 z_69 H locs ls h (hP.sub [1, 0] rfl) (hD.sub [1, 0] (by decide) rfl) hS (lv_sub hl [2, 0, 4] rfl)
        · replace h := it_e c_54 h
          refine lv_aload_n hx hb dX11_cubeOf_57 rfl (lv_at hl 2 rfl) ?_
          obtain ⟨z_58, hc_58, h⟩ := bd_e h
          refine q_iV (As := []) (rest := [.int x10_l3]) (wF := [(a_values, .inl (cI, 3, .inl f_values)), (a_o, .inr (10, [.long o_trace, w_o_text, .int o_typed, .int o_choices, .int o_worlds, .ref a_values, .int o_at, .int o_start, .int o_sort, .int o_value, .int o_fault, w_o_draft, w_o_sayings, w_o_leaves, w_o_signs, w_o_words, w_o_word, w_o_isKept, w_o_some, w_o_every, .int o_deep, .int o_many, w_o_length, w_o_found, .int o_foundMany]))]) hF hA hZ hK hP hD hS (c_X11_allSets l D cI cB cZ a_o o_trace w_o_text o_typed o_choices o_worlds (.ref a_values) o_at o_start o_sort o_value o_fault w_o_draft w_o_sayings w_o_leaves w_o_signs w_o_words w_o_word w_o_isKept w_o_some w_o_every o_deep o_many w_o_length w_o_found o_foundMany z_58 hc_58) rfl gX11_cubeOf_X11_allSets hdX11_allSets ⟨rfl, rfl⟩ (Nat.le_of_ble_eq_true rfl) (Nat.le_of_ble_eq_true rfl) 10 0 rfl rfl [1] [0] rfl rfl rfl rfl (by decide) rfl hl.1 rfl (Nat.le_of_ble_eq_true rfl) (Nat.zero_le _) (Nat.zero_le _) dX11_cubeOf_58 (fun H locs hP hD hS => ?_)
          refine lv_goto (tgt := 72) hx hb dX11_cubeOf_61 (by decide) ?_
          exact Jj72 z_58 H locs ls h hP hD hS (lv_sub hl [2, 0, 4] rfl)
  exact L10 QF p1 z_3 0 H locs ls h hP hD hS (lv_sub hl [3, 2, 1, 0] rfl)
abbrev rmX11_cubes : Room := { frames := 0, cells := 0, slots := 0, locals := 0 }
theorem hdX11_cubes : yX11_cubes.cls = RX11 ∧ yX11_cubes.cls ≠ "java/lang/invoke/MethodHandle" ∧ yX11_cubes.cls ≠ "java/lang/invoke/VarHandle" ∧ (parseMethodDescriptor yX11_cubes.desc).map (fun d => d.parameters.length) = some 0 := by decide +kernel
set_option maxRecDepth 100000 in
set_option maxHeartbeats 4000000 in
theorem c_X11_cubes (l : Launch) (D : va_G) (cI cB cZ : ClassId) (a_o : Nat) (o_trace : Int64) (w_o_text : Value) (o_typed : Int32) (o_choices : Int32) (o_worlds : Int32) (o_at : Int32) (o_start : Int32) (o_sort : Int32) (o_value : Int32) (o_fault : Int32) (w_o_draft : Value) (w_o_sayings : Value) (w_o_leaves : Value) (w_o_signs : Value) (w_o_words : Value) (w_o_word : Value) (w_o_isKept : Value) (w_o_some : Value) (w_o_every : Value) (o_deep : Int32) (o_many : Int32) (w_o_length : Value) (w_o_found : Value) (o_foundMany : Int32) (a_values : Nat) (f_values : Nat → Int32) (z : Int32) (h : P_X11_cubes o_choices f_values = some z) : KI l yX11_cubes wsX11_cubes rmX11_cubes D [(cI, .int), (cB, .byte), (cZ, .boolean)] [.ref a_o] [(a_o, .inr (10, [.long o_trace, w_o_text, .int o_typed, .int o_choices, .int o_worlds, .ref a_values, .int o_at, .int o_start, .int o_sort, .int o_value, .int o_fault, w_o_draft, w_o_sayings, w_o_leaves, w_o_signs, w_o_words, w_o_word, w_o_isKept, w_o_some, w_o_every, .int o_deep, .int o_many, w_o_length, w_o_found, .int o_foundMany])), (a_values, .inl (cI, 3, .inl f_values))] [(a_o, .inr (10, [.long o_trace, w_o_text, .int o_typed, .int o_choices, .int o_worlds, .ref a_values, .int o_at, .int o_start, .int o_sort, .int o_value, .int o_fault, w_o_draft, w_o_sayings, w_o_leaves, w_o_signs, w_o_words, w_o_word, w_o_isKept, w_o_some, w_o_every, .int o_deep, .int o_many, w_o_length, w_o_found, .int o_foundMany])), (a_values, .inl (cI, 3, .inl f_values))] z := by
  refine KI_of (own := RX11) (cc := cX11_cubes) (maxL := 3) (ret := some .int) (by decide) rfl rfl (Nat.le_of_ble_eq_true rfl) (Or.inl rfl) ?_
  intro p e s m args below meth c A Q hx hb hml hown hts hA hZ hK hret H locs ls hP hD hS hl
  have hl : lv_has ls 3 [(0, .ref a_o)] := hl
  have hF : CallFix p m c cX11_cubes 3 s args wsX11_cubes RX11 := ⟨hx, hb, hml, hown, hts⟩
  have u_X11 : ∀ w ∈ u_ws RX11 TX11 25, w ∈ wsX11_cubes := by decide +kernel
  have k_f0 := hts (.fieldLink RX11 95 "NoWordNoModel" "choices" "I") (by decide +kernel)
  have k_f1 := hts (.fieldLink RX11 13 "NoWordNoModel" "values" "[I") (by decide +kernel)
  unfold P_X11_cubes at h
  refine lv_iconst (v := 1) hx hb dX11_cubes_0 ic_1 ?_
  refine lv_istore_n (lv' := [(1, .int 1), (0, .ref a_o)]) hx hb dX11_cubes_1 rfl hl (by decide) rfl (fun ls hl => ?_)
  refine lv_iconst (v := 0) hx hb dX11_cubes_2 ic_0 ?_
  refine lv_istore_n (lv' := [(2, .int 0), (1, .int 1), (0, .ref a_o)]) hx hb dX11_cubes_3 rfl hl (by decide) rfl (fun ls hl => ?_)
  have L4 : ∀ (n : Nat), ∀ (x4_l1 : Int32) (x4_l2 : Int32) (H : Heap) (locs : List Loc) (ls : Array Slot), P_X11_cubes_4 o_choices f_values n x4_l1 x4_l2 = some z → va_P D vwCl [(a_o, .inr (10, [.long o_trace, w_o_text, .int o_typed, .int o_choices, .int o_worlds, .ref a_values, .int o_at, .int o_start, .int o_sort, .int o_value, .int o_fault, w_o_draft, w_o_sayings, w_o_leaves, w_o_signs, w_o_words, w_o_word, w_o_isKept, w_o_some, w_o_every, .int o_deep, .int o_many, w_o_length, w_o_found, .int o_foundMany])), (a_values, .inl (cI, 3, .inl f_values))] H → va_D A [(a_o, .inr (10, [.long o_trace, w_o_text, .int o_typed, .int o_choices, .int o_worlds, .ref a_values, .int o_at, .int o_start, .int o_sort, .int o_value, .int o_fault, w_o_draft, w_o_sayings, w_o_leaves, w_o_signs, w_o_words, w_o_word, w_o_isKept, w_o_some, w_o_every, .int o_deep, .int o_many, w_o_length, w_o_found, .int o_foundMany])), (a_values, .inl (cI, 3, .inl f_values))] → va_S A s.heap H locs → lv_has ls 3 [(0, .ref a_o), (1, .int x4_l1), (2, .int x4_l2)] → W p l e rmX11_cubes s m args below meth c H locs 0 0 Q (F0 m 4 ls []) := by
    intro n
    induction n with
    | zero =>
      intro x4_l1 x4_l2 H locs ls h
      exact no_e h
    | succ n ih4 =>
      intro x4_l1 x4_l2 H locs ls h hP hD hS hl
      rw [P_X11_cubes_4] at h
      refine lv_iload_n hx hb dX11_cubes_4 rfl (lv_at hl 2 rfl) ?_
      refine lv_aload_n hx hb dX11_cubes_5 rfl (lv_at hl 0 rfl) ?_
      refine va_get (D := D) (ci := 10) (v := .int o_choices) (C := RX11) (T := TX11) (N := 25) hx hb hts u_X11 hown hK hP 0 rfl rfl 3 (by decide) k_f0 (fun _ h9 => h9) rfl dX11_cubes_6 ?_
      refine lv_icmp_ge (tgt := 29) hx hb dX11_cubes_9 (by decide) (fun c_9 => ?_) (fun c_9 => ?_)
      · replace h := it_e c_9 h
        refine lv_iload_n hx hb dX11_cubes_29 rfl (lv_at hl 1 rfl) ?_
        have hz := Option.some.inj h
        subst hz
        exact hret H locs 30 ls (fun ty h => by cases h; rfl) hP hD hS dX11_cubes_30
      · replace h := if_e c_9 h
        refine lv_iload_n hx hb dX11_cubes_12 rfl (lv_at hl 1 rfl) ?_
        refine lv_aload_n hx hb dX11_cubes_13 rfl (lv_at hl 0 rfl) ?_
        refine va_get (D := D) (ci := 10) (v := .ref a_values) (C := RX11) (T := TX11) (N := 25) hx hb hts u_X11 hown hK hP 0 rfl rfl 5 (by decide) k_f1 (fun _ h9 => h9) rfl dX11_cubes_14 ?_
        refine lv_iload_n hx hb dX11_cubes_17 rfl (lv_at hl 2 rfl) ?_
        obtain ⟨hi_18, h⟩ := ck_e h
        refine va_iald hx hb hK hP 1 0 rfl rfl hi_18 dX11_cubes_18 ?_
        refine lv_iconst (v := 1) hx hb dX11_cubes_19 ic_1 ?_
        refine lv_iadd hx hb dX11_cubes_20 ?_
        refine lv_imul hx hb dX11_cubes_21 ?_
        refine lv_istore_n (lv' := [(1, .int (x4_l1 * ((f_values x4_l2.toNatClampNeg) + 1))), (0, .ref a_o), (2, .int x4_l2)]) hx hb dX11_cubes_22 rfl hl (by decide) rfl (fun ls hl => ?_)
        refine lv_iinc (v := x4_l2 + 1) (lv' := [(2, .int (x4_l2 + 1)), (1, .int (x4_l1 * ((f_values x4_l2.toNatClampNeg) + 1))), (0, .ref a_o)]) hx hb dX11_cubes_23 hl (k := 2) rfl (congrArg (x4_l2 + ·) ic_1) (by decide) rfl (fun ls hl => ?_)
        refine lv_goto (tgt := 4) hx hb dX11_cubes_26 (by decide) ?_
        exact ih4 (x4_l1 * ((f_values x4_l2.toNatClampNeg) + 1)) (x4_l2 + 1) H locs ls h hP hD hS (lv_sub hl [2, 1, 0] rfl)
  exact L4 QF 1 0 H locs ls h hP hD hS (lv_sub hl [2, 1, 0] rfl)
abbrev rmX11_isTerm : Room := { frames := 3, cells := 0, slots := 0, locals := 73 }
theorem hdX11_isTerm : yX11_isTerm.cls = RX11 ∧ yX11_isTerm.cls ≠ "java/lang/invoke/MethodHandle" ∧ yX11_isTerm.cls ≠ "java/lang/invoke/VarHandle" ∧ (parseMethodDescriptor yX11_isTerm.desc).map (fun d => d.parameters.length) = some 2 := by decide +kernel
set_option maxRecDepth 100000 in
set_option maxHeartbeats 4000000 in
theorem c_X11_isTerm (l : Launch) (D : va_G) (cI cB cZ : ClassId) (a_o : Nat) (o_trace : Int64) (w_o_text : Value) (o_typed : Int32) (o_choices : Int32) (o_worlds : Int32) (o_at : Int32) (o_start : Int32) (o_sort : Int32) (o_value : Int32) (o_fault : Int32) (w_o_draft : Value) (w_o_sayings : Value) (w_o_leaves : Value) (w_o_signs : Value) (w_o_words : Value) (w_o_word : Value) (w_o_isKept : Value) (w_o_some : Value) (w_o_every : Value) (o_deep : Int32) (o_many : Int32) (w_o_length : Value) (w_o_found : Value) (o_foundMany : Int32) (a_values : Nat) (f_values : Nat → Int32) (p1 : Int32) (p2 : Int32) (z : Int32) (h : P_X11_isTerm p1 p2 o_choices o_worlds f_values = some z) : KI l yX11_isTerm wsX11_isTerm rmX11_isTerm D [(cI, .int), (cB, .byte), (cZ, .boolean)] [.ref a_o, .int p1, .int p2] [(a_o, .inr (10, [.long o_trace, w_o_text, .int o_typed, .int o_choices, .int o_worlds, .ref a_values, .int o_at, .int o_start, .int o_sort, .int o_value, .int o_fault, w_o_draft, w_o_sayings, w_o_leaves, w_o_signs, w_o_words, w_o_word, w_o_isKept, w_o_some, w_o_every, .int o_deep, .int o_many, w_o_length, w_o_found, .int o_foundMany])), (a_values, .inl (cI, 3, .inl f_values))] [(a_o, .inr (10, [.long o_trace, w_o_text, .int o_typed, .int o_choices, .int o_worlds, .ref a_values, .int o_at, .int o_start, .int o_sort, .int o_value, .int o_fault, w_o_draft, w_o_sayings, w_o_leaves, w_o_signs, w_o_words, w_o_word, w_o_isKept, w_o_some, w_o_every, .int o_deep, .int o_many, w_o_length, w_o_found, .int o_foundMany])), (a_values, .inl (cI, 3, .inl f_values))] z := by
  refine KI_of (own := RX11) (cc := cX11_isTerm) (maxL := 6) (ret := some .boolean) (by decide) rfl rfl (Nat.le_of_ble_eq_true rfl) (Or.inr rfl) ?_
  intro p e s m args below meth c A Q hx hb hml hown hts hA hZ hK hret H locs ls hP hD hS hl
  have hl : lv_has ls 6 [(0, .ref a_o), (1, .int p1), (2, .int p2)] := hl
  have hF : CallFix p m c cX11_isTerm 6 s args wsX11_isTerm RX11 := ⟨hx, hb, hml, hown, hts⟩
  unfold P_X11_isTerm at h
  refine lv_iload_n hx hb dX11_isTerm_0 rfl (lv_at hl 1 rfl) ?_
  refine lv_iload_n hx hb dX11_isTerm_1 rfl (lv_at hl 2 rfl) ?_
  refine lv_iconst (v := (-1)) hx hb dX11_isTerm_2 ic_m1 ?_
  refine lv_ixor hx hb dX11_isTerm_3 ?_
  refine lv_iand hx hb dX11_isTerm_4 ?_
  obtain ⟨j13, hj13, h⟩ := jn_e h
  have Jj13 : ∀ (x13_s0 : Int32) (H : Heap) (locs : List Loc) (ls : Array Slot), j13 x13_s0 = some z → va_P D vwCl [(a_o, .inr (10, [.long o_trace, w_o_text, .int o_typed, .int o_choices, .int o_worlds, .ref a_values, .int o_at, .int o_start, .int o_sort, .int o_value, .int o_fault, w_o_draft, w_o_sayings, w_o_leaves, w_o_signs, w_o_words, w_o_word, w_o_isKept, w_o_some, w_o_every, .int o_deep, .int o_many, w_o_length, w_o_found, .int o_foundMany])), (a_values, .inl (cI, 3, .inl f_values))] H → va_D A [(a_o, .inr (10, [.long o_trace, w_o_text, .int o_typed, .int o_choices, .int o_worlds, .ref a_values, .int o_at, .int o_start, .int o_sort, .int o_value, .int o_fault, w_o_draft, w_o_sayings, w_o_leaves, w_o_signs, w_o_words, w_o_word, w_o_isKept, w_o_some, w_o_every, .int o_deep, .int o_many, w_o_length, w_o_found, .int o_foundMany])), (a_values, .inl (cI, 3, .inl f_values))] → va_S A s.heap H locs → lv_has ls 6 [(0, .ref a_o), (1, .int p1), (2, .int p2)] → W p l e rmX11_isTerm s m args below meth c H locs 0 0 Q (F0 m 13 ls [.int x13_s0]) := by
    intro x13_s0 H locs ls h hP hD hS hl
    rw [hj13] at h
    refine lv_istore_n (lv' := [(3, .int x13_s0), (0, .ref a_o), (1, .int p1), (2, .int p2)]) hx hb dX11_isTerm_13 rfl hl (by decide) rfl (fun ls hl => ?_)
    refine lv_iconst (v := 0) hx hb dX11_isTerm_14 ic_0 ?_
    refine lv_istore (lv' := [(4, .int 0), (3, .int x13_s0), (0, .ref a_o), (1, .int p1), (2, .int p2)]) hx hb dX11_isTerm_15 hl (by decide) rfl (fun ls hl => ?_)
    have L17 : ∀ (n : Nat), ∀ (x17_l3 : Int32) (x17_l4 : Int32) (H : Heap) (locs : List Loc) (ls : Array Slot), P_X11_isTerm_17 p1 p2 o_choices o_worlds f_values n x17_l3 x17_l4 = some z → va_P D vwCl [(a_o, .inr (10, [.long o_trace, w_o_text, .int o_typed, .int o_choices, .int o_worlds, .ref a_values, .int o_at, .int o_start, .int o_sort, .int o_value, .int o_fault, w_o_draft, w_o_sayings, w_o_leaves, w_o_signs, w_o_words, w_o_word, w_o_isKept, w_o_some, w_o_every, .int o_deep, .int o_many, w_o_length, w_o_found, .int o_foundMany])), (a_values, .inl (cI, 3, .inl f_values))] H → va_D A [(a_o, .inr (10, [.long o_trace, w_o_text, .int o_typed, .int o_choices, .int o_worlds, .ref a_values, .int o_at, .int o_start, .int o_sort, .int o_value, .int o_fault, w_o_draft, w_o_sayings, w_o_leaves, w_o_signs, w_o_words, w_o_word, w_o_isKept, w_o_some, w_o_every, .int o_deep, .int o_many, w_o_length, w_o_found, .int o_foundMany])), (a_values, .inl (cI, 3, .inl f_values))] → va_S A s.heap H locs → lv_has ls 6 [(0, .ref a_o), (1, .int p1), (2, .int p2), (3, .int x17_l3), (4, .int x17_l4)] → W p l e rmX11_isTerm s m args below meth c H locs 0 0 Q (F0 m 17 ls []) := by
      intro n
      induction n with
      | zero =>
        intro x17_l3 x17_l4 H locs ls h
        exact no_e h
      | succ n ih17 =>
        intro x17_l3 x17_l4 H locs ls h hP hD hS hl
        rw [P_X11_isTerm_17] at h
        refine lv_iload hx hb dX11_isTerm_17 (lv_at hl 4 rfl) ?_
        refine lv_aload_n hx hb dX11_isTerm_19 rfl (lv_at hl 0 rfl) ?_
        obtain ⟨z_20, hc_20, h⟩ := bd_e h
        refine q_iV (As := []) (rest := [.int x17_l4]) (wF := [(a_o, .inr (10, [.long o_trace, w_o_text, .int o_typed, .int o_choices, .int o_worlds, .ref a_values, .int o_at, .int o_start, .int o_sort, .int o_value, .int o_fault, w_o_draft, w_o_sayings, w_o_leaves, w_o_signs, w_o_words, w_o_word, w_o_isKept, w_o_some, w_o_every, .int o_deep, .int o_many, w_o_length, w_o_found, .int o_foundMany])), (a_values, .inl (cI, 3, .inl f_values))]) hF hA hZ hK hP hD hS (c_X11_cubes l D cI cB cZ a_o o_trace w_o_text o_typed o_choices o_worlds o_at o_start o_sort o_value o_fault w_o_draft w_o_sayings w_o_leaves w_o_signs w_o_words w_o_word w_o_isKept w_o_some w_o_every o_deep o_many w_o_length w_o_found o_foundMany a_values f_values z_20 hc_20) rfl gX11_isTerm_X11_cubes hdX11_cubes ⟨rfl, rfl⟩ (Nat.le_of_ble_eq_true rfl) (Nat.le_of_ble_eq_true rfl) 10 0 rfl rfl [0, 1] [] rfl rfl rfl rfl (by decide) rfl hl.1 rfl (Nat.le_of_ble_eq_true rfl) (Nat.zero_le _) (Nat.zero_le _) dX11_isTerm_20 (fun H locs hP hD hS => ?_)
        refine lv_icmp_ge (tgt := 74) hx hb dX11_isTerm_23 (by decide) (fun c_23 => ?_) (fun c_23 => ?_)
        · replace h := it_e c_23 h
          refine lv_iload_n hx hb dX11_isTerm_74 rfl (lv_at hl 3 rfl) ?_
          obtain ⟨hn9, -, h⟩ := cz_e h
          have hz := Option.some.inj h
          subst hz
          exact hret H locs 75 ls (fun ty h => by cases h; exact hn9) hP hD hS dX11_isTerm_75
        · replace h := if_e c_23 h
          refine lv_iload_n hx hb dX11_isTerm_26 rfl (lv_at hl 3 rfl) ?_
          refine lv_if_eq (tgt := 74) hx hb dX11_isTerm_27 (by decide) (fun c_27 => ?_) (fun c_27 => ?_)
          · replace h := it_e c_27 h
            refine lv_iload_n hx hb dX11_isTerm_74 rfl (lv_at hl 3 rfl) ?_
            obtain ⟨hn9, -, h⟩ := cz_e h
            have hz := Option.some.inj h
            subst hz
            exact hret H locs 75 ls (fun ty h => by cases h; exact hn9) hP hD hS dX11_isTerm_75
          · replace h := if_e c_27 h
            refine lv_aload_n hx hb dX11_isTerm_30 rfl (lv_at hl 0 rfl) ?_
            refine lv_iload hx hb dX11_isTerm_31 (lv_at hl 4 rfl) ?_
            obtain ⟨z_33, hc_33, h⟩ := bd_e h
            refine q_iV (As := [.int x17_l4]) (rest := []) (wF := [(a_o, .inr (10, [.long o_trace, w_o_text, .int o_typed, .int o_choices, .int o_worlds, .ref a_values, .int o_at, .int o_start, .int o_sort, .int o_value, .int o_fault, w_o_draft, w_o_sayings, w_o_leaves, w_o_signs, w_o_words, w_o_word, w_o_isKept, w_o_some, w_o_every, .int o_deep, .int o_many, w_o_length, w_o_found, .int o_foundMany])), (a_values, .inl (cI, 3, .inl f_values))]) hF hA hZ hK hP hD hS (c_X11_cubeOf l D cI cB cZ a_o o_trace w_o_text o_typed o_choices o_worlds o_at o_start o_sort o_value o_fault w_o_draft w_o_sayings w_o_leaves w_o_signs w_o_words w_o_word w_o_isKept w_o_some w_o_every o_deep o_many w_o_length w_o_found o_foundMany a_values f_values x17_l4 z_33 hc_33) rfl gX11_isTerm_X11_cubeOf hdX11_cubeOf ⟨rfl, rfl⟩ (Nat.le_of_ble_eq_true rfl) (Nat.le_of_ble_eq_true rfl) 10 0 rfl rfl [0, 1] [] rfl rfl rfl rfl (by decide) rfl hl.1 rfl (Nat.le_of_ble_eq_true rfl) (Nat.zero_le _) (Nat.zero_le _) dX11_isTerm_33 (fun H locs hP hD hS => ?_)
            refine lv_istore (lv' := [(5, .int z_33), (0, .ref a_o), (1, .int p1), (2, .int p2), (3, .int x17_l3), (4, .int x17_l4)]) hx hb dX11_isTerm_36 hl (by decide) rfl (fun ls hl => ?_)
            refine lv_iload hx hb dX11_isTerm_38 (lv_at hl 0 rfl) ?_
            refine lv_iload_n hx hb dX11_isTerm_40 rfl (lv_at hl 2 rfl) ?_
            obtain ⟨j62, hj62, h⟩ := jn_e h
            have Jj62 : ∀ (H : Heap) (locs : List Loc) (ls : Array Slot), j62 () = some z → va_P D vwCl [(a_o, .inr (10, [.long o_trace, w_o_text, .int o_typed, .int o_choices, .int o_worlds, .ref a_values, .int o_at, .int o_start, .int o_sort, .int o_value, .int o_fault, w_o_draft, w_o_sayings, w_o_leaves, w_o_signs, w_o_words, w_o_word, w_o_isKept, w_o_some, w_o_every, .int o_deep, .int o_many, w_o_length, w_o_found, .int o_foundMany])), (a_values, .inl (cI, 3, .inl f_values))] H → va_D A [(a_o, .inr (10, [.long o_trace, w_o_text, .int o_typed, .int o_choices, .int o_worlds, .ref a_values, .int o_at, .int o_start, .int o_sort, .int o_value, .int o_fault, w_o_draft, w_o_sayings, w_o_leaves, w_o_signs, w_o_words, w_o_word, w_o_isKept, w_o_some, w_o_every, .int o_deep, .int o_many, w_o_length, w_o_found, .int o_foundMany])), (a_values, .inl (cI, 3, .inl f_values))] → va_S A s.heap H locs → lv_has ls 6 [(0, .ref a_o), (1, .int p1), (2, .int p2), (4, .int x17_l4)] → W p l e rmX11_isTerm s m args below meth c H locs 0 0 Q (F0 m 62 ls []) := by
              intro H locs ls h hP hD hS hl
              rw [hj62] at h
              refine lv_iconst (v := 1) hx hb dX11_isTerm_62 ic_1 ?_
              refine lv_goto (tgt := 67) hx hb dX11_isTerm_63 (by decide) ?_
              refine lv_istore_n (lv' := [(3, .int 1), (0, .ref a_o), (1, .int p1), (2, .int p2), (4, .int x17_l4)]) hx hb dX11_isTerm_67 rfl hl (by decide) rfl (fun ls hl => ?_)
              refine lv_iinc (v := x17_l4 + 1) (lv' := [(4, .int (x17_l4 + 1)), (3, .int 1), (0, .ref a_o), (1, .int p1), (2, .int p2)]) hx hb dX11_isTerm_68 hl (k := 4) rfl (congrArg (x17_l4 + ·) ic_1) (by decide) rfl (fun ls hl => ?_)
              refine lv_goto (tgt := 17) hx hb dX11_isTerm_71 (by decide) ?_
              exact ih17 1 (x17_l4 + 1) H locs ls h hP hD hS (lv_sub hl [2, 3, 4, 1, 0] rfl)
            obtain ⟨j67, hj67, h⟩ := jn_e h
            have Jj67 : ∀ (x67_s0 : Int32) (H : Heap) (locs : List Loc) (ls : Array Slot), j67 x67_s0 = some z → va_P D vwCl [(a_o, .inr (10, [.long o_trace, w_o_text, .int o_typed, .int o_choices, .int o_worlds, .ref a_values, .int o_at, .int o_start, .int o_sort, .int o_value, .int o_fault, w_o_draft, w_o_sayings, w_o_leaves, w_o_signs, w_o_words, w_o_word, w_o_isKept, w_o_some, w_o_every, .int o_deep, .int o_many, w_o_length, w_o_found, .int o_foundMany])), (a_values, .inl (cI, 3, .inl f_values))] H → va_D A [(a_o, .inr (10, [.long o_trace, w_o_text, .int o_typed, .int o_choices, .int o_worlds, .ref a_values, .int o_at, .int o_start, .int o_sort, .int o_value, .int o_fault, w_o_draft, w_o_sayings, w_o_leaves, w_o_signs, w_o_words, w_o_word, w_o_isKept, w_o_some, w_o_every, .int o_deep, .int o_many, w_o_length, w_o_found, .int o_foundMany])), (a_values, .inl (cI, 3, .inl f_values))] → va_S A s.heap H locs → lv_has ls 6 [(0, .ref a_o), (1, .int p1), (2, .int p2), (4, .int x17_l4)] → W p l e rmX11_isTerm s m args below meth c H locs 0 0 Q (F0 m 67 ls [.int x67_s0]) := by
              intro x67_s0 H locs ls h hP hD hS hl
              rw [hj67] at h
              refine lv_istore_n (lv' := [(3, .int x67_s0), (0, .ref a_o), (1, .int p1), (2, .int p2), (4, .int x17_l4)]) hx hb dX11_isTerm_67 rfl hl (by decide) rfl (fun ls hl => ?_)
              refine lv_iinc (v := x17_l4 + 1) (lv' := [(4, .int (x17_l4 + 1)), (3, .int x67_s0), (0, .ref a_o), (1, .int p1), (2, .int p2)]) hx hb dX11_isTerm_68 hl (k := 4) rfl (congrArg (x17_l4 + ·) ic_1) (by decide) rfl (fun ls hl => ?_)
              refine lv_goto (tgt := 17) hx hb dX11_isTerm_71 (by decide) ?_
              exact ih17 x67_s0 (x17_l4 + 1) H locs ls h hP hD hS (lv_sub hl [2, 3, 4, 1, 0] rfl)
            refine lv_icmp_eq (tgt := 62) hx hb dX11_isTerm_41 (by decide) (fun c_41 => ?_) (fun c_41 => ?_)
            · replace h := it_e c_41 h
              exact Jj62  H locs ls h hP hD hS (lv_sub hl [1, 2, 3, 5] rfl)
            · replace h := if_e c_41 h
              refine lv_iload hx hb dX11_isTerm_44 (lv_at hl 0 rfl) ?_
              refine lv_iload_n hx hb dX11_isTerm_46 rfl (lv_at hl 3 rfl) ?_
              refine lv_iconst (v := (-1)) hx hb dX11_isTerm_47 ic_m1 ?_
              refine lv_ixor hx hb dX11_isTerm_48 ?_
              refine lv_iand hx hb dX11_isTerm_49 ?_
              refine lv_if_ne (tgt := 62) hx hb dX11_isTerm_50 (by decide) (fun c_50 => ?_) (fun c_50 => ?_)
              · replace h := if_e c_50 h
                exact Jj62  H locs ls h hP hD hS (lv_sub hl [1, 2, 3, 5] rfl)
              · replace h := it_e c_50 h
                refine lv_iload_n hx hb dX11_isTerm_53 rfl (lv_at hl 2 rfl) ?_
                refine lv_iload hx hb dX11_isTerm_54 (lv_at hl 0 rfl) ?_
                refine lv_iconst (v := (-1)) hx hb dX11_isTerm_56 ic_m1 ?_
                refine lv_ixor hx hb dX11_isTerm_57 ?_
                refine lv_iand hx hb dX11_isTerm_58 ?_
                refine lv_if_eq (tgt := 66) hx hb dX11_isTerm_59 (by decide) (fun c_59 => ?_) (fun c_59 => ?_)
                · replace h := it_e c_59 h
                  refine lv_iconst (v := 0) hx hb dX11_isTerm_66 ic_0 ?_
                  exact Jj67 0 H locs ls h hP hD hS (lv_sub hl [1, 2, 3, 5] rfl)
                · replace h := if_e c_59 h
                  exact Jj62  H locs ls h hP hD hS (lv_sub hl [1, 2, 3, 5] rfl)
    exact L17 QF x13_s0 0 H locs ls h hP hD hS (lv_sub hl [2, 3, 4, 1, 0] rfl)
  refine lv_if_ne (tgt := 12) hx hb dX11_isTerm_5 (by decide) (fun c_5 => ?_) (fun c_5 => ?_)
  · replace h := if_e c_5 h
    refine lv_iconst (v := 0) hx hb dX11_isTerm_12 ic_0 ?_
    exact Jj13 0 H locs ls h hP hD hS hl
  · replace h := it_e c_5 h
    refine lv_iconst (v := 1) hx hb dX11_isTerm_8 ic_1 ?_
    refine lv_goto (tgt := 13) hx hb dX11_isTerm_9 (by decide) ?_
    exact Jj13 1 H locs ls h hP hD hS hl
abbrev rmX11_terms : Room := { frames := 4, cells := 0, slots := 0, locals := 98 }
theorem hdX11_terms : yX11_terms.cls = RX11 ∧ yX11_terms.cls ≠ "java/lang/invoke/MethodHandle" ∧ yX11_terms.cls ≠ "java/lang/invoke/VarHandle" ∧ (parseMethodDescriptor yX11_terms.desc).map (fun d => d.parameters.length) = some 2 := by decide +kernel
set_option maxRecDepth 100000 in
set_option maxHeartbeats 4000000 in
theorem c_X11_terms (l : Launch) (D : va_G) (cI cB cZ : ClassId) (a_o : Nat) (o_trace : Int64) (w_o_text : Value) (o_typed : Int32) (o_choices : Int32) (o_worlds : Int32) (o_at : Int32) (o_start : Int32) (o_sort : Int32) (o_value : Int32) (o_fault : Int32) (w_o_draft : Value) (w_o_sayings : Value) (w_o_leaves : Value) (w_o_signs : Value) (w_o_words : Value) (w_o_word : Value) (w_o_isKept : Value) (w_o_some : Value) (w_o_every : Value) (o_deep : Int32) (o_many : Int32) (w_o_length : Value) (w_o_found : Value) (o_foundMany : Int32) (a_values : Nat) (f_values : Nat → Int32) (p1 : Int32) (p2 : Int32) (z : Int32) (h : P_X11_terms p1 p2 o_choices o_worlds f_values = some z) : KI l yX11_terms wsX11_terms rmX11_terms D [(cI, .int), (cB, .byte), (cZ, .boolean)] [.ref a_o, .int p1, .int p2] [(a_o, .inr (10, [.long o_trace, w_o_text, .int o_typed, .int o_choices, .int o_worlds, .ref a_values, .int o_at, .int o_start, .int o_sort, .int o_value, .int o_fault, w_o_draft, w_o_sayings, w_o_leaves, w_o_signs, w_o_words, w_o_word, w_o_isKept, w_o_some, w_o_every, .int o_deep, .int o_many, w_o_length, w_o_found, .int o_foundMany])), (a_values, .inl (cI, 3, .inl f_values))] [(a_o, .inr (10, [.long o_trace, w_o_text, .int o_typed, .int o_choices, .int o_worlds, .ref a_values, .int o_at, .int o_start, .int o_sort, .int o_value, .int o_fault, w_o_draft, w_o_sayings, w_o_leaves, w_o_signs, w_o_words, w_o_word, w_o_isKept, w_o_some, w_o_every, .int o_deep, .int o_many, w_o_length, w_o_found, .int o_foundMany])), (a_values, .inl (cI, 3, .inl f_values))] z := by
  refine KI_of (own := RX11) (cc := cX11_terms) (maxL := 7) (ret := some .int) (by decide) rfl rfl (Nat.le_of_ble_eq_true rfl) (Or.inl rfl) ?_
  intro p e s m args below meth c A Q hx hb hml hown hts hA hZ hK hret H locs ls hP hD hS hl
  have hl : lv_has ls 7 [(0, .ref a_o), (1, .int p1), (2, .int p2)] := hl
  have hF : CallFix p m c cX11_terms 7 s args wsX11_terms RX11 := ⟨hx, hb, hml, hown, hts⟩
  unfold P_X11_terms at h
  refine lv_aload_n hx hb dX11_terms_0 rfl (lv_at hl 0 rfl) ?_
  refine lv_iload_n hx hb dX11_terms_1 rfl (lv_at hl 1 rfl) ?_
  obtain ⟨z_2, hc_2, h⟩ := bd_e h
  refine q_iV (As := [.int p1]) (rest := []) (wF := [(a_values, .inl (cI, 3, .inl f_values)), (a_o, .inr (10, [.long o_trace, w_o_text, .int o_typed, .int o_choices, .int o_worlds, .ref a_values, .int o_at, .int o_start, .int o_sort, .int o_value, .int o_fault, w_o_draft, w_o_sayings, w_o_leaves, w_o_signs, w_o_words, w_o_word, w_o_isKept, w_o_some, w_o_every, .int o_deep, .int o_many, w_o_length, w_o_found, .int o_foundMany]))]) hF hA hZ hK hP hD hS (c_X11_isSet l D cI cB cZ a_o o_trace w_o_text o_typed o_choices o_worlds (.ref a_values) o_at o_start o_sort o_value o_fault w_o_draft w_o_sayings w_o_leaves w_o_signs w_o_words w_o_word w_o_isKept w_o_some w_o_every o_deep o_many w_o_length w_o_found o_foundMany p1 z_2 hc_2) rfl gX11_terms_X11_isSet hdX11_isSet ⟨rfl, rfl⟩ (Nat.le_of_ble_eq_true rfl) (Nat.le_of_ble_eq_true rfl) 10 0 rfl rfl [0] [1] rfl rfl rfl rfl (by decide) rfl hl.1 rfl (Nat.le_of_ble_eq_true rfl) (Nat.zero_le _) (Nat.zero_le _) dX11_terms_2 (fun H locs hP hD hS => ?_)
  refine lv_if_eq (tgt := 13) hx hb dX11_terms_5 (by decide) (fun c_5 => ?_) (fun c_5 => ?_)
  · replace h := it_e c_5 h
    refine lv_iconst (v := (-1)) hx hb dX11_terms_13 ic_m1 ?_
    have hz := Option.some.inj h
    subst hz
    exact hret H locs 14 ls (fun ty h => by cases h; rfl) (hP.sub [1, 0] rfl) (hD.sub [1, 0] (by decide) rfl) hS dX11_terms_14
  · replace h := if_e c_5 h
    refine lv_iload_n hx hb dX11_terms_8 rfl (lv_at hl 2 rfl) ?_
    refine lv_iconst (v := (-1)) hx hb dX11_terms_9 ic_m1 ?_
    refine lv_icmp_ge (tgt := 15) hx hb dX11_terms_10 (by decide) (fun c_10 => ?_) (fun c_10 => ?_)
    · replace h := it_e c_10 h
      refine lv_iconst (v := 0) hx hb dX11_terms_15 ic_0 ?_
      refine lv_istore_n (lv' := [(3, .int 0), (0, .ref a_o), (1, .int p1), (2, .int p2)]) hx hb dX11_terms_16 rfl hl (by decide) rfl (fun ls hl => ?_)
      refine lv_iconst (v := 1) hx hb dX11_terms_17 ic_1 ?_
      refine lv_istore (lv' := [(4, .int 1), (3, .int 0), (0, .ref a_o), (1, .int p1), (2, .int p2)]) hx hb dX11_terms_18 hl (by decide) rfl (fun ls hl => ?_)
      obtain ⟨k105, hk105, h⟩ := jn_e h
      have Jk105 : ∀ (x105_l3 : Int32) (H : Heap) (locs : List Loc) (ls : Array Slot), k105 x105_l3 = some z → va_P D vwCl [(a_values, .inl (cI, 3, .inl f_values)), (a_o, .inr (10, [.long o_trace, w_o_text, .int o_typed, .int o_choices, .int o_worlds, .ref a_values, .int o_at, .int o_start, .int o_sort, .int o_value, .int o_fault, w_o_draft, w_o_sayings, w_o_leaves, w_o_signs, w_o_words, w_o_word, w_o_isKept, w_o_some, w_o_every, .int o_deep, .int o_many, w_o_length, w_o_found, .int o_foundMany]))] H → va_D A [(a_values, .inl (cI, 3, .inl f_values)), (a_o, .inr (10, [.long o_trace, w_o_text, .int o_typed, .int o_choices, .int o_worlds, .ref a_values, .int o_at, .int o_start, .int o_sort, .int o_value, .int o_fault, w_o_draft, w_o_sayings, w_o_leaves, w_o_signs, w_o_words, w_o_word, w_o_isKept, w_o_some, w_o_every, .int o_deep, .int o_many, w_o_length, w_o_found, .int o_foundMany]))] → va_S A s.heap H locs → lv_has ls 7 [(2, .int p2), (3, .int x105_l3)] → W p l e rmX11_terms s m args below meth c H locs 0 0 Q (F0 m 105 ls []) := by
        intro x105_l3 H locs ls h hP hD hS hl
        rw [hk105] at h
        refine lv_iload_n hx hb dX11_terms_105 rfl (lv_at hl 0 rfl) ?_
        refine lv_iconst (v := (-1)) hx hb dX11_terms_106 ic_m1 ?_
        refine lv_icmp_ne (tgt := 114) hx hb dX11_terms_107 (by decide) (fun c_107 => ?_) (fun c_107 => ?_)
        · replace h := if_e c_107 h
          refine lv_iconst (v := (-1)) hx hb dX11_terms_114 ic_m1 ?_
          have hz := Option.some.inj h
          subst hz
          exact hret H locs 115 ls (fun ty h => by cases h; rfl) (hP.sub [1, 0] rfl) (hD.sub [1, 0] (by decide) rfl) hS dX11_terms_115
        · replace h := it_e c_107 h
          refine lv_iload_n hx hb dX11_terms_110 rfl (lv_at hl 1 rfl) ?_
          refine lv_goto (tgt := 115) hx hb dX11_terms_111 (by decide) ?_
          have hz := Option.some.inj h
          subst hz
          exact hret H locs 115 ls (fun ty h => by cases h; rfl) (hP.sub [1, 0] rfl) (hD.sub [1, 0] (by decide) rfl) hS dX11_terms_115
      have L20 : ∀ (n : Nat), ∀ (x20_l3 : Int32) (x20_l4 : Int32) (H : Heap) (locs : List Loc) (ls : Array Slot), P_X11_terms_20 p1 p2 o_choices o_worlds f_values k105 n x20_l3 x20_l4 = some z → va_P D vwCl [(a_values, .inl (cI, 3, .inl f_values)), (a_o, .inr (10, [.long o_trace, w_o_text, .int o_typed, .int o_choices, .int o_worlds, .ref a_values, .int o_at, .int o_start, .int o_sort, .int o_value, .int o_fault, w_o_draft, w_o_sayings, w_o_leaves, w_o_signs, w_o_words, w_o_word, w_o_isKept, w_o_some, w_o_every, .int o_deep, .int o_many, w_o_length, w_o_found, .int o_foundMany]))] H → va_D A [(a_values, .inl (cI, 3, .inl f_values)), (a_o, .inr (10, [.long o_trace, w_o_text, .int o_typed, .int o_choices, .int o_worlds, .ref a_values, .int o_at, .int o_start, .int o_sort, .int o_value, .int o_fault, w_o_draft, w_o_sayings, w_o_leaves, w_o_signs, w_o_words, w_o_word, w_o_isKept, w_o_some, w_o_every, .int o_deep, .int o_many, w_o_length, w_o_found, .int o_foundMany]))] → va_S A s.heap H locs → lv_has ls 7 [(0, .ref a_o), (1, .int p1), (2, .int p2), (3, .int x20_l3), (4, .int x20_l4)] → W p l e rmX11_terms s m args below meth c H locs 0 0 Q (F0 m 20 ls []) := by
        intro n
        induction n with
        | zero =>
          intro x20_l3 x20_l4 H locs ls h
          exact no_e h
        | succ n ih20 =>
          intro x20_l3 x20_l4 H locs ls h hP hD hS hl
          rw [P_X11_terms_20] at h
          refine lv_iload hx hb dX11_terms_20 (lv_at hl 4 rfl) ?_
          refine lv_aload_n hx hb dX11_terms_22 rfl (lv_at hl 0 rfl) ?_
          obtain ⟨z_23, hc_23, h⟩ := bd_e h
          refine q_iV (As := []) (rest := [.int x20_l4]) (wF := [(a_values, .inl (cI, 3, .inl f_values)), (a_o, .inr (10, [.long o_trace, w_o_text, .int o_typed, .int o_choices, .int o_worlds, .ref a_values, .int o_at, .int o_start, .int o_sort, .int o_value, .int o_fault, w_o_draft, w_o_sayings, w_o_leaves, w_o_signs, w_o_words, w_o_word, w_o_isKept, w_o_some, w_o_every, .int o_deep, .int o_many, w_o_length, w_o_found, .int o_foundMany]))]) hF hA hZ hK hP hD hS (c_X11_allSets l D cI cB cZ a_o o_trace w_o_text o_typed o_choices o_worlds (.ref a_values) o_at o_start o_sort o_value o_fault w_o_draft w_o_sayings w_o_leaves w_o_signs w_o_words w_o_word w_o_isKept w_o_some w_o_every o_deep o_many w_o_length w_o_found o_foundMany z_23 hc_23) rfl gX11_terms_X11_allSets hdX11_allSets ⟨rfl, rfl⟩ (Nat.le_of_ble_eq_true rfl) (Nat.le_of_ble_eq_true rfl) 10 0 rfl rfl [1] [0] rfl rfl rfl rfl (by decide) rfl hl.1 rfl (Nat.le_of_ble_eq_true rfl) (Nat.zero_le _) (Nat.zero_le _) dX11_terms_23 (fun H locs hP hD hS => ?_)
          refine lv_icmp_gt (tgt := 105) hx hb dX11_terms_26 (by decide) (fun c_26 => ?_) (fun c_26 => ?_)
          · replace h := it_e c_26 h
            exact Jk105 x20_l3 H locs ls h hP hD hS (lv_sub hl [2, 3] rfl)
          · replace h := if_e c_26 h
            refine lv_iconst (v := 0) hx hb dX11_terms_29 ic_0 ?_
            refine lv_istore (lv' := [(5, .int 0), (0, .ref a_o), (1, .int p1), (2, .int p2), (3, .int x20_l3), (4, .int x20_l4)]) hx hb dX11_terms_30 hl (by decide) rfl (fun ls hl => ?_)
            refine lv_iconst (v := 0) hx hb dX11_terms_32 ic_0 ?_
            refine lv_istore (lv' := [(6, .int 0), (5, .int 0), (0, .ref a_o), (1, .int p1), (2, .int p2), (3, .int x20_l3), (4, .int x20_l4)]) hx hb dX11_terms_33 hl (by decide) rfl (fun ls hl => ?_)
            obtain ⟨k73, hk73, h⟩ := jn_e h
            have Jk73 : ∀ (x73_l5 : Int32) (H : Heap) (locs : List Loc) (ls : Array Slot), k73 x73_l5 = some z → va_P D vwCl [(a_values, .inl (cI, 3, .inl f_values)), (a_o, .inr (10, [.long o_trace, w_o_text, .int o_typed, .int o_choices, .int o_worlds, .ref a_values, .int o_at, .int o_start, .int o_sort, .int o_value, .int o_fault, w_o_draft, w_o_sayings, w_o_leaves, w_o_signs, w_o_words, w_o_word, w_o_isKept, w_o_some, w_o_every, .int o_deep, .int o_many, w_o_length, w_o_found, .int o_foundMany]))] H → va_D A [(a_values, .inl (cI, 3, .inl f_values)), (a_o, .inr (10, [.long o_trace, w_o_text, .int o_typed, .int o_choices, .int o_worlds, .ref a_values, .int o_at, .int o_start, .int o_sort, .int o_value, .int o_fault, w_o_draft, w_o_sayings, w_o_leaves, w_o_signs, w_o_words, w_o_word, w_o_isKept, w_o_some, w_o_every, .int o_deep, .int o_many, w_o_length, w_o_found, .int o_foundMany]))] → va_S A s.heap H locs → lv_has ls 7 [(0, .ref a_o), (1, .int p1), (2, .int p2), (3, .int x20_l3), (4, .int x20_l4), (5, .int x73_l5)] → W p l e rmX11_terms s m args below meth c H locs 0 0 Q (F0 m 73 ls []) := by
              intro x73_l5 H locs ls h hP hD hS hl
              rw [hk73] at h
              refine lv_iload hx hb dX11_terms_73 (lv_at hl 5 rfl) ?_
              obtain ⟨j99, hj99, h⟩ := jn_e h
              have Jj99 : ∀ (x99_l3 : Int32) (H : Heap) (locs : List Loc) (ls : Array Slot), j99 x99_l3 = some z → va_P D vwCl [(a_values, .inl (cI, 3, .inl f_values)), (a_o, .inr (10, [.long o_trace, w_o_text, .int o_typed, .int o_choices, .int o_worlds, .ref a_values, .int o_at, .int o_start, .int o_sort, .int o_value, .int o_fault, w_o_draft, w_o_sayings, w_o_leaves, w_o_signs, w_o_words, w_o_word, w_o_isKept, w_o_some, w_o_every, .int o_deep, .int o_many, w_o_length, w_o_found, .int o_foundMany]))] H → va_D A [(a_values, .inl (cI, 3, .inl f_values)), (a_o, .inr (10, [.long o_trace, w_o_text, .int o_typed, .int o_choices, .int o_worlds, .ref a_values, .int o_at, .int o_start, .int o_sort, .int o_value, .int o_fault, w_o_draft, w_o_sayings, w_o_leaves, w_o_signs, w_o_words, w_o_word, w_o_isKept, w_o_some, w_o_every, .int o_deep, .int o_many, w_o_length, w_o_found, .int o_foundMany]))] → va_S A s.heap H locs → lv_has ls 7 [(0, .ref a_o), (1, .int p1), (2, .int p2), (3, .int x99_l3), (4, .int x20_l4)] → W p l e rmX11_terms s m args below meth c H locs 0 0 Q (F0 m 99 ls []) := by
                intro x99_l3 H locs ls h hP hD hS hl
                rw [hj99] at h
                refine lv_iinc (v := x20_l4 + 1) (lv' := [(4, .int (x20_l4 + 1)), (0, .ref a_o), (1, .int p1), (2, .int p2), (3, .int x99_l3)]) hx hb dX11_terms_99 hl (k := 4) rfl (congrArg (x20_l4 + ·) ic_1) (by decide) rfl (fun ls hl => ?_)
                refine lv_goto (tgt := 20) hx hb dX11_terms_102 (by decide) ?_
                exact ih20 x99_l3 (x20_l4 + 1) H locs ls h hP hD hS (lv_sub hl [1, 2, 3, 4, 0] rfl)
              refine lv_if_eq (tgt := 99) hx hb dX11_terms_75 (by decide) (fun c_75 => ?_) (fun c_75 => ?_)
              · replace h := it_e c_75 h
                exact Jj99 x20_l3 H locs ls h hP hD hS (lv_sub hl [0, 1, 2, 3, 4] rfl)
              · replace h := if_e c_75 h
                refine lv_aload_n hx hb dX11_terms_78 rfl (lv_at hl 0 rfl) ?_
                refine lv_iload hx hb dX11_terms_79 (lv_at hl 4 rfl) ?_
                refine lv_iload_n hx hb dX11_terms_81 rfl (lv_at hl 1 rfl) ?_
                obtain ⟨z_82, hc_82, h⟩ := bd_e h
                refine q_iV (As := [.int x20_l4, .int p1]) (rest := []) (wF := [(a_o, .inr (10, [.long o_trace, w_o_text, .int o_typed, .int o_choices, .int o_worlds, .ref a_values, .int o_at, .int o_start, .int o_sort, .int o_value, .int o_fault, w_o_draft, w_o_sayings, w_o_leaves, w_o_signs, w_o_words, w_o_word, w_o_isKept, w_o_some, w_o_every, .int o_deep, .int o_many, w_o_length, w_o_found, .int o_foundMany])), (a_values, .inl (cI, 3, .inl f_values))]) hF hA hZ hK hP hD hS (c_X11_isTerm l D cI cB cZ a_o o_trace w_o_text o_typed o_choices o_worlds o_at o_start o_sort o_value o_fault w_o_draft w_o_sayings w_o_leaves w_o_signs w_o_words w_o_word w_o_isKept w_o_some w_o_every o_deep o_many w_o_length w_o_found o_foundMany a_values f_values x20_l4 p1 z_82 hc_82) rfl gX11_terms_X11_isTerm hdX11_isTerm ⟨rfl, rfl⟩ (Nat.le_of_ble_eq_true rfl) (Nat.le_of_ble_eq_true rfl) 10 0 rfl rfl [1, 0] [] rfl rfl rfl rfl (by decide) rfl hl.1 rfl (Nat.le_of_ble_eq_true rfl) (Nat.zero_le _) (Nat.zero_le _) dX11_terms_82 (fun H locs hP hD hS => ?_)
                refine lv_if_eq (tgt := 99) hx hb dX11_terms_85 (by decide) (fun c_85 => ?_) (fun c_85 => ?_)
                · replace h := it_e c_85 h
                  exact Jj99 x20_l3 H locs ls h (hP.sub [1, 0] rfl) (hD.sub [1, 0] (by decide) rfl) hS (lv_sub hl [0, 1, 2, 3, 4] rfl)
                · replace h := if_e c_85 h
                  refine lv_iload_n hx hb dX11_terms_88 rfl (lv_at hl 3 rfl) ?_
                  refine lv_iload_n hx hb dX11_terms_89 rfl (lv_at hl 2 rfl) ?_
                  refine lv_icmp_ne (tgt := 96) hx hb dX11_terms_90 (by decide) (fun c_90 => ?_) (fun c_90 => ?_)
                  · replace h := if_e c_90 h
                    refine lv_iinc (v := x20_l3 + 1) (lv' := [(3, .int (x20_l3 + 1)), (0, .ref a_o), (1, .int p1), (2, .int p2), (4, .int x20_l4), (5, .int x73_l5)]) hx hb dX11_terms_96 hl (k := 3) rfl (congrArg (x20_l3 + ·) ic_1) (by decide) rfl (fun ls hl => ?_)
                    exact Jj99 (x20_l3 + 1) H locs ls h (hP.sub [1, 0] rfl) (hD.sub [1, 0] (by decide) rfl) hS (lv_sub hl [1, 2, 3, 0, 4] rfl)
                  · replace h := it_e c_90 h
                    refine lv_iload hx hb dX11_terms_93 (lv_at hl 4 rfl) ?_
                    have hz := Option.some.inj h
                    subst hz
                    exact hret H locs 95 ls (fun ty h => by cases h; rfl) hP hD hS dX11_terms_95
            have L35 : ∀ (n : Nat), ∀ (x35_l5 : Int32) (x35_l6 : Int32) (H : Heap) (locs : List Loc) (ls : Array Slot), P_X11_terms_35 o_choices o_worlds f_values x20_l4 k73 n x35_l5 x35_l6 = some z → va_P D vwCl [(a_values, .inl (cI, 3, .inl f_values)), (a_o, .inr (10, [.long o_trace, w_o_text, .int o_typed, .int o_choices, .int o_worlds, .ref a_values, .int o_at, .int o_start, .int o_sort, .int o_value, .int o_fault, w_o_draft, w_o_sayings, w_o_leaves, w_o_signs, w_o_words, w_o_word, w_o_isKept, w_o_some, w_o_every, .int o_deep, .int o_many, w_o_length, w_o_found, .int o_foundMany]))] H → va_D A [(a_values, .inl (cI, 3, .inl f_values)), (a_o, .inr (10, [.long o_trace, w_o_text, .int o_typed, .int o_choices, .int o_worlds, .ref a_values, .int o_at, .int o_start, .int o_sort, .int o_value, .int o_fault, w_o_draft, w_o_sayings, w_o_leaves, w_o_signs, w_o_words, w_o_word, w_o_isKept, w_o_some, w_o_every, .int o_deep, .int o_many, w_o_length, w_o_found, .int o_foundMany]))] → va_S A s.heap H locs → lv_has ls 7 [(0, .ref a_o), (1, .int p1), (2, .int p2), (3, .int x20_l3), (4, .int x20_l4), (5, .int x35_l5), (6, .int x35_l6)] → W p l e rmX11_terms s m args below meth c H locs 0 0 Q (F0 m 35 ls []) := by
              intro n
              induction n with
              | zero =>
                intro x35_l5 x35_l6 H locs ls h
                exact no_e h
              | succ n ih35 =>
                intro x35_l5 x35_l6 H locs ls h hP hD hS hl
                rw [P_X11_terms_35] at h
                refine lv_iload hx hb dX11_terms_35 (lv_at hl 6 rfl) ?_
                refine lv_aload_n hx hb dX11_terms_37 rfl (lv_at hl 0 rfl) ?_
                obtain ⟨z_38, hc_38, h⟩ := bd_e h
                refine q_iV (As := []) (rest := [.int x35_l6]) (wF := [(a_o, .inr (10, [.long o_trace, w_o_text, .int o_typed, .int o_choices, .int o_worlds, .ref a_values, .int o_at, .int o_start, .int o_sort, .int o_value, .int o_fault, w_o_draft, w_o_sayings, w_o_leaves, w_o_signs, w_o_words, w_o_word, w_o_isKept, w_o_some, w_o_every, .int o_deep, .int o_many, w_o_length, w_o_found, .int o_foundMany])), (a_values, .inl (cI, 3, .inl f_values))]) hF hA hZ hK hP hD hS (c_X11_cubes l D cI cB cZ a_o o_trace w_o_text o_typed o_choices o_worlds o_at o_start o_sort o_value o_fault w_o_draft w_o_sayings w_o_leaves w_o_signs w_o_words w_o_word w_o_isKept w_o_some w_o_every o_deep o_many w_o_length w_o_found o_foundMany a_values f_values z_38 hc_38) rfl gX11_terms_X11_cubes hdX11_cubes ⟨rfl, rfl⟩ (Nat.le_of_ble_eq_true rfl) (Nat.le_of_ble_eq_true rfl) 10 0 rfl rfl [1, 0] [] rfl rfl rfl rfl (by decide) rfl hl.1 rfl (Nat.le_of_ble_eq_true rfl) (Nat.zero_le _) (Nat.zero_le _) dX11_terms_38 (fun H locs hP hD hS => ?_)
                refine lv_icmp_ge (tgt := 73) hx hb dX11_terms_41 (by decide) (fun c_41 => ?_) (fun c_41 => ?_)
                · replace h := it_e c_41 h
                  exact Jk73 x35_l5 H locs ls h (hP.sub [1, 0] rfl) (hD.sub [1, 0] (by decide) rfl) hS (lv_sub hl [0, 1, 2, 3, 4, 5] rfl)
                · replace h := if_e c_41 h
                  refine lv_iload hx hb dX11_terms_44 (lv_at hl 5 rfl) ?_
                  obtain ⟨j60, hj60, h⟩ := jn_e h
                  have Jj60 : ∀ (H : Heap) (locs : List Loc) (ls : Array Slot), j60 () = some z → va_P D vwCl [(a_o, .inr (10, [.long o_trace, w_o_text, .int o_typed, .int o_choices, .int o_worlds, .ref a_values, .int o_at, .int o_start, .int o_sort, .int o_value, .int o_fault, w_o_draft, w_o_sayings, w_o_leaves, w_o_signs, w_o_words, w_o_word, w_o_isKept, w_o_some, w_o_every, .int o_deep, .int o_many, w_o_length, w_o_found, .int o_foundMany])), (a_values, .inl (cI, 3, .inl f_values))] H → va_D A [(a_o, .inr (10, [.long o_trace, w_o_text, .int o_typed, .int o_choices, .int o_worlds, .ref a_values, .int o_at, .int o_start, .int o_sort, .int o_value, .int o_fault, w_o_draft, w_o_sayings, w_o_leaves, w_o_signs, w_o_words, w_o_word, w_o_isKept, w_o_some, w_o_every, .int o_deep, .int o_many, w_o_length, w_o_found, .int o_foundMany])), (a_values, .inl (cI, 3, .inl f_values))] → va_S A s.heap H locs → lv_has ls 7 [(0, .ref a_o), (1, .int p1), (2, .int p2), (3, .int x20_l3), (4, .int x20_l4), (6, .int x35_l6)] → W p l e rmX11_terms s m args below meth c H locs 0 0 Q (F0 m 60 ls []) := by
                    intro H locs ls h hP hD hS hl
                    rw [hj60] at h
                    refine lv_iconst (v := 1) hx hb dX11_terms_60 ic_1 ?_
                    refine lv_goto (tgt := 65) hx hb dX11_terms_61 (by decide) ?_
                    refine lv_istore (lv' := [(5, .int 1), (0, .ref a_o), (1, .int p1), (2, .int p2), (3, .int x20_l3), (4, .int x20_l4), (6, .int x35_l6)]) hx hb dX11_terms_65 hl (by decide) rfl (fun ls hl => ?_)
                    refine lv_iinc (v := x35_l6 + 1) (lv' := [(6, .int (x35_l6 + 1)), (5, .int 1), (0, .ref a_o), (1, .int p1), (2, .int p2), (3, .int x20_l3), (4, .int x20_l4)]) hx hb dX11_terms_67 hl (k := 6) rfl (congrArg (x35_l6 + ·) ic_1) (by decide) rfl (fun ls hl => ?_)
                    refine lv_goto (tgt := 35) hx hb dX11_terms_70 (by decide) ?_
                    exact ih35 1 (x35_l6 + 1) H locs ls h (hP.sub [1, 0] rfl) (hD.sub [1, 0] (by decide) rfl) hS (lv_sub hl [2, 3, 4, 5, 6, 1, 0] rfl)
                  obtain ⟨j65, hj65, h⟩ := jn_e h
                  have Jj65 : ∀ (x65_s0 : Int32) (H : Heap) (locs : List Loc) (ls : Array Slot), j65 x65_s0 = some z → va_P D vwCl [(a_o, .inr (10, [.long o_trace, w_o_text, .int o_typed, .int o_choices, .int o_worlds, .ref a_values, .int o_at, .int o_start, .int o_sort, .int o_value, .int o_fault, w_o_draft, w_o_sayings, w_o_leaves, w_o_signs, w_o_words, w_o_word, w_o_isKept, w_o_some, w_o_every, .int o_deep, .int o_many, w_o_length, w_o_found, .int o_foundMany])), (a_values, .inl (cI, 3, .inl f_values))] H → va_D A [(a_o, .inr (10, [.long o_trace, w_o_text, .int o_typed, .int o_choices, .int o_worlds, .ref a_values, .int o_at, .int o_start, .int o_sort, .int o_value, .int o_fault, w_o_draft, w_o_sayings, w_o_leaves, w_o_signs, w_o_words, w_o_word, w_o_isKept, w_o_some, w_o_every, .int o_deep, .int o_many, w_o_length, w_o_found, .int o_foundMany])), (a_values, .inl (cI, 3, .inl f_values))] → va_S A s.heap H locs → lv_has ls 7 [(0, .ref a_o), (1, .int p1), (2, .int p2), (3, .int x20_l3), (4, .int x20_l4), (6, .int x35_l6)] → W p l e rmX11_terms s m args below meth c H locs 0 0 Q (F0 m 65 ls [.int x65_s0]) := by
                    intro x65_s0 H locs ls h hP hD hS hl
                    rw [hj65] at h
                    refine lv_istore (lv' := [(5, .int x65_s0), (0, .ref a_o), (1, .int p1), (2, .int p2), (3, .int x20_l3), (4, .int x20_l4), (6, .int x35_l6)]) hx hb dX11_terms_65 hl (by decide) rfl (fun ls hl => ?_)
                    refine lv_iinc (v := x35_l6 + 1) (lv' := [(6, .int (x35_l6 + 1)), (5, .int x65_s0), (0, .ref a_o), (1, .int p1), (2, .int p2), (3, .int x20_l3), (4, .int x20_l4)]) hx hb dX11_terms_67 hl (k := 6) rfl (congrArg (x35_l6 + ·) ic_1) (by decide) rfl (fun ls hl => ?_)
                    refine lv_goto (tgt := 35) hx hb dX11_terms_70 (by decide) ?_
                    exact ih35 x65_s0 (x35_l6 + 1) H locs ls h (hP.sub [1, 0] rfl) (hD.sub [1, 0] (by decide) rfl) hS (lv_sub hl [2, 3, 4, 5, 6, 1, 0] rfl)
                  refine lv_if_ne (tgt := 60) hx hb dX11_terms_46 (by decide) (fun c_46 => ?_) (fun c_46 => ?_)
                  · replace h := if_e c_46 h
                    exact Jj60  H locs ls h hP hD hS (lv_sub hl [0, 1, 2, 3, 4, 6] rfl)
                  · replace h := it_e c_46 h
                    refine lv_aload_n hx hb dX11_terms_49 rfl (lv_at hl 0 rfl) ?_
                    refine lv_iload hx hb dX11_terms_50 (lv_at hl 6 rfl) ?_
                    obtain ⟨z_52, hc_52, h⟩ := bd_e h
                    refine q_iV (As := [.int x35_l6]) (rest := []) (wF := [(a_o, .inr (10, [.long o_trace, w_o_text, .int o_typed, .int o_choices, .int o_worlds, .ref a_values, .int o_at, .int o_start, .int o_sort, .int o_value, .int o_fault, w_o_draft, w_o_sayings, w_o_leaves, w_o_signs, w_o_words, w_o_word, w_o_isKept, w_o_some, w_o_every, .int o_deep, .int o_many, w_o_length, w_o_found, .int o_foundMany])), (a_values, .inl (cI, 3, .inl f_values))]) hF hA hZ hK hP hD hS (c_X11_cubeOf l D cI cB cZ a_o o_trace w_o_text o_typed o_choices o_worlds o_at o_start o_sort o_value o_fault w_o_draft w_o_sayings w_o_leaves w_o_signs w_o_words w_o_word w_o_isKept w_o_some w_o_every o_deep o_many w_o_length w_o_found o_foundMany a_values f_values x35_l6 z_52 hc_52) rfl gX11_terms_X11_cubeOf hdX11_cubeOf ⟨rfl, rfl⟩ (Nat.le_of_ble_eq_true rfl) (Nat.le_of_ble_eq_true rfl) 10 0 rfl rfl [0, 1] [] rfl rfl rfl rfl (by decide) rfl hl.1 rfl (Nat.le_of_ble_eq_true rfl) (Nat.zero_le _) (Nat.zero_le _) dX11_terms_52 (fun H locs hP hD hS => ?_)
                    refine lv_iload hx hb dX11_terms_55 (lv_at hl 4 rfl) ?_
                    refine lv_icmp_ne (tgt := 64) hx hb dX11_terms_57 (by decide) (fun c_57 => ?_) (fun c_57 => ?_)
                    · replace h := if_e c_57 h
                      refine lv_iconst (v := 0) hx hb dX11_terms_64 ic_0 ?_
                      exact Jj65 0 H locs ls h hP hD hS (lv_sub hl [0, 1, 2, 3, 4, 6] rfl)
                    · replace h := it_e c_57 h
                      exact Jj60  H locs ls h hP hD hS (lv_sub hl [0, 1, 2, 3, 4, 6] rfl)
            exact L35 QF 0 0 H locs ls h hP hD hS (lv_sub hl [2, 3, 4, 5, 6, 1, 0] rfl)
      exact L20 QF 0 1 H locs ls h hP hD hS (lv_sub hl [2, 3, 4, 1, 0] rfl)
    · replace h := if_e c_10 h
      refine lv_iconst (v := (-1)) hx hb dX11_terms_13 ic_m1 ?_
      have hz := Option.some.inj h
      subst hz
      exact hret H locs 14 ls (fun ty h => by cases h; rfl) (hP.sub [1, 0] rfl) (hD.sub [1, 0] (by decide) rfl) hS dX11_terms_14
abbrev rmX11_refusal : Room := { frames := 3, cells := 0, slots := 0, locals := 73 }
theorem hdX11_refusal : yX11_refusal.cls = RX11 ∧ yX11_refusal.cls ≠ "java/lang/invoke/MethodHandle" ∧ yX11_refusal.cls ≠ "java/lang/invoke/VarHandle" ∧ (parseMethodDescriptor yX11_refusal.desc).map (fun d => d.parameters.length) = some 1 := by decide +kernel
set_option maxRecDepth 100000 in
set_option maxHeartbeats 4000000 in
theorem c_X11_refusal (l : Launch) (D : va_G) (cI cB cZ : ClassId) (a_o : Nat) (o_trace : Int64) (w_o_text : Value) (o_typed : Int32) (o_choices : Int32) (o_worlds : Int32) (o_at : Int32) (o_start : Int32) (o_sort : Int32) (o_value : Int32) (o_fault : Int32) (w_o_draft : Value) (w_o_sayings : Value) (w_o_leaves : Value) (w_o_signs : Value) (w_o_isKept : Value) (w_o_some : Value) (w_o_every : Value) (o_deep : Int32) (o_many : Int32) (o_foundMany : Int32) (a_values : Nat) (f_values : Nat → Int32) (a_words : Nat) (f_words : Nat → Int32) (a_word : Nat) (f_word : Nat → Int32) (a_length : Nat) (f_length : Nat → Int32) (a_found : Nat) (f_found : Nat → Int32) (p1 : Int32) (z : Int32 × Int32 × (Nat → Int32) × (Nat → Int32)) (h : P_X11_refusal p1 o_choices o_worlds o_foundMany f_values f_words f_word f_length f_found = some z) : KI l yX11_refusal wsX11_refusal rmX11_refusal D [(cI, .int), (cB, .byte), (cZ, .boolean)] [.ref a_o, .int p1] [(a_o, .inr (10, [.long o_trace, w_o_text, .int o_typed, .int o_choices, .int o_worlds, .ref a_values, .int o_at, .int o_start, .int o_sort, .int o_value, .int o_fault, w_o_draft, w_o_sayings, w_o_leaves, w_o_signs, .ref a_words, .ref a_word, w_o_isKept, w_o_some, w_o_every, .int o_deep, .int o_many, .ref a_length, .ref a_found, .int o_foundMany])), (a_values, .inl (cI, 3, .inl f_values)), (a_words, .inl (cI, 3, .inl f_words)), (a_word, .inl (cI, 9, .inl f_word)), (a_length, .inl (cI, 512, .inl f_length)), (a_found, .inl (cI, 512, .inl f_found))] [(a_o, .inr (10, [.long o_trace, w_o_text, .int o_typed, .int o_choices, .int o_worlds, .ref a_values, .int o_at, .int o_start, .int o_sort, .int o_value, .int o_fault, w_o_draft, w_o_sayings, w_o_leaves, w_o_signs, .ref a_words, .ref a_word, w_o_isKept, w_o_some, w_o_every, .int o_deep, .int o_many, .ref a_length, .ref a_found, .int z.2.1])), (a_values, .inl (cI, 3, .inl f_values)), (a_words, .inl (cI, 3, .inl f_words)), (a_word, .inl (cI, 9, .inl f_word)), (a_length, .inl (cI, 512, .inl z.2.2.1)), (a_found, .inl (cI, 512, .inl z.2.2.2))] z.1 := by
  refine KI_of (own := RX11) (cc := cX11_refusal) (maxL := 2) (ret := some .int) (by decide) rfl rfl (Nat.le_of_ble_eq_true rfl) (Or.inl rfl) ?_
  intro p e s m args below meth c A Q hx hb hml hown hts hA hZ hK hret H locs ls hP hD hS hl
  have hl : lv_has ls 2 [(0, .ref a_o), (1, .int p1)] := hl
  have hF : CallFix p m c cX11_refusal 2 s args wsX11_refusal RX11 := ⟨hx, hb, hml, hown, hts⟩
  unfold P_X11_refusal at h
  refine lv_aload_n hx hb dX11_refusal_0 rfl (lv_at hl 0 rfl) ?_
  refine lv_iload_n hx hb dX11_refusal_1 rfl (lv_at hl 1 rfl) ?_
  obtain ⟨z_2, hc_2, h⟩ := bd_e h
  refine q_iV (As := [.int p1]) (rest := []) (wF := [(a_values, .inl (cI, 3, .inl f_values)), (a_words, .inl (cI, 3, .inl f_words)), (a_word, .inl (cI, 9, .inl f_word)), (a_length, .inl (cI, 512, .inl f_length)), (a_found, .inl (cI, 512, .inl f_found)), (a_o, .inr (10, [.long o_trace, w_o_text, .int o_typed, .int o_choices, .int o_worlds, .ref a_values, .int o_at, .int o_start, .int o_sort, .int o_value, .int o_fault, w_o_draft, w_o_sayings, w_o_leaves, w_o_signs, .ref a_words, .ref a_word, w_o_isKept, w_o_some, w_o_every, .int o_deep, .int o_many, .ref a_length, .ref a_found, .int o_foundMany]))]) hF hA hZ hK hP hD hS (c_X11_isSet l D cI cB cZ a_o o_trace w_o_text o_typed o_choices o_worlds (.ref a_values) o_at o_start o_sort o_value o_fault w_o_draft w_o_sayings w_o_leaves w_o_signs (.ref a_words) (.ref a_word) w_o_isKept w_o_some w_o_every o_deep o_many (.ref a_length) (.ref a_found) o_foundMany p1 z_2 hc_2) rfl gX11_refusal_X11_isSet hdX11_isSet ⟨rfl, rfl⟩ (Nat.le_of_ble_eq_true rfl) (Nat.le_of_ble_eq_true rfl) 10 0 rfl rfl [0] [1, 2, 3, 4, 5] rfl rfl rfl rfl (by decide) rfl hl.1 rfl (Nat.le_of_ble_eq_true rfl) (Nat.zero_le _) (Nat.zero_le _) dX11_refusal_2 (fun H locs hP hD hS => ?_)
  refine lv_if_ne (tgt := 10) hx hb dX11_refusal_5 (by decide) (fun c_5 => ?_) (fun c_5 => ?_)
  · replace h := if_e c_5 h
    refine lv_aload_n hx hb dX11_refusal_10 rfl (lv_at hl 0 rfl) ?_
    refine lv_iconst (v := (-1)) hx hb dX11_refusal_11 ic_m1 ?_
    obtain ⟨z_12, hc_12, h⟩ := bd_e h
    refine q_vV (As := [.int (-1)]) (rest := []) (wF := [(a_o, .inr (10, [.long o_trace, w_o_text, .int o_typed, .int o_choices, .int o_worlds, .ref a_values, .int o_at, .int o_start, .int o_sort, .int o_value, .int o_fault, w_o_draft, w_o_sayings, w_o_leaves, w_o_signs, .ref a_words, .ref a_word, w_o_isKept, w_o_some, w_o_every, .int o_deep, .int o_many, .ref a_length, .ref a_found, .int z_12.1])), (a_values, .inl (cI, 3, .inl f_values)), (a_words, .inl (cI, 3, .inl f_words)), (a_word, .inl (cI, 9, .inl f_word)), (a_length, .inl (cI, 512, .inl z_12.2.1)), (a_found, .inl (cI, 512, .inl z_12.2.2))]) hF hA hZ hK hP hD hS (c_X11_findAll l D cI cB cZ a_o o_trace w_o_text o_typed o_choices o_worlds o_at o_start o_sort o_value o_fault w_o_draft w_o_sayings w_o_leaves w_o_signs w_o_isKept w_o_some w_o_every o_deep o_many o_foundMany a_values f_values a_words f_words a_word f_word a_length f_length a_found f_found (-1) z_12 hc_12) rfl gX11_refusal_X11_findAll hdX11_findAll ⟨rfl, rfl⟩ (Nat.le_of_ble_eq_true rfl) (Nat.le_of_ble_eq_true rfl) 10 0 rfl rfl [5, 0, 1, 2, 3, 4] [] rfl rfl rfl rfl (by decide) rfl hl.1 rfl (Nat.le_of_ble_eq_true rfl) (Nat.zero_le _) (Nat.zero_le _) dX11_refusal_12 (fun H locs hP hD hS => ?_)
    refine lv_aload_n hx hb dX11_refusal_15 rfl (lv_at hl 0 rfl) ?_
    refine lv_aload_n hx hb dX11_refusal_16 rfl (lv_at hl 0 rfl) ?_
    obtain ⟨z_17, hc_17, h⟩ := bd_e h
    refine q_iV (As := []) (rest := [.ref a_o]) (wF := [(a_values, .inl (cI, 3, .inl f_values)), (a_words, .inl (cI, 3, .inl f_words)), (a_word, .inl (cI, 9, .inl f_word)), (a_length, .inl (cI, 512, .inl z_12.2.1)), (a_found, .inl (cI, 512, .inl z_12.2.2)), (a_o, .inr (10, [.long o_trace, w_o_text, .int o_typed, .int o_choices, .int o_worlds, .ref a_values, .int o_at, .int o_start, .int o_sort, .int o_value, .int o_fault, w_o_draft, w_o_sayings, w_o_leaves, w_o_signs, .ref a_words, .ref a_word, w_o_isKept, w_o_some, w_o_every, .int o_deep, .int o_many, .ref a_length, .ref a_found, .int z_12.1]))]) hF hA hZ hK hP hD hS (c_X11_allSets l D cI cB cZ a_o o_trace w_o_text o_typed o_choices o_worlds (.ref a_values) o_at o_start o_sort o_value o_fault w_o_draft w_o_sayings w_o_leaves w_o_signs (.ref a_words) (.ref a_word) w_o_isKept w_o_some w_o_every o_deep o_many (.ref a_length) (.ref a_found) z_12.1 z_17 hc_17) rfl gX11_refusal_X11_allSets hdX11_allSets ⟨rfl, rfl⟩ (Nat.le_of_ble_eq_true rfl) (Nat.le_of_ble_eq_true rfl) 10 0 rfl rfl [0] [1, 2, 3, 4, 5] rfl rfl rfl rfl (by decide) rfl hl.1 rfl (Nat.le_of_ble_eq_true rfl) (Nat.zero_le _) (Nat.zero_le _) dX11_refusal_17 (fun H locs hP hD hS => ?_)
    refine lv_iload_n hx hb dX11_refusal_20 rfl (lv_at hl 1 rfl) ?_
    refine lv_iconst (v := (-1)) hx hb dX11_refusal_21 ic_m1 ?_
    refine lv_ixor hx hb dX11_refusal_22 ?_
    refine lv_iand hx hb dX11_refusal_23 ?_
    obtain ⟨z_24, hc_24, h⟩ := bd_e h
    refine q_iV (As := [.int (z_17 &&& (p1 ^^^ (-1)))]) (rest := []) (wF := [(a_values, .inl (cI, 3, .inl f_values)), (a_words, .inl (cI, 3, .inl f_words)), (a_word, .inl (cI, 9, .inl f_word)), (a_found, .inl (cI, 512, .inl z_12.2.2)), (a_o, .inr (10, [.long o_trace, w_o_text, .int o_typed, .int o_choices, .int o_worlds, .ref a_values, .int o_at, .int o_start, .int o_sort, .int o_value, .int o_fault, w_o_draft, w_o_sayings, w_o_leaves, w_o_signs, .ref a_words, .ref a_word, w_o_isKept, w_o_some, w_o_every, .int o_deep, .int o_many, .ref a_length, .ref a_found, .int z_12.1])), (a_length, .inl (cI, 512, .inl z_12.2.1))]) hF hA hZ hK hP hD hS (c_X11_lengthOf l D cI cB cZ a_o o_trace w_o_text o_typed o_choices o_worlds (.ref a_values) o_at o_start o_sort o_value o_fault w_o_draft w_o_sayings w_o_leaves w_o_signs (.ref a_words) (.ref a_word) w_o_isKept w_o_some w_o_every o_deep o_many (.ref a_found) z_12.1 a_length z_12.2.1 (z_17 &&& (p1 ^^^ (-1))) z_24 hc_24) rfl gX11_refusal_X11_lengthOf hdX11_lengthOf ⟨rfl, rfl⟩ (Nat.le_of_ble_eq_true rfl) (Nat.le_of_ble_eq_true rfl) 10 0 rfl rfl [5, 3] [0, 1, 2, 4] rfl rfl rfl rfl (by decide) rfl hl.1 rfl (Nat.le_of_ble_eq_true rfl) (Nat.zero_le _) (Nat.zero_le _) dX11_refusal_24 (fun H locs hP hD hS => ?_)
    have hz := Option.some.inj h
    subst hz
    exact hret H locs 27 ls (fun ty h => by cases h; rfl) (hP.sub [4, 0, 1, 2, 5, 3] rfl) (hD.sub [4, 0, 1, 2, 5, 3] (by decide) rfl) hS dX11_refusal_27
  · replace h := it_e c_5 h
    refine lv_iconst (v := (-1)) hx hb dX11_refusal_8 ic_m1 ?_
    have hz := Option.some.inj h
    subst hz
    exact hret H locs 9 ls (fun ty h => by cases h; rfl) (hP.sub [5, 0, 1, 2, 3, 4] rfl) (hD.sub [5, 0, 1, 2, 3, 4] (by decide) rfl) hS dX11_refusal_9
abbrev rmX11_worst : Room := { frames := 3, cells := 0, slots := 0, locals := 73 }
theorem hdX11_worst : yX11_worst.cls = RX11 ∧ yX11_worst.cls ≠ "java/lang/invoke/MethodHandle" ∧ yX11_worst.cls ≠ "java/lang/invoke/VarHandle" ∧ (parseMethodDescriptor yX11_worst.desc).map (fun d => d.parameters.length) = some 1 := by decide +kernel
set_option maxRecDepth 100000 in
set_option maxHeartbeats 4000000 in
theorem c_X11_worst (l : Launch) (D : va_G) (cI cB cZ : ClassId) (a_o : Nat) (o_trace : Int64) (w_o_text : Value) (o_typed : Int32) (o_choices : Int32) (o_worlds : Int32) (o_at : Int32) (o_start : Int32) (o_sort : Int32) (o_value : Int32) (o_fault : Int32) (w_o_draft : Value) (w_o_sayings : Value) (w_o_leaves : Value) (w_o_signs : Value) (w_o_isKept : Value) (w_o_some : Value) (w_o_every : Value) (o_deep : Int32) (o_many : Int32) (o_foundMany : Int32) (a_values : Nat) (f_values : Nat → Int32) (a_words : Nat) (f_words : Nat → Int32) (a_word : Nat) (f_word : Nat → Int32) (a_length : Nat) (f_length : Nat → Int32) (a_found : Nat) (f_found : Nat → Int32) (p1 : Int32) (z : Int32 × Int32 × (Nat → Int32) × (Nat → Int32)) (h : P_X11_worst p1 o_choices o_worlds o_foundMany f_values f_words f_word f_length f_found = some z) : KI l yX11_worst wsX11_worst rmX11_worst D [(cI, .int), (cB, .byte), (cZ, .boolean)] [.ref a_o, .int p1] [(a_o, .inr (10, [.long o_trace, w_o_text, .int o_typed, .int o_choices, .int o_worlds, .ref a_values, .int o_at, .int o_start, .int o_sort, .int o_value, .int o_fault, w_o_draft, w_o_sayings, w_o_leaves, w_o_signs, .ref a_words, .ref a_word, w_o_isKept, w_o_some, w_o_every, .int o_deep, .int o_many, .ref a_length, .ref a_found, .int o_foundMany])), (a_values, .inl (cI, 3, .inl f_values)), (a_words, .inl (cI, 3, .inl f_words)), (a_word, .inl (cI, 9, .inl f_word)), (a_length, .inl (cI, 512, .inl f_length)), (a_found, .inl (cI, 512, .inl f_found))] [(a_o, .inr (10, [.long o_trace, w_o_text, .int o_typed, .int o_choices, .int o_worlds, .ref a_values, .int o_at, .int o_start, .int o_sort, .int o_value, .int o_fault, w_o_draft, w_o_sayings, w_o_leaves, w_o_signs, .ref a_words, .ref a_word, w_o_isKept, w_o_some, w_o_every, .int o_deep, .int o_many, .ref a_length, .ref a_found, .int z.2.1])), (a_values, .inl (cI, 3, .inl f_values)), (a_words, .inl (cI, 3, .inl f_words)), (a_word, .inl (cI, 9, .inl f_word)), (a_length, .inl (cI, 512, .inl z.2.2.1)), (a_found, .inl (cI, 512, .inl z.2.2.2))] z.1 := by
  refine KI_of (own := RX11) (cc := cX11_worst) (maxL := 7) (ret := some .int) (by decide) rfl rfl (Nat.le_of_ble_eq_true rfl) (Or.inl rfl) ?_
  intro p e s m args below meth c A Q hx hb hml hown hts hA hZ hK hret H locs ls hP hD hS hl
  have hl : lv_has ls 7 [(0, .ref a_o), (1, .int p1)] := hl
  have hF : CallFix p m c cX11_worst 7 s args wsX11_worst RX11 := ⟨hx, hb, hml, hown, hts⟩
  have u_X11 : ∀ w ∈ u_ws RX11 TX11 25, w ∈ wsX11_worst := by decide +kernel
  have k_f0 := hts (.fieldLink RX11 95 "NoWordNoModel" "choices" "I") (by decide +kernel)
  have k_f1 := hts (.fieldLink RX11 13 "NoWordNoModel" "values" "[I") (by decide +kernel)
  unfold P_X11_worst at h
  refine lv_iload_n hx hb dX11_worst_0 rfl (lv_at hl 1 rfl) ?_
  refine lv_iconst (v := 0) hx hb dX11_worst_1 ic_0 ?_
  refine lv_iconst (v := 1) hx hb dX11_worst_2 ic_1 ?_
  obtain ⟨z_3, hc_3, h⟩ := bd_e h
  refine q_iS (As := [.int p1, .int 0, .int 1]) (rest := []) (wF := [(a_o, .inr (10, [.long o_trace, w_o_text, .int o_typed, .int o_choices, .int o_worlds, .ref a_values, .int o_at, .int o_start, .int o_sort, .int o_value, .int o_fault, w_o_draft, w_o_sayings, w_o_leaves, w_o_signs, .ref a_words, .ref a_word, w_o_isKept, w_o_some, w_o_every, .int o_deep, .int o_many, .ref a_length, .ref a_found, .int o_foundMany])), (a_values, .inl (cI, 3, .inl f_values)), (a_words, .inl (cI, 3, .inl f_words)), (a_word, .inl (cI, 9, .inl f_word)), (a_length, .inl (cI, 512, .inl f_length)), (a_found, .inl (cI, 512, .inl f_found))]) hF hA hZ hK hP hD hS (c_X11_in l D cI cB cZ p1 0 1 z_3 hc_3) rfl gX11_worst_X11_in hdX11_in ⟨rfl, rfl⟩ (Nat.le_of_ble_eq_true rfl) (Nat.le_of_ble_eq_true rfl) [] [0, 1, 2, 3, 4, 5] rfl rfl rfl rfl (by decide) rfl hl.1 rfl (Nat.le_of_ble_eq_true rfl) (Nat.zero_le _) (Nat.zero_le _) dX11_worst_3 (fun H locs hP hD hS => ?_)
  refine lv_if_ne (tgt := 11) hx hb dX11_worst_6 (by decide) (fun c_6 => ?_) (fun c_6 => ?_)
  · replace h := if_e c_6 h
    refine lv_aload_n hx hb dX11_worst_11 rfl (lv_at hl 0 rfl) ?_
    refine lv_iconst (v := (-1)) hx hb dX11_worst_12 ic_m1 ?_
    obtain ⟨z_13, hc_13, h⟩ := bd_e h
    refine q_vV (As := [.int (-1)]) (rest := []) (wF := [(a_o, .inr (10, [.long o_trace, w_o_text, .int o_typed, .int o_choices, .int o_worlds, .ref a_values, .int o_at, .int o_start, .int o_sort, .int o_value, .int o_fault, w_o_draft, w_o_sayings, w_o_leaves, w_o_signs, .ref a_words, .ref a_word, w_o_isKept, w_o_some, w_o_every, .int o_deep, .int o_many, .ref a_length, .ref a_found, .int z_13.1])), (a_values, .inl (cI, 3, .inl f_values)), (a_words, .inl (cI, 3, .inl f_words)), (a_word, .inl (cI, 9, .inl f_word)), (a_length, .inl (cI, 512, .inl z_13.2.1)), (a_found, .inl (cI, 512, .inl z_13.2.2))]) hF hA hZ hK hP hD hS (c_X11_findAll l D cI cB cZ a_o o_trace w_o_text o_typed o_choices o_worlds o_at o_start o_sort o_value o_fault w_o_draft w_o_sayings w_o_leaves w_o_signs w_o_isKept w_o_some w_o_every o_deep o_many o_foundMany a_values f_values a_words f_words a_word f_word a_length f_length a_found f_found (-1) z_13 hc_13) rfl gX11_worst_X11_findAll hdX11_findAll ⟨rfl, rfl⟩ (Nat.le_of_ble_eq_true rfl) (Nat.le_of_ble_eq_true rfl) 10 0 rfl rfl [0, 1, 2, 3, 4, 5] [] rfl rfl rfl rfl (by decide) rfl hl.1 rfl (Nat.le_of_ble_eq_true rfl) (Nat.zero_le _) (Nat.zero_le _) dX11_worst_13 (fun H locs hP hD hS => ?_)
    refine lv_bipush (v := (-9)) hx hb dX11_worst_16 bc_m9 ?_
    refine lv_istore_n (lv' := [(2, .int (-9)), (0, .ref a_o), (1, .int p1)]) hx hb dX11_worst_18 rfl hl (by decide) rfl (fun ls hl => ?_)
    refine lv_bipush (v := (-9)) hx hb dX11_worst_19 bc_m9 ?_
    refine lv_istore_n (lv' := [(3, .int (-9)), (2, .int (-9)), (0, .ref a_o), (1, .int p1)]) hx hb dX11_worst_21 rfl hl (by decide) rfl (fun ls hl => ?_)
    refine lv_iconst (v := 0) hx hb dX11_worst_22 ic_0 ?_
    refine lv_istore (lv' := [(4, .int 0), (3, .int (-9)), (2, .int (-9)), (0, .ref a_o), (1, .int p1)]) hx hb dX11_worst_23 hl (by decide) rfl (fun ls hl => ?_)
    obtain ⟨k114, hk114, h⟩ := jn_e h
    have Jk114 : ∀ (x114_l2 : Int32) (x114_l3 : Int32) (H : Heap) (locs : List Loc) (ls : Array Slot), k114 x114_l2 x114_l3 = some z → va_P D vwCl [(a_o, .inr (10, [.long o_trace, w_o_text, .int o_typed, .int o_choices, .int o_worlds, .ref a_values, .int o_at, .int o_start, .int o_sort, .int o_value, .int o_fault, w_o_draft, w_o_sayings, w_o_leaves, w_o_signs, .ref a_words, .ref a_word, w_o_isKept, w_o_some, w_o_every, .int o_deep, .int o_many, .ref a_length, .ref a_found, .int z_13.1])), (a_values, .inl (cI, 3, .inl f_values)), (a_words, .inl (cI, 3, .inl f_words)), (a_word, .inl (cI, 9, .inl f_word)), (a_length, .inl (cI, 512, .inl z_13.2.1)), (a_found, .inl (cI, 512, .inl z_13.2.2))] H → va_D A [(a_o, .inr (10, [.long o_trace, w_o_text, .int o_typed, .int o_choices, .int o_worlds, .ref a_values, .int o_at, .int o_start, .int o_sort, .int o_value, .int o_fault, w_o_draft, w_o_sayings, w_o_leaves, w_o_signs, .ref a_words, .ref a_word, w_o_isKept, w_o_some, w_o_every, .int o_deep, .int o_many, .ref a_length, .ref a_found, .int z_13.1])), (a_values, .inl (cI, 3, .inl f_values)), (a_words, .inl (cI, 3, .inl f_words)), (a_word, .inl (cI, 9, .inl f_word)), (a_length, .inl (cI, 512, .inl z_13.2.1)), (a_found, .inl (cI, 512, .inl z_13.2.2))] → va_S A s.heap H locs → lv_has ls 7 [(1, .int p1), (2, .int x114_l2), (3, .int x114_l3)] → W p l e rmX11_worst s m args below meth c H locs 0 0 Q (F0 m 114 ls []) := by
      intro x114_l2 x114_l3 H locs ls h hP hD hS hl
      rw [hk114] at h
      refine lv_iload_n hx hb dX11_worst_114 rfl (lv_at hl 0 rfl) ?_
      refine lv_if_ne (tgt := 122) hx hb dX11_worst_115 (by decide) (fun c_115 => ?_) (fun c_115 => ?_)
      · replace h := if_e c_115 h
        refine lv_iload_n hx hb dX11_worst_122 rfl (lv_at hl 2 rfl) ?_
        have hz := Option.some.inj h
        subst hz
        exact hret H locs 123 ls (fun ty h => by cases h; rfl) hP hD hS dX11_worst_123
      · replace h := it_e c_115 h
        refine lv_iload_n hx hb dX11_worst_118 rfl (lv_at hl 1 rfl) ?_
        refine lv_goto (tgt := 123) hx hb dX11_worst_119 (by decide) ?_
        have hz := Option.some.inj h
        subst hz
        exact hret H locs 123 ls (fun ty h => by cases h; rfl) hP hD hS dX11_worst_123
    have L25 : ∀ (n : Nat), ∀ (x25_l2 : Int32) (x25_l3 : Int32) (x25_l4 : Int32) (H : Heap) (locs : List Loc) (ls : Array Slot), P_X11_worst_25 o_choices o_worlds f_values z_13 k114 n x25_l2 x25_l3 x25_l4 = some z → va_P D vwCl [(a_o, .inr (10, [.long o_trace, w_o_text, .int o_typed, .int o_choices, .int o_worlds, .ref a_values, .int o_at, .int o_start, .int o_sort, .int o_value, .int o_fault, w_o_draft, w_o_sayings, w_o_leaves, w_o_signs, .ref a_words, .ref a_word, w_o_isKept, w_o_some, w_o_every, .int o_deep, .int o_many, .ref a_length, .ref a_found, .int z_13.1])), (a_values, .inl (cI, 3, .inl f_values)), (a_words, .inl (cI, 3, .inl f_words)), (a_word, .inl (cI, 9, .inl f_word)), (a_length, .inl (cI, 512, .inl z_13.2.1)), (a_found, .inl (cI, 512, .inl z_13.2.2))] H → va_D A [(a_o, .inr (10, [.long o_trace, w_o_text, .int o_typed, .int o_choices, .int o_worlds, .ref a_values, .int o_at, .int o_start, .int o_sort, .int o_value, .int o_fault, w_o_draft, w_o_sayings, w_o_leaves, w_o_signs, .ref a_words, .ref a_word, w_o_isKept, w_o_some, w_o_every, .int o_deep, .int o_many, .ref a_length, .ref a_found, .int z_13.1])), (a_values, .inl (cI, 3, .inl f_values)), (a_words, .inl (cI, 3, .inl f_words)), (a_word, .inl (cI, 9, .inl f_word)), (a_length, .inl (cI, 512, .inl z_13.2.1)), (a_found, .inl (cI, 512, .inl z_13.2.2))] → va_S A s.heap H locs → lv_has ls 7 [(0, .ref a_o), (1, .int p1), (2, .int x25_l2), (3, .int x25_l3), (4, .int x25_l4)] → W p l e rmX11_worst s m args below meth c H locs 0 0 Q (F0 m 25 ls []) := by
      intro n
      induction n with
      | zero =>
        intro x25_l2 x25_l3 x25_l4 H locs ls h
        exact no_e h
      | succ n ih25 =>
        intro x25_l2 x25_l3 x25_l4 H locs ls h hP hD hS hl
        rw [P_X11_worst_25] at h
        refine lv_iload hx hb dX11_worst_25 (lv_at hl 4 rfl) ?_
        refine lv_aload_n hx hb dX11_worst_27 rfl (lv_at hl 0 rfl) ?_
        refine va_get (D := D) (ci := 10) (v := .int o_choices) (C := RX11) (T := TX11) (N := 25) hx hb hts u_X11 hown hK hP 0 rfl rfl 3 (by decide) k_f0 (fun _ h9 => h9) rfl dX11_worst_28 ?_
        refine lv_icmp_ge (tgt := 114) hx hb dX11_worst_31 (by decide) (fun c_31 => ?_) (fun c_31 => ?_)
        · replace h := it_e c_31 h
          exact Jk114 x25_l2 x25_l3 H locs ls h hP hD hS (lv_sub hl [1, 2, 3] rfl)
        · replace h := if_e c_31 h
          refine lv_iconst (v := 0) hx hb dX11_worst_34 ic_0 ?_
          refine lv_istore (lv' := [(5, .int 0), (0, .ref a_o), (1, .int p1), (2, .int x25_l2), (3, .int x25_l3), (4, .int x25_l4)]) hx hb dX11_worst_35 hl (by decide) rfl (fun ls hl => ?_)
          obtain ⟨k108, hk108, h⟩ := jn_e h
          have Jk108 : ∀ (x108_l2 : Int32) (x108_l3 : Int32) (H : Heap) (locs : List Loc) (ls : Array Slot), k108 x108_l2 x108_l3 = some z → va_P D vwCl [(a_o, .inr (10, [.long o_trace, w_o_text, .int o_typed, .int o_choices, .int o_worlds, .ref a_values, .int o_at, .int o_start, .int o_sort, .int o_value, .int o_fault, w_o_draft, w_o_sayings, w_o_leaves, w_o_signs, .ref a_words, .ref a_word, w_o_isKept, w_o_some, w_o_every, .int o_deep, .int o_many, .ref a_length, .ref a_found, .int z_13.1])), (a_values, .inl (cI, 3, .inl f_values)), (a_words, .inl (cI, 3, .inl f_words)), (a_word, .inl (cI, 9, .inl f_word)), (a_length, .inl (cI, 512, .inl z_13.2.1)), (a_found, .inl (cI, 512, .inl z_13.2.2))] H → va_D A [(a_o, .inr (10, [.long o_trace, w_o_text, .int o_typed, .int o_choices, .int o_worlds, .ref a_values, .int o_at, .int o_start, .int o_sort, .int o_value, .int o_fault, w_o_draft, w_o_sayings, w_o_leaves, w_o_signs, .ref a_words, .ref a_word, w_o_isKept, w_o_some, w_o_every, .int o_deep, .int o_many, .ref a_length, .ref a_found, .int z_13.1])), (a_values, .inl (cI, 3, .inl f_values)), (a_words, .inl (cI, 3, .inl f_words)), (a_word, .inl (cI, 9, .inl f_word)), (a_length, .inl (cI, 512, .inl z_13.2.1)), (a_found, .inl (cI, 512, .inl z_13.2.2))] → va_S A s.heap H locs → lv_has ls 7 [(0, .ref a_o), (1, .int p1), (2, .int x108_l2), (3, .int x108_l3), (4, .int x25_l4)] → W p l e rmX11_worst s m args below meth c H locs 0 0 Q (F0 m 108 ls []) := by
            intro x108_l2 x108_l3 H locs ls h hP hD hS hl
            rw [hk108] at h
            refine lv_iinc (v := x25_l4 + 1) (lv' := [(4, .int (x25_l4 + 1)), (0, .ref a_o), (1, .int p1), (2, .int x108_l2), (3, .int x108_l3)]) hx hb dX11_worst_108 hl (k := 4) rfl (congrArg (x25_l4 + ·) ic_1) (by decide) rfl (fun ls hl => ?_)
            refine lv_goto (tgt := 25) hx hb dX11_worst_111 (by decide) ?_
            exact ih25 x108_l2 x108_l3 (x25_l4 + 1) H locs ls h hP hD hS (lv_sub hl [1, 2, 3, 4, 0] rfl)
          have L37 : ∀ (n : Nat), ∀ (x37_l2 : Int32) (x37_l3 : Int32) (x37_l5 : Int32) (H : Heap) (locs : List Loc) (ls : Array Slot), P_X11_worst_37 o_worlds f_values z_13 x25_l4 k108 n x37_l2 x37_l3 x37_l5 = some z → va_P D vwCl [(a_o, .inr (10, [.long o_trace, w_o_text, .int o_typed, .int o_choices, .int o_worlds, .ref a_values, .int o_at, .int o_start, .int o_sort, .int o_value, .int o_fault, w_o_draft, w_o_sayings, w_o_leaves, w_o_signs, .ref a_words, .ref a_word, w_o_isKept, w_o_some, w_o_every, .int o_deep, .int o_many, .ref a_length, .ref a_found, .int z_13.1])), (a_values, .inl (cI, 3, .inl f_values)), (a_words, .inl (cI, 3, .inl f_words)), (a_word, .inl (cI, 9, .inl f_word)), (a_length, .inl (cI, 512, .inl z_13.2.1)), (a_found, .inl (cI, 512, .inl z_13.2.2))] H → va_D A [(a_o, .inr (10, [.long o_trace, w_o_text, .int o_typed, .int o_choices, .int o_worlds, .ref a_values, .int o_at, .int o_start, .int o_sort, .int o_value, .int o_fault, w_o_draft, w_o_sayings, w_o_leaves, w_o_signs, .ref a_words, .ref a_word, w_o_isKept, w_o_some, w_o_every, .int o_deep, .int o_many, .ref a_length, .ref a_found, .int z_13.1])), (a_values, .inl (cI, 3, .inl f_values)), (a_words, .inl (cI, 3, .inl f_words)), (a_word, .inl (cI, 9, .inl f_word)), (a_length, .inl (cI, 512, .inl z_13.2.1)), (a_found, .inl (cI, 512, .inl z_13.2.2))] → va_S A s.heap H locs → lv_has ls 7 [(0, .ref a_o), (1, .int p1), (2, .int x37_l2), (3, .int x37_l3), (4, .int x25_l4), (5, .int x37_l5)] → W p l e rmX11_worst s m args below meth c H locs 0 0 Q (F0 m 37 ls []) := by
            intro n
            induction n with
            | zero =>
              intro x37_l2 x37_l3 x37_l5 H locs ls h
              exact no_e h
            | succ n ih37 =>
              intro x37_l2 x37_l3 x37_l5 H locs ls h hP hD hS hl
              rw [P_X11_worst_37] at h
              refine lv_iload hx hb dX11_worst_37 (lv_at hl 5 rfl) ?_
              refine lv_aload_n hx hb dX11_worst_39 rfl (lv_at hl 0 rfl) ?_
              refine va_get (D := D) (ci := 10) (v := .ref a_values) (C := RX11) (T := TX11) (N := 25) hx hb hts u_X11 hown hK hP 0 rfl rfl 5 (by decide) k_f1 (fun _ h9 => h9) rfl dX11_worst_40 ?_
              refine lv_iload hx hb dX11_worst_43 (lv_at hl 4 rfl) ?_
              obtain ⟨hi_45, h⟩ := ck_e h
              refine va_iald hx hb hK hP 1 0 rfl rfl hi_45 dX11_worst_45 ?_
              refine lv_icmp_ge (tgt := 108) hx hb dX11_worst_46 (by decide) (fun c_46 => ?_) (fun c_46 => ?_)
              · replace h := it_e c_46 h
                exact Jk108 x37_l2 x37_l3 H locs ls h hP hD hS (lv_sub hl [0, 1, 2, 3, 4] rfl)
              · replace h := if_e c_46 h
                refine lv_aload_n hx hb dX11_worst_49 rfl (lv_at hl 0 rfl) ?_
                refine lv_aload_n hx hb dX11_worst_50 rfl (lv_at hl 0 rfl) ?_
                obtain ⟨z_51, hc_51, h⟩ := bd_e h
                refine q_iV (As := []) (rest := [.ref a_o]) (wF := [(a_values, .inl (cI, 3, .inl f_values)), (a_words, .inl (cI, 3, .inl f_words)), (a_word, .inl (cI, 9, .inl f_word)), (a_length, .inl (cI, 512, .inl z_13.2.1)), (a_found, .inl (cI, 512, .inl z_13.2.2)), (a_o, .inr (10, [.long o_trace, w_o_text, .int o_typed, .int o_choices, .int o_worlds, .ref a_values, .int o_at, .int o_start, .int o_sort, .int o_value, .int o_fault, w_o_draft, w_o_sayings, w_o_leaves, w_o_signs, .ref a_words, .ref a_word, w_o_isKept, w_o_some, w_o_every, .int o_deep, .int o_many, .ref a_length, .ref a_found, .int z_13.1]))]) hF hA hZ hK hP hD hS (c_X11_allSets l D cI cB cZ a_o o_trace w_o_text o_typed o_choices o_worlds (.ref a_values) o_at o_start o_sort o_value o_fault w_o_draft w_o_sayings w_o_leaves w_o_signs (.ref a_words) (.ref a_word) w_o_isKept w_o_some w_o_every o_deep o_many (.ref a_length) (.ref a_found) z_13.1 z_51 hc_51) rfl gX11_worst_X11_allSets hdX11_allSets ⟨rfl, rfl⟩ (Nat.le_of_ble_eq_true rfl) (Nat.le_of_ble_eq_true rfl) 10 0 rfl rfl [0] [1, 2, 3, 4, 5] rfl rfl rfl rfl (by decide) rfl hl.1 rfl (Nat.le_of_ble_eq_true rfl) (Nat.zero_le _) (Nat.zero_le _) dX11_worst_51 (fun H locs hP hD hS => ?_)
                refine lv_aload_n hx hb dX11_worst_54 rfl (lv_at hl 0 rfl) ?_
                refine lv_iload hx hb dX11_worst_55 (lv_at hl 4 rfl) ?_
                refine lv_iload hx hb dX11_worst_57 (lv_at hl 5 rfl) ?_
                obtain ⟨z_59, hc_59, h⟩ := bd_e h
                refine q_iV (As := [.int x25_l4, .int x37_l5]) (rest := [.int z_51, .ref a_o]) (wF := [(a_words, .inl (cI, 3, .inl f_words)), (a_word, .inl (cI, 9, .inl f_word)), (a_length, .inl (cI, 512, .inl z_13.2.1)), (a_found, .inl (cI, 512, .inl z_13.2.2)), (a_o, .inr (10, [.long o_trace, w_o_text, .int o_typed, .int o_choices, .int o_worlds, .ref a_values, .int o_at, .int o_start, .int o_sort, .int o_value, .int o_fault, w_o_draft, w_o_sayings, w_o_leaves, w_o_signs, .ref a_words, .ref a_word, w_o_isKept, w_o_some, w_o_every, .int o_deep, .int o_many, .ref a_length, .ref a_found, .int z_13.1])), (a_values, .inl (cI, 3, .inl f_values))]) hF hA hZ hK hP hD hS (c_X11_worldsOf l D cI cB cZ a_o o_trace w_o_text o_typed o_choices o_worlds o_at o_start o_sort o_value o_fault w_o_draft w_o_sayings w_o_leaves w_o_signs (.ref a_words) (.ref a_word) w_o_isKept w_o_some w_o_every o_deep o_many (.ref a_length) (.ref a_found) z_13.1 a_values f_values x25_l4 x37_l5 z_59 hc_59) rfl gX11_worst_X11_worldsOf hdX11_worldsOf ⟨rfl, rfl⟩ (Nat.le_of_ble_eq_true rfl) (Nat.le_of_ble_eq_true rfl) 10 0 rfl rfl [5, 0] [1, 2, 3, 4] rfl rfl rfl rfl (by decide) rfl hl.1 rfl (Nat.le_of_ble_eq_true rfl) (Nat.zero_le _) (Nat.zero_le _) dX11_worst_59 (fun H locs hP hD hS => ?_)
                refine lv_iconst (v := (-1)) hx hb dX11_worst_62 ic_m1 ?_
                refine lv_ixor hx hb dX11_worst_63 ?_
                refine lv_iand hx hb dX11_worst_64 ?_
                obtain ⟨z_65, hc_65, h⟩ := bd_e h
                refine q_iV (As := [.int (z_51 &&& (z_59 ^^^ (-1)))]) (rest := []) (wF := [(a_words, .inl (cI, 3, .inl f_words)), (a_word, .inl (cI, 9, .inl f_word)), (a_found, .inl (cI, 512, .inl z_13.2.2)), (a_values, .inl (cI, 3, .inl f_values)), (a_o, .inr (10, [.long o_trace, w_o_text, .int o_typed, .int o_choices, .int o_worlds, .ref a_values, .int o_at, .int o_start, .int o_sort, .int o_value, .int o_fault, w_o_draft, w_o_sayings, w_o_leaves, w_o_signs, .ref a_words, .ref a_word, w_o_isKept, w_o_some, w_o_every, .int o_deep, .int o_many, .ref a_length, .ref a_found, .int z_13.1])), (a_length, .inl (cI, 512, .inl z_13.2.1))]) hF hA hZ hK hP hD hS (c_X11_lengthOf l D cI cB cZ a_o o_trace w_o_text o_typed o_choices o_worlds (.ref a_values) o_at o_start o_sort o_value o_fault w_o_draft w_o_sayings w_o_leaves w_o_signs (.ref a_words) (.ref a_word) w_o_isKept w_o_some w_o_every o_deep o_many (.ref a_found) z_13.1 a_length z_13.2.1 (z_51 &&& (z_59 ^^^ (-1))) z_65 hc_65) rfl gX11_worst_X11_lengthOf hdX11_lengthOf ⟨rfl, rfl⟩ (Nat.le_of_ble_eq_true rfl) (Nat.le_of_ble_eq_true rfl) 10 0 rfl rfl [4, 2] [0, 1, 3, 5] rfl rfl rfl rfl (by decide) rfl hl.1 rfl (Nat.le_of_ble_eq_true rfl) (Nat.zero_le _) (Nat.zero_le _) dX11_worst_65 (fun H locs hP hD hS => ?_)
                refine lv_istore (lv' := [(6, .int z_65), (0, .ref a_o), (1, .int p1), (2, .int x37_l2), (3, .int x37_l3), (4, .int x25_l4), (5, .int x37_l5)]) hx hb dX11_worst_68 hl (by decide) rfl (fun ls hl => ?_)
                refine lv_iload hx hb dX11_worst_70 (lv_at hl 0 rfl) ?_
                refine lv_iload_n hx hb dX11_worst_72 rfl (lv_at hl 4 rfl) ?_
                obtain ⟨j88, hj88, h⟩ := jn_e h
                have Jj88 : ∀ (x88_s0 : Int32) (H : Heap) (locs : List Loc) (ls : Array Slot), j88 x88_s0 = some z → va_P D vwCl [(a_words, .inl (cI, 3, .inl f_words)), (a_word, .inl (cI, 9, .inl f_word)), (a_found, .inl (cI, 512, .inl z_13.2.2)), (a_values, .inl (cI, 3, .inl f_values)), (a_o, .inr (10, [.long o_trace, w_o_text, .int o_typed, .int o_choices, .int o_worlds, .ref a_values, .int o_at, .int o_start, .int o_sort, .int o_value, .int o_fault, w_o_draft, w_o_sayings, w_o_leaves, w_o_signs, .ref a_words, .ref a_word, w_o_isKept, w_o_some, w_o_every, .int o_deep, .int o_many, .ref a_length, .ref a_found, .int z_13.1])), (a_length, .inl (cI, 512, .inl z_13.2.1))] H → va_D A [(a_words, .inl (cI, 3, .inl f_words)), (a_word, .inl (cI, 9, .inl f_word)), (a_found, .inl (cI, 512, .inl z_13.2.2)), (a_values, .inl (cI, 3, .inl f_values)), (a_o, .inr (10, [.long o_trace, w_o_text, .int o_typed, .int o_choices, .int o_worlds, .ref a_values, .int o_at, .int o_start, .int o_sort, .int o_value, .int o_fault, w_o_draft, w_o_sayings, w_o_leaves, w_o_signs, .ref a_words, .ref a_word, w_o_isKept, w_o_some, w_o_every, .int o_deep, .int o_many, .ref a_length, .ref a_found, .int z_13.1])), (a_length, .inl (cI, 512, .inl z_13.2.1))] → va_S A s.heap H locs → lv_has ls 7 [(0, .ref a_o), (1, .int p1), (3, .int x37_l3), (4, .int x25_l4), (5, .int x37_l5), (6, .int z_65)] → W p l e rmX11_worst s m args below meth c H locs 0 0 Q (F0 m 88 ls [.int x88_s0]) := by
                  intro x88_s0 H locs ls h hP hD hS hl
                  rw [hj88] at h
                  refine lv_istore_n (lv' := [(2, .int x88_s0), (0, .ref a_o), (1, .int p1), (3, .int x37_l3), (4, .int x25_l4), (5, .int x37_l5), (6, .int z_65)]) hx hb dX11_worst_88 rfl hl (by decide) rfl (fun ls hl => ?_)
                  refine lv_iload hx hb dX11_worst_89 (lv_at hl 6 rfl) ?_
                  refine lv_iload_n hx hb dX11_worst_91 rfl (lv_at hl 3 rfl) ?_
                  obtain ⟨j101, hj101, h⟩ := jn_e h
                  have Jj101 : ∀ (x101_s0 : Int32) (H : Heap) (locs : List Loc) (ls : Array Slot), j101 x101_s0 = some z → va_P D vwCl [(a_words, .inl (cI, 3, .inl f_words)), (a_word, .inl (cI, 9, .inl f_word)), (a_found, .inl (cI, 512, .inl z_13.2.2)), (a_values, .inl (cI, 3, .inl f_values)), (a_o, .inr (10, [.long o_trace, w_o_text, .int o_typed, .int o_choices, .int o_worlds, .ref a_values, .int o_at, .int o_start, .int o_sort, .int o_value, .int o_fault, w_o_draft, w_o_sayings, w_o_leaves, w_o_signs, .ref a_words, .ref a_word, w_o_isKept, w_o_some, w_o_every, .int o_deep, .int o_many, .ref a_length, .ref a_found, .int z_13.1])), (a_length, .inl (cI, 512, .inl z_13.2.1))] H → va_D A [(a_words, .inl (cI, 3, .inl f_words)), (a_word, .inl (cI, 9, .inl f_word)), (a_found, .inl (cI, 512, .inl z_13.2.2)), (a_values, .inl (cI, 3, .inl f_values)), (a_o, .inr (10, [.long o_trace, w_o_text, .int o_typed, .int o_choices, .int o_worlds, .ref a_values, .int o_at, .int o_start, .int o_sort, .int o_value, .int o_fault, w_o_draft, w_o_sayings, w_o_leaves, w_o_signs, .ref a_words, .ref a_word, w_o_isKept, w_o_some, w_o_every, .int o_deep, .int o_many, .ref a_length, .ref a_found, .int z_13.1])), (a_length, .inl (cI, 512, .inl z_13.2.1))] → va_S A s.heap H locs → lv_has ls 7 [(0, .ref a_o), (1, .int p1), (2, .int x88_s0), (4, .int x25_l4), (5, .int x37_l5)] → W p l e rmX11_worst s m args below meth c H locs 0 0 Q (F0 m 101 ls [.int x101_s0]) := by
                    intro x101_s0 H locs ls h hP hD hS hl
                    rw [hj101] at h
                    refine lv_istore_n (lv' := [(3, .int x101_s0), (0, .ref a_o), (1, .int p1), (2, .int x88_s0), (4, .int x25_l4), (5, .int x37_l5)]) hx hb dX11_worst_101 rfl hl (by decide) rfl (fun ls hl => ?_)
                    refine lv_iinc (v := x37_l5 + 1) (lv' := [(5, .int (x37_l5 + 1)), (3, .int x101_s0), (0, .ref a_o), (1, .int p1), (2, .int x88_s0), (4, .int x25_l4)]) hx hb dX11_worst_102 hl (k := 5) rfl (congrArg (x37_l5 + ·) ic_1) (by decide) rfl (fun ls hl => ?_)
                    refine lv_goto (tgt := 37) hx hb dX11_worst_105 (by decide) ?_
                    exact ih37 x88_s0 x101_s0 (x37_l5 + 1) H locs ls h (hP.sub [4, 3, 0, 1, 5, 2] rfl) (hD.sub [4, 3, 0, 1, 5, 2] (by decide) rfl) hS (lv_sub hl [2, 3, 4, 1, 5, 0] rfl)
                  refine lv_icmp_le (tgt := 100) hx hb dX11_worst_92 (by decide) (fun c_92 => ?_) (fun c_92 => ?_)
                  · replace h := it_e c_92 h
                    refine lv_iload_n hx hb dX11_worst_100 rfl (lv_at hl 3 rfl) ?_
                    exact Jj101 x37_l3 H locs ls h hP hD hS (lv_sub hl [1, 2, 0, 4, 5] rfl)
                  · replace h := if_e c_92 h
                    refine lv_iload hx hb dX11_worst_95 (lv_at hl 6 rfl) ?_
                    refine lv_goto (tgt := 101) hx hb dX11_worst_97 (by decide) ?_
                    exact Jj101 z_65 H locs ls h hP hD hS (lv_sub hl [1, 2, 0, 4, 5] rfl)
                refine lv_icmp_le (tgt := 87) hx hb dX11_worst_73 (by decide) (fun c_73 => ?_) (fun c_73 => ?_)
                · replace h := it_e c_73 h
                  refine lv_iload_n hx hb dX11_worst_87 rfl (lv_at hl 3 rfl) ?_
                  exact Jj88 x37_l2 H locs ls h hP hD hS (lv_sub hl [1, 2, 4, 5, 6, 0] rfl)
                · replace h := if_e c_73 h
                  refine lv_bipush (v := 10) hx hb dX11_worst_76 bc_10 ?_
                  refine lv_iload hx hb dX11_worst_78 (lv_at hl 5 rfl) ?_
                  refine lv_imul hx hb dX11_worst_80 ?_
                  refine lv_iload hx hb dX11_worst_81 (lv_at hl 6 rfl) ?_
                  refine lv_iadd hx hb dX11_worst_83 ?_
                  refine lv_goto (tgt := 88) hx hb dX11_worst_84 (by decide) ?_
                  exact Jj88 ((10 * x25_l4) + x37_l5) H locs ls h hP hD hS (lv_sub hl [1, 2, 4, 5, 6, 0] rfl)
          exact L37 QF x25_l2 x25_l3 0 H locs ls h hP hD hS (lv_sub hl [1, 2, 3, 4, 5, 0] rfl)
    exact L25 QF (-9) (-9) 0 H locs ls h hP hD hS (lv_sub hl [3, 4, 2, 1, 0] rfl)
  · replace h := it_e c_6 h
    refine lv_iconst (v := (-1)) hx hb dX11_worst_9 ic_m1 ?_
    have hz := Option.some.inj h
    subst hz
    exact hret H locs 10 ls (fun ty h => by cases h; rfl) hP hD hS dX11_worst_10
abbrev rmX11_allRefusals : Room := { frames := 2, cells := 0, slots := 0, locals := 48 }
theorem hdX11_allRefusals : yX11_allRefusals.cls = RX11 ∧ yX11_allRefusals.cls ≠ "java/lang/invoke/MethodHandle" ∧ yX11_allRefusals.cls ≠ "java/lang/invoke/VarHandle" ∧ (parseMethodDescriptor yX11_allRefusals.desc).map (fun d => d.parameters.length) = some 0 := by decide +kernel
set_option maxRecDepth 100000 in
set_option maxHeartbeats 4000000 in
theorem c_X11_allRefusals (l : Launch) (D : va_G) (cI cB cZ : ClassId) (a_o : Nat) (o_trace : Int64) (w_o_text : Value) (o_typed : Int32) (o_choices : Int32) (o_worlds : Int32) (o_at : Int32) (o_start : Int32) (o_sort : Int32) (o_value : Int32) (o_fault : Int32) (w_o_draft : Value) (w_o_sayings : Value) (w_o_leaves : Value) (w_o_signs : Value) (w_o_words : Value) (w_o_word : Value) (w_o_isKept : Value) (w_o_some : Value) (w_o_every : Value) (o_deep : Int32) (o_many : Int32) (w_o_found : Value) (o_foundMany : Int32) (a_values : Nat) (f_values : Nat → Int32) (a_length : Nat) (f_length : Nat → Int32) (z : Int32) (h : P_X11_allRefusals o_choices o_worlds f_values f_length = some z) : KI l yX11_allRefusals wsX11_allRefusals rmX11_allRefusals D [(cI, .int), (cB, .byte), (cZ, .boolean)] [.ref a_o] [(a_o, .inr (10, [.long o_trace, w_o_text, .int o_typed, .int o_choices, .int o_worlds, .ref a_values, .int o_at, .int o_start, .int o_sort, .int o_value, .int o_fault, w_o_draft, w_o_sayings, w_o_leaves, w_o_signs, w_o_words, w_o_word, w_o_isKept, w_o_some, w_o_every, .int o_deep, .int o_many, .ref a_length, w_o_found, .int o_foundMany])), (a_values, .inl (cI, 3, .inl f_values)), (a_length, .inl (cI, 512, .inl f_length))] [(a_o, .inr (10, [.long o_trace, w_o_text, .int o_typed, .int o_choices, .int o_worlds, .ref a_values, .int o_at, .int o_start, .int o_sort, .int o_value, .int o_fault, w_o_draft, w_o_sayings, w_o_leaves, w_o_signs, w_o_words, w_o_word, w_o_isKept, w_o_some, w_o_every, .int o_deep, .int o_many, .ref a_length, w_o_found, .int o_foundMany])), (a_values, .inl (cI, 3, .inl f_values)), (a_length, .inl (cI, 512, .inl f_length))] z := by
  refine KI_of (own := RX11) (cc := cX11_allRefusals) (maxL := 4) (ret := some .int) (by decide) rfl rfl (Nat.le_of_ble_eq_true rfl) (Or.inl rfl) ?_
  intro p e s m args below meth c A Q hx hb hml hown hts hA hZ hK hret H locs ls hP hD hS hl
  have hl : lv_has ls 4 [(0, .ref a_o)] := hl
  have hF : CallFix p m c cX11_allRefusals 4 s args wsX11_allRefusals RX11 := ⟨hx, hb, hml, hown, hts⟩
  have u_X11 : ∀ w ∈ u_ws RX11 TX11 25, w ∈ wsX11_allRefusals := by decide +kernel
  have k_f0 := hts (.fieldLink RX11 95 "NoWordNoModel" "choices" "I") (by decide +kernel)
  have k_f1 := hts (.fieldLink RX11 13 "NoWordNoModel" "values" "[I") (by decide +kernel)
  unfold P_X11_allRefusals at h
  refine lv_iconst (v := 0) hx hb dX11_allRefusals_0 ic_0 ?_
  refine lv_istore_n (lv' := [(1, .int 0), (0, .ref a_o)]) hx hb dX11_allRefusals_1 rfl hl (by decide) rfl (fun ls hl => ?_)
  refine lv_iconst (v := 0) hx hb dX11_allRefusals_2 ic_0 ?_
  refine lv_istore_n (lv' := [(2, .int 0), (1, .int 0), (0, .ref a_o)]) hx hb dX11_allRefusals_3 rfl hl (by decide) rfl (fun ls hl => ?_)
  have L4 : ∀ (n : Nat), ∀ (x4_l1 : Int32) (x4_l2 : Int32) (H : Heap) (locs : List Loc) (ls : Array Slot), P_X11_allRefusals_4 o_choices o_worlds f_values f_length n x4_l1 x4_l2 = some z → va_P D vwCl [(a_o, .inr (10, [.long o_trace, w_o_text, .int o_typed, .int o_choices, .int o_worlds, .ref a_values, .int o_at, .int o_start, .int o_sort, .int o_value, .int o_fault, w_o_draft, w_o_sayings, w_o_leaves, w_o_signs, w_o_words, w_o_word, w_o_isKept, w_o_some, w_o_every, .int o_deep, .int o_many, .ref a_length, w_o_found, .int o_foundMany])), (a_values, .inl (cI, 3, .inl f_values)), (a_length, .inl (cI, 512, .inl f_length))] H → va_D A [(a_o, .inr (10, [.long o_trace, w_o_text, .int o_typed, .int o_choices, .int o_worlds, .ref a_values, .int o_at, .int o_start, .int o_sort, .int o_value, .int o_fault, w_o_draft, w_o_sayings, w_o_leaves, w_o_signs, w_o_words, w_o_word, w_o_isKept, w_o_some, w_o_every, .int o_deep, .int o_many, .ref a_length, w_o_found, .int o_foundMany])), (a_values, .inl (cI, 3, .inl f_values)), (a_length, .inl (cI, 512, .inl f_length))] → va_S A s.heap H locs → lv_has ls 4 [(0, .ref a_o), (1, .int x4_l1), (2, .int x4_l2)] → W p l e rmX11_allRefusals s m args below meth c H locs 0 0 Q (F0 m 4 ls []) := by
    intro n
    induction n with
    | zero =>
      intro x4_l1 x4_l2 H locs ls h
      exact no_e h
    | succ n ih4 =>
      intro x4_l1 x4_l2 H locs ls h hP hD hS hl
      rw [P_X11_allRefusals_4] at h
      refine lv_iload_n hx hb dX11_allRefusals_4 rfl (lv_at hl 2 rfl) ?_
      refine lv_aload_n hx hb dX11_allRefusals_5 rfl (lv_at hl 0 rfl) ?_
      refine va_get (D := D) (ci := 10) (v := .int o_choices) (C := RX11) (T := TX11) (N := 25) hx hb hts u_X11 hown hK hP 0 rfl rfl 3 (by decide) k_f0 (fun _ h9 => h9) rfl dX11_allRefusals_6 ?_
      refine lv_icmp_ge (tgt := 56) hx hb dX11_allRefusals_9 (by decide) (fun c_9 => ?_) (fun c_9 => ?_)
      · replace h := it_e c_9 h
        refine lv_iload_n hx hb dX11_allRefusals_56 rfl (lv_at hl 1 rfl) ?_
        have hz := Option.some.inj h
        subst hz
        exact hret H locs 57 ls (fun ty h => by cases h; rfl) hP hD hS dX11_allRefusals_57
      · replace h := if_e c_9 h
        refine lv_iconst (v := 0) hx hb dX11_allRefusals_12 ic_0 ?_
        refine lv_istore_n (lv' := [(3, .int 0), (0, .ref a_o), (1, .int x4_l1), (2, .int x4_l2)]) hx hb dX11_allRefusals_13 rfl hl (by decide) rfl (fun ls hl => ?_)
        obtain ⟨k50, hk50, h⟩ := jn_e h
        have Jk50 : ∀ (x50_l1 : Int32) (H : Heap) (locs : List Loc) (ls : Array Slot), k50 x50_l1 = some z → va_P D vwCl [(a_o, .inr (10, [.long o_trace, w_o_text, .int o_typed, .int o_choices, .int o_worlds, .ref a_values, .int o_at, .int o_start, .int o_sort, .int o_value, .int o_fault, w_o_draft, w_o_sayings, w_o_leaves, w_o_signs, w_o_words, w_o_word, w_o_isKept, w_o_some, w_o_every, .int o_deep, .int o_many, .ref a_length, w_o_found, .int o_foundMany])), (a_values, .inl (cI, 3, .inl f_values)), (a_length, .inl (cI, 512, .inl f_length))] H → va_D A [(a_o, .inr (10, [.long o_trace, w_o_text, .int o_typed, .int o_choices, .int o_worlds, .ref a_values, .int o_at, .int o_start, .int o_sort, .int o_value, .int o_fault, w_o_draft, w_o_sayings, w_o_leaves, w_o_signs, w_o_words, w_o_word, w_o_isKept, w_o_some, w_o_every, .int o_deep, .int o_many, .ref a_length, w_o_found, .int o_foundMany])), (a_values, .inl (cI, 3, .inl f_values)), (a_length, .inl (cI, 512, .inl f_length))] → va_S A s.heap H locs → lv_has ls 4 [(0, .ref a_o), (1, .int x50_l1), (2, .int x4_l2)] → W p l e rmX11_allRefusals s m args below meth c H locs 0 0 Q (F0 m 50 ls []) := by
          intro x50_l1 H locs ls h hP hD hS hl
          rw [hk50] at h
          refine lv_iinc (v := x4_l2 + 1) (lv' := [(2, .int (x4_l2 + 1)), (0, .ref a_o), (1, .int x50_l1)]) hx hb dX11_allRefusals_50 hl (k := 2) rfl (congrArg (x4_l2 + ·) ic_1) (by decide) rfl (fun ls hl => ?_)
          refine lv_goto (tgt := 4) hx hb dX11_allRefusals_53 (by decide) ?_
          exact ih4 x50_l1 (x4_l2 + 1) H locs ls h hP hD hS (lv_sub hl [1, 2, 0] rfl)
        have L14 : ∀ (n : Nat), ∀ (x14_l1 : Int32) (x14_l3 : Int32) (H : Heap) (locs : List Loc) (ls : Array Slot), P_X11_allRefusals_14 o_worlds f_values f_length x4_l2 k50 n x14_l1 x14_l3 = some z → va_P D vwCl [(a_o, .inr (10, [.long o_trace, w_o_text, .int o_typed, .int o_choices, .int o_worlds, .ref a_values, .int o_at, .int o_start, .int o_sort, .int o_value, .int o_fault, w_o_draft, w_o_sayings, w_o_leaves, w_o_signs, w_o_words, w_o_word, w_o_isKept, w_o_some, w_o_every, .int o_deep, .int o_many, .ref a_length, w_o_found, .int o_foundMany])), (a_values, .inl (cI, 3, .inl f_values)), (a_length, .inl (cI, 512, .inl f_length))] H → va_D A [(a_o, .inr (10, [.long o_trace, w_o_text, .int o_typed, .int o_choices, .int o_worlds, .ref a_values, .int o_at, .int o_start, .int o_sort, .int o_value, .int o_fault, w_o_draft, w_o_sayings, w_o_leaves, w_o_signs, w_o_words, w_o_word, w_o_isKept, w_o_some, w_o_every, .int o_deep, .int o_many, .ref a_length, w_o_found, .int o_foundMany])), (a_values, .inl (cI, 3, .inl f_values)), (a_length, .inl (cI, 512, .inl f_length))] → va_S A s.heap H locs → lv_has ls 4 [(0, .ref a_o), (1, .int x14_l1), (2, .int x4_l2), (3, .int x14_l3)] → W p l e rmX11_allRefusals s m args below meth c H locs 0 0 Q (F0 m 14 ls []) := by
          intro n
          induction n with
          | zero =>
            intro x14_l1 x14_l3 H locs ls h
            exact no_e h
          | succ n ih14 =>
            intro x14_l1 x14_l3 H locs ls h hP hD hS hl
            rw [P_X11_allRefusals_14] at h
            refine lv_iload_n hx hb dX11_allRefusals_14 rfl (lv_at hl 3 rfl) ?_
            refine lv_aload_n hx hb dX11_allRefusals_15 rfl (lv_at hl 0 rfl) ?_
            refine va_get (D := D) (ci := 10) (v := .ref a_values) (C := RX11) (T := TX11) (N := 25) hx hb hts u_X11 hown hK hP 0 rfl rfl 5 (by decide) k_f1 (fun _ h9 => h9) rfl dX11_allRefusals_16 ?_
            refine lv_iload_n hx hb dX11_allRefusals_19 rfl (lv_at hl 2 rfl) ?_
            obtain ⟨hi_20, h⟩ := ck_e h
            refine va_iald hx hb hK hP 1 0 rfl rfl hi_20 dX11_allRefusals_20 ?_
            refine lv_icmp_ge (tgt := 50) hx hb dX11_allRefusals_21 (by decide) (fun c_21 => ?_) (fun c_21 => ?_)
            · replace h := it_e c_21 h
              exact Jk50 x14_l1 H locs ls h hP hD hS (lv_sub hl [0, 1, 2] rfl)
            · replace h := if_e c_21 h
              refine lv_iload_n hx hb dX11_allRefusals_24 rfl (lv_at hl 1 rfl) ?_
              refine lv_aload_n hx hb dX11_allRefusals_25 rfl (lv_at hl 0 rfl) ?_
              refine lv_aload_n hx hb dX11_allRefusals_26 rfl (lv_at hl 0 rfl) ?_
              obtain ⟨z_27, hc_27, h⟩ := bd_e h
              refine q_iV (As := []) (rest := [.ref a_o, .int x14_l1]) (wF := [(a_values, .inl (cI, 3, .inl f_values)), (a_length, .inl (cI, 512, .inl f_length)), (a_o, .inr (10, [.long o_trace, w_o_text, .int o_typed, .int o_choices, .int o_worlds, .ref a_values, .int o_at, .int o_start, .int o_sort, .int o_value, .int o_fault, w_o_draft, w_o_sayings, w_o_leaves, w_o_signs, w_o_words, w_o_word, w_o_isKept, w_o_some, w_o_every, .int o_deep, .int o_many, .ref a_length, w_o_found, .int o_foundMany]))]) hF hA hZ hK hP hD hS (c_X11_allSets l D cI cB cZ a_o o_trace w_o_text o_typed o_choices o_worlds (.ref a_values) o_at o_start o_sort o_value o_fault w_o_draft w_o_sayings w_o_leaves w_o_signs w_o_words w_o_word w_o_isKept w_o_some w_o_every o_deep o_many (.ref a_length) w_o_found o_foundMany z_27 hc_27) rfl gX11_allRefusals_X11_allSets hdX11_allSets ⟨rfl, rfl⟩ (Nat.le_of_ble_eq_true rfl) (Nat.le_of_ble_eq_true rfl) 10 0 rfl rfl [0] [1, 2] rfl rfl rfl rfl (by decide) rfl hl.1 rfl (Nat.le_of_ble_eq_true rfl) (Nat.zero_le _) (Nat.zero_le _) dX11_allRefusals_27 (fun H locs hP hD hS => ?_)
              refine lv_aload_n hx hb dX11_allRefusals_30 rfl (lv_at hl 0 rfl) ?_
              refine lv_iload_n hx hb dX11_allRefusals_31 rfl (lv_at hl 2 rfl) ?_
              refine lv_iload_n hx hb dX11_allRefusals_32 rfl (lv_at hl 3 rfl) ?_
              obtain ⟨z_33, hc_33, h⟩ := bd_e h
              refine q_iV (As := [.int x4_l2, .int x14_l3]) (rest := [.int z_27, .ref a_o, .int x14_l1]) (wF := [(a_length, .inl (cI, 512, .inl f_length)), (a_o, .inr (10, [.long o_trace, w_o_text, .int o_typed, .int o_choices, .int o_worlds, .ref a_values, .int o_at, .int o_start, .int o_sort, .int o_value, .int o_fault, w_o_draft, w_o_sayings, w_o_leaves, w_o_signs, w_o_words, w_o_word, w_o_isKept, w_o_some, w_o_every, .int o_deep, .int o_many, .ref a_length, w_o_found, .int o_foundMany])), (a_values, .inl (cI, 3, .inl f_values))]) hF hA hZ hK hP hD hS (c_X11_worldsOf l D cI cB cZ a_o o_trace w_o_text o_typed o_choices o_worlds o_at o_start o_sort o_value o_fault w_o_draft w_o_sayings w_o_leaves w_o_signs w_o_words w_o_word w_o_isKept w_o_some w_o_every o_deep o_many (.ref a_length) w_o_found o_foundMany a_values f_values x4_l2 x14_l3 z_33 hc_33) rfl gX11_allRefusals_X11_worldsOf hdX11_worldsOf ⟨rfl, rfl⟩ (Nat.le_of_ble_eq_true rfl) (Nat.le_of_ble_eq_true rfl) 10 0 rfl rfl [2, 0] [1] rfl rfl rfl rfl (by decide) rfl hl.1 rfl (Nat.le_of_ble_eq_true rfl) (Nat.zero_le _) (Nat.zero_le _) dX11_allRefusals_33 (fun H locs hP hD hS => ?_)
              refine lv_iconst (v := (-1)) hx hb dX11_allRefusals_36 ic_m1 ?_
              refine lv_ixor hx hb dX11_allRefusals_37 ?_
              refine lv_iand hx hb dX11_allRefusals_38 ?_
              obtain ⟨z_39, hc_39, h⟩ := bd_e h
              refine q_iV (As := [.int (z_27 &&& (z_33 ^^^ (-1)))]) (rest := [.int x14_l1]) (wF := [(a_values, .inl (cI, 3, .inl f_values)), (a_o, .inr (10, [.long o_trace, w_o_text, .int o_typed, .int o_choices, .int o_worlds, .ref a_values, .int o_at, .int o_start, .int o_sort, .int o_value, .int o_fault, w_o_draft, w_o_sayings, w_o_leaves, w_o_signs, w_o_words, w_o_word, w_o_isKept, w_o_some, w_o_every, .int o_deep, .int o_many, .ref a_length, w_o_found, .int o_foundMany])), (a_length, .inl (cI, 512, .inl f_length))]) hF hA hZ hK hP hD hS (c_X11_lengthOf l D cI cB cZ a_o o_trace w_o_text o_typed o_choices o_worlds (.ref a_values) o_at o_start o_sort o_value o_fault w_o_draft w_o_sayings w_o_leaves w_o_signs w_o_words w_o_word w_o_isKept w_o_some w_o_every o_deep o_many w_o_found o_foundMany a_length f_length (z_27 &&& (z_33 ^^^ (-1))) z_39 hc_39) rfl gX11_allRefusals_X11_lengthOf hdX11_lengthOf ⟨rfl, rfl⟩ (Nat.le_of_ble_eq_true rfl) (Nat.le_of_ble_eq_true rfl) 10 0 rfl rfl [1, 0] [2] rfl rfl rfl rfl (by decide) rfl hl.1 rfl (Nat.le_of_ble_eq_true rfl) (Nat.zero_le _) (Nat.zero_le _) dX11_allRefusals_39 (fun H locs hP hD hS => ?_)
              refine lv_iadd hx hb dX11_allRefusals_42 ?_
              refine lv_istore_n (lv' := [(1, .int (x14_l1 + z_39)), (0, .ref a_o), (2, .int x4_l2), (3, .int x14_l3)]) hx hb dX11_allRefusals_43 rfl hl (by decide) rfl (fun ls hl => ?_)
              refine lv_iinc (v := x14_l3 + 1) (lv' := [(3, .int (x14_l3 + 1)), (1, .int (x14_l1 + z_39)), (0, .ref a_o), (2, .int x4_l2)]) hx hb dX11_allRefusals_44 hl (k := 3) rfl (congrArg (x14_l3 + ·) ic_1) (by decide) rfl (fun ls hl => ?_)
              refine lv_goto (tgt := 14) hx hb dX11_allRefusals_47 (by decide) ?_
              exact ih14 (x14_l1 + z_39) (x14_l3 + 1) H locs ls h (hP.sub [1, 0, 2] rfl) (hD.sub [1, 0, 2] (by decide) rfl) hS (lv_sub hl [2, 1, 3, 0] rfl)
        exact L14 QF x4_l1 0 H locs ls h hP hD hS (lv_sub hl [1, 2, 3, 0] rfl)
  exact L4 QF 0 0 H locs ls h hP hD hS (lv_sub hl [2, 1, 0] rfl)
abbrev rmX11_saves : Room := { frames := 3, cells := 0, slots := 0, locals := 73 }
theorem hdX11_saves : yX11_saves.cls = RX11 ∧ yX11_saves.cls ≠ "java/lang/invoke/MethodHandle" ∧ yX11_saves.cls ≠ "java/lang/invoke/VarHandle" ∧ (parseMethodDescriptor yX11_saves.desc).map (fun d => d.parameters.length) = some 1 := by decide +kernel
set_option maxRecDepth 100000 in
set_option maxHeartbeats 4000000 in
theorem c_X11_saves (l : Launch) (D : va_G) (cI cB cZ : ClassId) (a_o : Nat) (o_trace : Int64) (w_o_text : Value) (o_typed : Int32) (o_choices : Int32) (o_worlds : Int32) (o_at : Int32) (o_start : Int32) (o_sort : Int32) (o_value : Int32) (o_fault : Int32) (w_o_draft : Value) (w_o_sayings : Value) (w_o_leaves : Value) (w_o_signs : Value) (w_o_isKept : Value) (w_o_some : Value) (w_o_every : Value) (o_deep : Int32) (o_many : Int32) (o_foundMany : Int32) (a_values : Nat) (f_values : Nat → Int32) (a_words : Nat) (f_words : Nat → Int32) (a_word : Nat) (f_word : Nat → Int32) (a_length : Nat) (f_length : Nat → Int32) (a_found : Nat) (f_found : Nat → Int32) (p1 : Int32) (z : Int32 × Int32 × (Nat → Int32) × (Nat → Int32)) (h : P_X11_saves p1 o_choices o_worlds o_foundMany f_values f_words f_word f_length f_found = some z) : KI l yX11_saves wsX11_saves rmX11_saves D [(cI, .int), (cB, .byte), (cZ, .boolean)] [.ref a_o, .int p1] [(a_o, .inr (10, [.long o_trace, w_o_text, .int o_typed, .int o_choices, .int o_worlds, .ref a_values, .int o_at, .int o_start, .int o_sort, .int o_value, .int o_fault, w_o_draft, w_o_sayings, w_o_leaves, w_o_signs, .ref a_words, .ref a_word, w_o_isKept, w_o_some, w_o_every, .int o_deep, .int o_many, .ref a_length, .ref a_found, .int o_foundMany])), (a_values, .inl (cI, 3, .inl f_values)), (a_words, .inl (cI, 3, .inl f_words)), (a_word, .inl (cI, 9, .inl f_word)), (a_length, .inl (cI, 512, .inl f_length)), (a_found, .inl (cI, 512, .inl f_found))] [(a_o, .inr (10, [.long o_trace, w_o_text, .int o_typed, .int o_choices, .int o_worlds, .ref a_values, .int o_at, .int o_start, .int o_sort, .int o_value, .int o_fault, w_o_draft, w_o_sayings, w_o_leaves, w_o_signs, .ref a_words, .ref a_word, w_o_isKept, w_o_some, w_o_every, .int o_deep, .int o_many, .ref a_length, .ref a_found, .int z.2.1])), (a_values, .inl (cI, 3, .inl f_values)), (a_words, .inl (cI, 3, .inl f_words)), (a_word, .inl (cI, 9, .inl f_word)), (a_length, .inl (cI, 512, .inl z.2.2.1)), (a_found, .inl (cI, 512, .inl z.2.2.2))] z.1 := by
  refine KI_of (own := RX11) (cc := cX11_saves) (maxL := 7) (ret := some .int) (by decide) rfl rfl (Nat.le_of_ble_eq_true rfl) (Or.inl rfl) ?_
  intro p e s m args below meth c A Q hx hb hml hown hts hA hZ hK hret H locs ls hP hD hS hl
  have hl : lv_has ls 7 [(0, .ref a_o), (1, .int p1)] := hl
  have hF : CallFix p m c cX11_saves 7 s args wsX11_saves RX11 := ⟨hx, hb, hml, hown, hts⟩
  have u_X11 : ∀ w ∈ u_ws RX11 TX11 25, w ∈ wsX11_saves := by decide +kernel
  have k_f0 := hts (.fieldLink RX11 29 "NoWordNoModel" "words" "[I") (by decide +kernel)
  have k_f1 := hts (.fieldLink RX11 95 "NoWordNoModel" "choices" "I") (by decide +kernel)
  have k_f2 := hts (.fieldLink RX11 13 "NoWordNoModel" "values" "[I") (by decide +kernel)
  unfold P_X11_saves at h
  refine lv_iload_n hx hb dX11_saves_0 rfl (lv_at hl 1 rfl) ?_
  refine lv_iconst (v := 0) hx hb dX11_saves_1 ic_0 ?_
  refine lv_iconst (v := 1) hx hb dX11_saves_2 ic_1 ?_
  obtain ⟨z_3, hc_3, h⟩ := bd_e h
  refine q_iS (As := [.int p1, .int 0, .int 1]) (rest := []) (wF := [(a_o, .inr (10, [.long o_trace, w_o_text, .int o_typed, .int o_choices, .int o_worlds, .ref a_values, .int o_at, .int o_start, .int o_sort, .int o_value, .int o_fault, w_o_draft, w_o_sayings, w_o_leaves, w_o_signs, .ref a_words, .ref a_word, w_o_isKept, w_o_some, w_o_every, .int o_deep, .int o_many, .ref a_length, .ref a_found, .int o_foundMany])), (a_values, .inl (cI, 3, .inl f_values)), (a_words, .inl (cI, 3, .inl f_words)), (a_word, .inl (cI, 9, .inl f_word)), (a_length, .inl (cI, 512, .inl f_length)), (a_found, .inl (cI, 512, .inl f_found))]) hF hA hZ hK hP hD hS (c_X11_in l D cI cB cZ p1 0 1 z_3 hc_3) rfl gX11_saves_X11_in hdX11_in ⟨rfl, rfl⟩ (Nat.le_of_ble_eq_true rfl) (Nat.le_of_ble_eq_true rfl) [] [0, 1, 2, 3, 4, 5] rfl rfl rfl rfl (by decide) rfl hl.1 rfl (Nat.le_of_ble_eq_true rfl) (Nat.zero_le _) (Nat.zero_le _) dX11_saves_3 (fun H locs hP hD hS => ?_)
  refine lv_if_ne (tgt := 11) hx hb dX11_saves_6 (by decide) (fun c_6 => ?_) (fun c_6 => ?_)
  · replace h := if_e c_6 h
    refine lv_aload_n hx hb dX11_saves_11 rfl (lv_at hl 0 rfl) ?_
    refine va_get (D := D) (ci := 10) (v := .ref a_words) (C := RX11) (T := TX11) (N := 25) hx hb hts u_X11 hown hK hP 0 rfl rfl 15 (by decide) k_f0 (fun _ h9 => h9) rfl dX11_saves_12 ?_
    refine lv_iconst (v := 0) hx hb dX11_saves_15 ic_0 ?_
    obtain ⟨hi_16, h⟩ := ck_e h
    refine va_iald hx hb hK hP 2 0 rfl rfl hi_16 dX11_saves_16 ?_
    refine lv_iconst (v := 3) hx hb dX11_saves_17 ic_3 ?_
    refine lv_icmp_ne (tgt := 24) hx hb dX11_saves_18 (by decide) (fun c_18 => ?_) (fun c_18 => ?_)
    · replace h := if_e c_18 h
      refine lv_bipush (v := (-9)) hx hb dX11_saves_24 bc_m9 ?_
      refine lv_istore_n (lv' := [(2, .int (-9)), (0, .ref a_o), (1, .int p1)]) hx hb dX11_saves_26 rfl hl (by decide) rfl (fun ls hl => ?_)
      refine lv_bipush (v := (-9)) hx hb dX11_saves_27 bc_m9 ?_
      refine lv_istore_n (lv' := [(3, .int (-9)), (2, .int (-9)), (0, .ref a_o), (1, .int p1)]) hx hb dX11_saves_29 rfl hl (by decide) rfl (fun ls hl => ?_)
      refine lv_iconst (v := 0) hx hb dX11_saves_30 ic_0 ?_
      refine lv_istore (lv' := [(4, .int 0), (3, .int (-9)), (2, .int (-9)), (0, .ref a_o), (1, .int p1)]) hx hb dX11_saves_31 hl (by decide) rfl (fun ls hl => ?_)
      obtain ⟨k118, hk118, h⟩ := jn_e h
      have Jk118 : ∀ (x118_l2 : Int32) (x118_l3 : Int32) (x118_o_foundMany : Int32) (x118_f_length : (Nat → Int32)) (x118_f_found : (Nat → Int32)) (H : Heap) (locs : List Loc) (ls : Array Slot), k118 x118_l2 x118_l3 x118_o_foundMany x118_f_length x118_f_found = some z → va_P D vwCl [(a_o, .inr (10, [.long o_trace, w_o_text, .int o_typed, .int o_choices, .int o_worlds, .ref a_values, .int o_at, .int o_start, .int o_sort, .int o_value, .int o_fault, w_o_draft, w_o_sayings, w_o_leaves, w_o_signs, .ref a_words, .ref a_word, w_o_isKept, w_o_some, w_o_every, .int o_deep, .int o_many, .ref a_length, .ref a_found, .int x118_o_foundMany])), (a_values, .inl (cI, 3, .inl f_values)), (a_words, .inl (cI, 3, .inl f_words)), (a_word, .inl (cI, 9, .inl f_word)), (a_length, .inl (cI, 512, .inl x118_f_length)), (a_found, .inl (cI, 512, .inl x118_f_found))] H → va_D A [(a_o, .inr (10, [.long o_trace, w_o_text, .int o_typed, .int o_choices, .int o_worlds, .ref a_values, .int o_at, .int o_start, .int o_sort, .int o_value, .int o_fault, w_o_draft, w_o_sayings, w_o_leaves, w_o_signs, .ref a_words, .ref a_word, w_o_isKept, w_o_some, w_o_every, .int o_deep, .int o_many, .ref a_length, .ref a_found, .int x118_o_foundMany])), (a_values, .inl (cI, 3, .inl f_values)), (a_words, .inl (cI, 3, .inl f_words)), (a_word, .inl (cI, 9, .inl f_word)), (a_length, .inl (cI, 512, .inl x118_f_length)), (a_found, .inl (cI, 512, .inl x118_f_found))] → va_S A s.heap H locs → lv_has ls 7 [(1, .int p1), (2, .int x118_l2), (3, .int x118_l3)] → W p l e rmX11_saves s m args below meth c H locs 0 0 Q (F0 m 118 ls []) := by
        intro x118_l2 x118_l3 x118_o_foundMany x118_f_length x118_f_found H locs ls h hP hD hS hl
        rw [hk118] at h
        refine lv_iload_n hx hb dX11_saves_118 rfl (lv_at hl 0 rfl) ?_
        refine lv_if_ne (tgt := 126) hx hb dX11_saves_119 (by decide) (fun c_119 => ?_) (fun c_119 => ?_)
        · replace h := if_e c_119 h
          refine lv_iload_n hx hb dX11_saves_126 rfl (lv_at hl 2 rfl) ?_
          have hz := Option.some.inj h
          subst hz
          exact hret H locs 127 ls (fun ty h => by cases h; rfl) hP hD hS dX11_saves_127
        · replace h := it_e c_119 h
          refine lv_iload_n hx hb dX11_saves_122 rfl (lv_at hl 1 rfl) ?_
          refine lv_goto (tgt := 127) hx hb dX11_saves_123 (by decide) ?_
          have hz := Option.some.inj h
          subst hz
          exact hret H locs 127 ls (fun ty h => by cases h; rfl) hP hD hS dX11_saves_127
      have L33 : ∀ (n : Nat), ∀ (x33_l2 : Int32) (x33_l3 : Int32) (x33_l4 : Int32) (x33_o_foundMany : Int32) (x33_f_length : (Nat → Int32)) (x33_f_found : (Nat → Int32)) (H : Heap) (locs : List Loc) (ls : Array Slot), P_X11_saves_33 o_choices o_worlds f_values f_words f_word k118 n x33_l2 x33_l3 x33_l4 x33_o_foundMany x33_f_length x33_f_found = some z → va_P D vwCl [(a_o, .inr (10, [.long o_trace, w_o_text, .int o_typed, .int o_choices, .int o_worlds, .ref a_values, .int o_at, .int o_start, .int o_sort, .int o_value, .int o_fault, w_o_draft, w_o_sayings, w_o_leaves, w_o_signs, .ref a_words, .ref a_word, w_o_isKept, w_o_some, w_o_every, .int o_deep, .int o_many, .ref a_length, .ref a_found, .int x33_o_foundMany])), (a_values, .inl (cI, 3, .inl f_values)), (a_words, .inl (cI, 3, .inl f_words)), (a_word, .inl (cI, 9, .inl f_word)), (a_length, .inl (cI, 512, .inl x33_f_length)), (a_found, .inl (cI, 512, .inl x33_f_found))] H → va_D A [(a_o, .inr (10, [.long o_trace, w_o_text, .int o_typed, .int o_choices, .int o_worlds, .ref a_values, .int o_at, .int o_start, .int o_sort, .int o_value, .int o_fault, w_o_draft, w_o_sayings, w_o_leaves, w_o_signs, .ref a_words, .ref a_word, w_o_isKept, w_o_some, w_o_every, .int o_deep, .int o_many, .ref a_length, .ref a_found, .int x33_o_foundMany])), (a_values, .inl (cI, 3, .inl f_values)), (a_words, .inl (cI, 3, .inl f_words)), (a_word, .inl (cI, 9, .inl f_word)), (a_length, .inl (cI, 512, .inl x33_f_length)), (a_found, .inl (cI, 512, .inl x33_f_found))] → va_S A s.heap H locs → lv_has ls 7 [(0, .ref a_o), (1, .int p1), (2, .int x33_l2), (3, .int x33_l3), (4, .int x33_l4)] → W p l e rmX11_saves s m args below meth c H locs 0 0 Q (F0 m 33 ls []) := by
        intro n
        induction n with
        | zero =>
          intro x33_l2 x33_l3 x33_l4 x33_o_foundMany x33_f_length x33_f_found H locs ls h
          exact no_e h
        | succ n ih33 =>
          intro x33_l2 x33_l3 x33_l4 x33_o_foundMany x33_f_length x33_f_found H locs ls h hP hD hS hl
          rw [P_X11_saves_33] at h
          refine lv_iload hx hb dX11_saves_33 (lv_at hl 4 rfl) ?_
          refine lv_aload_n hx hb dX11_saves_35 rfl (lv_at hl 0 rfl) ?_
          refine va_get (D := D) (ci := 10) (v := .int o_choices) (C := RX11) (T := TX11) (N := 25) hx hb hts u_X11 hown hK hP 0 rfl rfl 3 (by decide) k_f1 (fun _ h9 => h9) rfl dX11_saves_36 ?_
          refine lv_icmp_ge (tgt := 118) hx hb dX11_saves_39 (by decide) (fun c_39 => ?_) (fun c_39 => ?_)
          · replace h := it_e c_39 h
            exact Jk118 x33_l2 x33_l3 x33_o_foundMany x33_f_length x33_f_found H locs ls h hP hD hS (lv_sub hl [1, 2, 3] rfl)
          · replace h := if_e c_39 h
            refine lv_iconst (v := 0) hx hb dX11_saves_42 ic_0 ?_
            refine lv_istore (lv' := [(5, .int 0), (0, .ref a_o), (1, .int p1), (2, .int x33_l2), (3, .int x33_l3), (4, .int x33_l4)]) hx hb dX11_saves_43 hl (by decide) rfl (fun ls hl => ?_)
            obtain ⟨k112, hk112, h⟩ := jn_e h
            have Jk112 : ∀ (x112_l2 : Int32) (x112_l3 : Int32) (x112_o_foundMany : Int32) (x112_f_length : (Nat → Int32)) (x112_f_found : (Nat → Int32)) (H : Heap) (locs : List Loc) (ls : Array Slot), k112 x112_l2 x112_l3 x112_o_foundMany x112_f_length x112_f_found = some z → va_P D vwCl [(a_o, .inr (10, [.long o_trace, w_o_text, .int o_typed, .int o_choices, .int o_worlds, .ref a_values, .int o_at, .int o_start, .int o_sort, .int o_value, .int o_fault, w_o_draft, w_o_sayings, w_o_leaves, w_o_signs, .ref a_words, .ref a_word, w_o_isKept, w_o_some, w_o_every, .int o_deep, .int o_many, .ref a_length, .ref a_found, .int x112_o_foundMany])), (a_values, .inl (cI, 3, .inl f_values)), (a_words, .inl (cI, 3, .inl f_words)), (a_word, .inl (cI, 9, .inl f_word)), (a_length, .inl (cI, 512, .inl x112_f_length)), (a_found, .inl (cI, 512, .inl x112_f_found))] H → va_D A [(a_o, .inr (10, [.long o_trace, w_o_text, .int o_typed, .int o_choices, .int o_worlds, .ref a_values, .int o_at, .int o_start, .int o_sort, .int o_value, .int o_fault, w_o_draft, w_o_sayings, w_o_leaves, w_o_signs, .ref a_words, .ref a_word, w_o_isKept, w_o_some, w_o_every, .int o_deep, .int o_many, .ref a_length, .ref a_found, .int x112_o_foundMany])), (a_values, .inl (cI, 3, .inl f_values)), (a_words, .inl (cI, 3, .inl f_words)), (a_word, .inl (cI, 9, .inl f_word)), (a_length, .inl (cI, 512, .inl x112_f_length)), (a_found, .inl (cI, 512, .inl x112_f_found))] → va_S A s.heap H locs → lv_has ls 7 [(0, .ref a_o), (1, .int p1), (2, .int x112_l2), (3, .int x112_l3), (4, .int x33_l4)] → W p l e rmX11_saves s m args below meth c H locs 0 0 Q (F0 m 112 ls []) := by
              intro x112_l2 x112_l3 x112_o_foundMany x112_f_length x112_f_found H locs ls h hP hD hS hl
              rw [hk112] at h
              refine lv_iinc (v := x33_l4 + 1) (lv' := [(4, .int (x33_l4 + 1)), (0, .ref a_o), (1, .int p1), (2, .int x112_l2), (3, .int x112_l3)]) hx hb dX11_saves_112 hl (k := 4) rfl (congrArg (x33_l4 + ·) ic_1) (by decide) rfl (fun ls hl => ?_)
              refine lv_goto (tgt := 33) hx hb dX11_saves_115 (by decide) ?_
              exact ih33 x112_l2 x112_l3 (x33_l4 + 1) x112_o_foundMany x112_f_length x112_f_found H locs ls h hP hD hS (lv_sub hl [1, 2, 3, 4, 0] rfl)
            have L45 : ∀ (n : Nat), ∀ (x45_l2 : Int32) (x45_l3 : Int32) (x45_l5 : Int32) (x45_o_foundMany : Int32) (x45_f_length : (Nat → Int32)) (x45_f_found : (Nat → Int32)) (H : Heap) (locs : List Loc) (ls : Array Slot), P_X11_saves_45 o_choices o_worlds f_values f_words f_word x33_l4 k112 n x45_l2 x45_l3 x45_l5 x45_o_foundMany x45_f_length x45_f_found = some z → va_P D vwCl [(a_o, .inr (10, [.long o_trace, w_o_text, .int o_typed, .int o_choices, .int o_worlds, .ref a_values, .int o_at, .int o_start, .int o_sort, .int o_value, .int o_fault, w_o_draft, w_o_sayings, w_o_leaves, w_o_signs, .ref a_words, .ref a_word, w_o_isKept, w_o_some, w_o_every, .int o_deep, .int o_many, .ref a_length, .ref a_found, .int x45_o_foundMany])), (a_values, .inl (cI, 3, .inl f_values)), (a_words, .inl (cI, 3, .inl f_words)), (a_word, .inl (cI, 9, .inl f_word)), (a_length, .inl (cI, 512, .inl x45_f_length)), (a_found, .inl (cI, 512, .inl x45_f_found))] H → va_D A [(a_o, .inr (10, [.long o_trace, w_o_text, .int o_typed, .int o_choices, .int o_worlds, .ref a_values, .int o_at, .int o_start, .int o_sort, .int o_value, .int o_fault, w_o_draft, w_o_sayings, w_o_leaves, w_o_signs, .ref a_words, .ref a_word, w_o_isKept, w_o_some, w_o_every, .int o_deep, .int o_many, .ref a_length, .ref a_found, .int x45_o_foundMany])), (a_values, .inl (cI, 3, .inl f_values)), (a_words, .inl (cI, 3, .inl f_words)), (a_word, .inl (cI, 9, .inl f_word)), (a_length, .inl (cI, 512, .inl x45_f_length)), (a_found, .inl (cI, 512, .inl x45_f_found))] → va_S A s.heap H locs → lv_has ls 7 [(0, .ref a_o), (1, .int p1), (2, .int x45_l2), (3, .int x45_l3), (4, .int x33_l4), (5, .int x45_l5)] → W p l e rmX11_saves s m args below meth c H locs 0 0 Q (F0 m 45 ls []) := by
              intro n
              induction n with
              | zero =>
                intro x45_l2 x45_l3 x45_l5 x45_o_foundMany x45_f_length x45_f_found H locs ls h
                exact no_e h
              | succ n ih45 =>
                intro x45_l2 x45_l3 x45_l5 x45_o_foundMany x45_f_length x45_f_found H locs ls h hP hD hS hl
                rw [P_X11_saves_45] at h
                refine lv_iload hx hb dX11_saves_45 (lv_at hl 5 rfl) ?_
                refine lv_aload_n hx hb dX11_saves_47 rfl (lv_at hl 0 rfl) ?_
                refine va_get (D := D) (ci := 10) (v := .ref a_values) (C := RX11) (T := TX11) (N := 25) hx hb hts u_X11 hown hK hP 0 rfl rfl 5 (by decide) k_f2 (fun _ h9 => h9) rfl dX11_saves_48 ?_
                refine lv_iload hx hb dX11_saves_51 (lv_at hl 4 rfl) ?_
                obtain ⟨hi_53, h⟩ := ck_e h
                refine va_iald hx hb hK hP 1 0 rfl rfl hi_53 dX11_saves_53 ?_
                refine lv_icmp_ge (tgt := 112) hx hb dX11_saves_54 (by decide) (fun c_54 => ?_) (fun c_54 => ?_)
                · replace h := it_e c_54 h
                  exact Jk112 x45_l2 x45_l3 x45_o_foundMany x45_f_length x45_f_found H locs ls h hP hD hS (lv_sub hl [0, 1, 2, 3, 4] rfl)
                · replace h := if_e c_54 h
                  refine lv_aload_n hx hb dX11_saves_57 rfl (lv_at hl 0 rfl) ?_
                  refine lv_aload_n hx hb dX11_saves_58 rfl (lv_at hl 0 rfl) ?_
                  obtain ⟨z_59, hc_59, h⟩ := bd_e h
                  refine q_iV (As := []) (rest := [.ref a_o]) (wF := [(a_values, .inl (cI, 3, .inl f_values)), (a_words, .inl (cI, 3, .inl f_words)), (a_word, .inl (cI, 9, .inl f_word)), (a_length, .inl (cI, 512, .inl x45_f_length)), (a_found, .inl (cI, 512, .inl x45_f_found)), (a_o, .inr (10, [.long o_trace, w_o_text, .int o_typed, .int o_choices, .int o_worlds, .ref a_values, .int o_at, .int o_start, .int o_sort, .int o_value, .int o_fault, w_o_draft, w_o_sayings, w_o_leaves, w_o_signs, .ref a_words, .ref a_word, w_o_isKept, w_o_some, w_o_every, .int o_deep, .int o_many, .ref a_length, .ref a_found, .int x45_o_foundMany]))]) hF hA hZ hK hP hD hS (c_X11_allSets l D cI cB cZ a_o o_trace w_o_text o_typed o_choices o_worlds (.ref a_values) o_at o_start o_sort o_value o_fault w_o_draft w_o_sayings w_o_leaves w_o_signs (.ref a_words) (.ref a_word) w_o_isKept w_o_some w_o_every o_deep o_many (.ref a_length) (.ref a_found) x45_o_foundMany z_59 hc_59) rfl gX11_saves_X11_allSets hdX11_allSets ⟨rfl, rfl⟩ (Nat.le_of_ble_eq_true rfl) (Nat.le_of_ble_eq_true rfl) 10 0 rfl rfl [0] [1, 2, 3, 4, 5] rfl rfl rfl rfl (by decide) rfl hl.1 rfl (Nat.le_of_ble_eq_true rfl) (Nat.zero_le _) (Nat.zero_le _) dX11_saves_59 (fun H locs hP hD hS => ?_)
                  refine lv_aload_n hx hb dX11_saves_62 rfl (lv_at hl 0 rfl) ?_
                  refine lv_iload hx hb dX11_saves_63 (lv_at hl 4 rfl) ?_
                  refine lv_iload hx hb dX11_saves_65 (lv_at hl 5 rfl) ?_
                  obtain ⟨z_67, hc_67, h⟩ := bd_e h
                  refine q_iV (As := [.int x33_l4, .int x45_l5]) (rest := [.int z_59, .ref a_o]) (wF := [(a_words, .inl (cI, 3, .inl f_words)), (a_word, .inl (cI, 9, .inl f_word)), (a_length, .inl (cI, 512, .inl x45_f_length)), (a_found, .inl (cI, 512, .inl x45_f_found)), (a_o, .inr (10, [.long o_trace, w_o_text, .int o_typed, .int o_choices, .int o_worlds, .ref a_values, .int o_at, .int o_start, .int o_sort, .int o_value, .int o_fault, w_o_draft, w_o_sayings, w_o_leaves, w_o_signs, .ref a_words, .ref a_word, w_o_isKept, w_o_some, w_o_every, .int o_deep, .int o_many, .ref a_length, .ref a_found, .int x45_o_foundMany])), (a_values, .inl (cI, 3, .inl f_values))]) hF hA hZ hK hP hD hS (c_X11_worldsOf l D cI cB cZ a_o o_trace w_o_text o_typed o_choices o_worlds o_at o_start o_sort o_value o_fault w_o_draft w_o_sayings w_o_leaves w_o_signs (.ref a_words) (.ref a_word) w_o_isKept w_o_some w_o_every o_deep o_many (.ref a_length) (.ref a_found) x45_o_foundMany a_values f_values x33_l4 x45_l5 z_67 hc_67) rfl gX11_saves_X11_worldsOf hdX11_worldsOf ⟨rfl, rfl⟩ (Nat.le_of_ble_eq_true rfl) (Nat.le_of_ble_eq_true rfl) 10 0 rfl rfl [5, 0] [1, 2, 3, 4] rfl rfl rfl rfl (by decide) rfl hl.1 rfl (Nat.le_of_ble_eq_true rfl) (Nat.zero_le _) (Nat.zero_le _) dX11_saves_67 (fun H locs hP hD hS => ?_)
                  refine lv_iconst (v := (-1)) hx hb dX11_saves_70 ic_m1 ?_
                  refine lv_ixor hx hb dX11_saves_71 ?_
                  refine lv_iand hx hb dX11_saves_72 ?_
                  obtain ⟨z_73, hc_73, h⟩ := bd_e h
                  refine q_vV (As := [.int (z_59 &&& (z_67 ^^^ (-1)))]) (rest := []) (wF := [(a_o, .inr (10, [.long o_trace, w_o_text, .int o_typed, .int o_choices, .int o_worlds, .ref a_values, .int o_at, .int o_start, .int o_sort, .int o_value, .int o_fault, w_o_draft, w_o_sayings, w_o_leaves, w_o_signs, .ref a_words, .ref a_word, w_o_isKept, w_o_some, w_o_every, .int o_deep, .int o_many, .ref a_length, .ref a_found, .int z_73.1])), (a_values, .inl (cI, 3, .inl f_values)), (a_words, .inl (cI, 3, .inl f_words)), (a_word, .inl (cI, 9, .inl f_word)), (a_length, .inl (cI, 512, .inl z_73.2.1)), (a_found, .inl (cI, 512, .inl z_73.2.2))]) hF hA hZ hK hP hD hS (c_X11_findAll l D cI cB cZ a_o o_trace w_o_text o_typed o_choices o_worlds o_at o_start o_sort o_value o_fault w_o_draft w_o_sayings w_o_leaves w_o_signs w_o_isKept w_o_some w_o_every o_deep o_many x45_o_foundMany a_values f_values a_words f_words a_word f_word a_length x45_f_length a_found x45_f_found (z_59 &&& (z_67 ^^^ (-1))) z_73 hc_73) rfl gX11_saves_X11_findAll hdX11_findAll ⟨rfl, rfl⟩ (Nat.le_of_ble_eq_true rfl) (Nat.le_of_ble_eq_true rfl) 10 0 rfl rfl [4, 5, 0, 1, 2, 3] [] rfl rfl rfl rfl (by decide) rfl hl.1 rfl (Nat.le_of_ble_eq_true rfl) (Nat.zero_le _) (Nat.zero_le _) dX11_saves_73 (fun H locs hP hD hS => ?_)
                  refine lv_aload_n hx hb dX11_saves_76 rfl (lv_at hl 0 rfl) ?_
                  obtain ⟨z_77, hc_77, h⟩ := bd_e h
                  refine q_iV (As := []) (rest := []) (wF := [(a_words, .inl (cI, 3, .inl f_words)), (a_word, .inl (cI, 9, .inl f_word)), (a_found, .inl (cI, 512, .inl z_73.2.2)), (a_o, .inr (10, [.long o_trace, w_o_text, .int o_typed, .int o_choices, .int o_worlds, .ref a_values, .int o_at, .int o_start, .int o_sort, .int o_value, .int o_fault, w_o_draft, w_o_sayings, w_o_leaves, w_o_signs, .ref a_words, .ref a_word, w_o_isKept, w_o_some, w_o_every, .int o_deep, .int o_many, .ref a_length, .ref a_found, .int z_73.1])), (a_values, .inl (cI, 3, .inl f_values)), (a_length, .inl (cI, 512, .inl z_73.2.1))]) hF hA hZ hK hP hD hS (c_X11_allRefusals l D cI cB cZ a_o o_trace w_o_text o_typed o_choices o_worlds o_at o_start o_sort o_value o_fault w_o_draft w_o_sayings w_o_leaves w_o_signs (.ref a_words) (.ref a_word) w_o_isKept w_o_some w_o_every o_deep o_many (.ref a_found) z_73.1 a_values f_values a_length z_73.2.1 z_77 hc_77) rfl gX11_saves_X11_allRefusals hdX11_allRefusals ⟨rfl, rfl⟩ (Nat.le_of_ble_eq_true rfl) (Nat.le_of_ble_eq_true rfl) 10 0 rfl rfl [0, 1, 4] [2, 3, 5] rfl rfl rfl rfl (by decide) rfl hl.1 rfl (Nat.le_of_ble_eq_true rfl) (Nat.zero_le _) (Nat.zero_le _) dX11_saves_77 (fun H locs hP hD hS => ?_)
                  refine lv_istore (lv' := [(6, .int z_77), (0, .ref a_o), (1, .int p1), (2, .int x45_l2), (3, .int x45_l3), (4, .int x33_l4), (5, .int x45_l5)]) hx hb dX11_saves_80 hl (by decide) rfl (fun ls hl => ?_)
                  refine lv_iload_n hx hb dX11_saves_82 rfl (lv_at hl 4 rfl) ?_
                  refine lv_bipush (v := (-9)) hx hb dX11_saves_83 bc_m9 ?_
                  obtain ⟨j94, hj94, h⟩ := jn_e h
                  have Jj94 : ∀ (H : Heap) (locs : List Loc) (ls : Array Slot), j94 () = some z → va_P D vwCl [(a_words, .inl (cI, 3, .inl f_words)), (a_word, .inl (cI, 9, .inl f_word)), (a_found, .inl (cI, 512, .inl z_73.2.2)), (a_o, .inr (10, [.long o_trace, w_o_text, .int o_typed, .int o_choices, .int o_worlds, .ref a_values, .int o_at, .int o_start, .int o_sort, .int o_value, .int o_fault, w_o_draft, w_o_sayings, w_o_leaves, w_o_signs, .ref a_words, .ref a_word, w_o_isKept, w_o_some, w_o_every, .int o_deep, .int o_many, .ref a_length, .ref a_found, .int z_73.1])), (a_values, .inl (cI, 3, .inl f_values)), (a_length, .inl (cI, 512, .inl z_73.2.1))] H → va_D A [(a_words, .inl (cI, 3, .inl f_words)), (a_word, .inl (cI, 9, .inl f_word)), (a_found, .inl (cI, 512, .inl z_73.2.2)), (a_o, .inr (10, [.long o_trace, w_o_text, .int o_typed, .int o_choices, .int o_worlds, .ref a_values, .int o_at, .int o_start, .int o_sort, .int o_value, .int o_fault, w_o_draft, w_o_sayings, w_o_leaves, w_o_signs, .ref a_words, .ref a_word, w_o_isKept, w_o_some, w_o_every, .int o_deep, .int o_many, .ref a_length, .ref a_found, .int z_73.1])), (a_values, .inl (cI, 3, .inl f_values)), (a_length, .inl (cI, 512, .inl z_73.2.1))] → va_S A s.heap H locs → lv_has ls 7 [(0, .ref a_o), (1, .int p1), (4, .int x33_l4), (5, .int x45_l5), (6, .int z_77)] → W p l e rmX11_saves s m args below meth c H locs 0 0 Q (F0 m 94 ls []) := by
                    intro H locs ls h hP hD hS hl
                    rw [hj94] at h
                    refine lv_bipush (v := 10) hx hb dX11_saves_94 bc_10 ?_
                    refine lv_iload hx hb dX11_saves_96 (lv_at hl 2 rfl) ?_
                    refine lv_imul hx hb dX11_saves_98 ?_
                    refine lv_iload hx hb dX11_saves_99 (lv_at hl 3 rfl) ?_
                    refine lv_iadd hx hb dX11_saves_101 ?_
                    refine lv_istore_n (lv' := [(2, .int ((10 * x33_l4) + x45_l5)), (0, .ref a_o), (1, .int p1), (4, .int x33_l4), (5, .int x45_l5), (6, .int z_77)]) hx hb dX11_saves_102 rfl hl (by decide) rfl (fun ls hl => ?_)
                    refine lv_iload hx hb dX11_saves_103 (lv_at hl 5 rfl) ?_
                    refine lv_istore_n (lv' := [(3, .int z_77), (2, .int ((10 * x33_l4) + x45_l5)), (0, .ref a_o), (1, .int p1), (4, .int x33_l4), (5, .int x45_l5), (6, .int z_77)]) hx hb dX11_saves_105 rfl hl (by decide) rfl (fun ls hl => ?_)
                    refine lv_iinc (v := x45_l5 + 1) (lv' := [(5, .int (x45_l5 + 1)), (3, .int z_77), (2, .int ((10 * x33_l4) + x45_l5)), (0, .ref a_o), (1, .int p1), (4, .int x33_l4), (6, .int z_77)]) hx hb dX11_saves_106 hl (k := 5) rfl (congrArg (x45_l5 + ·) ic_1) (by decide) rfl (fun ls hl => ?_)
                    refine lv_goto (tgt := 45) hx hb dX11_saves_109 (by decide) ?_
                    exact ih45 ((10 * x33_l4) + x45_l5) z_77 (x45_l5 + 1) z_73.1 z_73.2.1 z_73.2.2 H locs ls h (hP.sub [3, 4, 0, 1, 5, 2] rfl) (hD.sub [3, 4, 0, 1, 5, 2] (by decide) rfl) hS (lv_sub hl [3, 4, 2, 1, 5, 0] rfl)
                  obtain ⟨j106, hj106, h⟩ := jn_e h
                  have Jj106 : ∀ (x106_l2 : Int32) (x106_l3 : Int32) (H : Heap) (locs : List Loc) (ls : Array Slot), j106 x106_l2 x106_l3 = some z → va_P D vwCl [(a_words, .inl (cI, 3, .inl f_words)), (a_word, .inl (cI, 9, .inl f_word)), (a_found, .inl (cI, 512, .inl z_73.2.2)), (a_o, .inr (10, [.long o_trace, w_o_text, .int o_typed, .int o_choices, .int o_worlds, .ref a_values, .int o_at, .int o_start, .int o_sort, .int o_value, .int o_fault, w_o_draft, w_o_sayings, w_o_leaves, w_o_signs, .ref a_words, .ref a_word, w_o_isKept, w_o_some, w_o_every, .int o_deep, .int o_many, .ref a_length, .ref a_found, .int z_73.1])), (a_values, .inl (cI, 3, .inl f_values)), (a_length, .inl (cI, 512, .inl z_73.2.1))] H → va_D A [(a_words, .inl (cI, 3, .inl f_words)), (a_word, .inl (cI, 9, .inl f_word)), (a_found, .inl (cI, 512, .inl z_73.2.2)), (a_o, .inr (10, [.long o_trace, w_o_text, .int o_typed, .int o_choices, .int o_worlds, .ref a_values, .int o_at, .int o_start, .int o_sort, .int o_value, .int o_fault, w_o_draft, w_o_sayings, w_o_leaves, w_o_signs, .ref a_words, .ref a_word, w_o_isKept, w_o_some, w_o_every, .int o_deep, .int o_many, .ref a_length, .ref a_found, .int z_73.1])), (a_values, .inl (cI, 3, .inl f_values)), (a_length, .inl (cI, 512, .inl z_73.2.1))] → va_S A s.heap H locs → lv_has ls 7 [(0, .ref a_o), (1, .int p1), (2, .int x106_l2), (3, .int x106_l3), (4, .int x33_l4), (5, .int x45_l5)] → W p l e rmX11_saves s m args below meth c H locs 0 0 Q (F0 m 106 ls []) := by
                    intro x106_l2 x106_l3 H locs ls h hP hD hS hl
                    rw [hj106] at h
                    refine lv_iinc (v := x45_l5 + 1) (lv' := [(5, .int (x45_l5 + 1)), (0, .ref a_o), (1, .int p1), (2, .int x106_l2), (3, .int x106_l3), (4, .int x33_l4)]) hx hb dX11_saves_106 hl (k := 5) rfl (congrArg (x45_l5 + ·) ic_1) (by decide) rfl (fun ls hl => ?_)
                    refine lv_goto (tgt := 45) hx hb dX11_saves_109 (by decide) ?_
                    exact ih45 x106_l2 x106_l3 (x45_l5 + 1) z_73.1 z_73.2.1 z_73.2.2 H locs ls h (hP.sub [3, 4, 0, 1, 5, 2] rfl) (hD.sub [3, 4, 0, 1, 5, 2] (by decide) rfl) hS (lv_sub hl [1, 2, 3, 4, 5, 0] rfl)
                  refine lv_icmp_eq (tgt := 94) hx hb dX11_saves_85 (by decide) (fun c_85 => ?_) (fun c_85 => ?_)
                  · replace h := it_e c_85 h
                    exact Jj94  H locs ls h hP hD hS (lv_sub hl [1, 2, 5, 6, 0] rfl)
                  · replace h := if_e c_85 h
                    refine lv_iload hx hb dX11_saves_88 (lv_at hl 0 rfl) ?_
                    refine lv_iload_n hx hb dX11_saves_90 rfl (lv_at hl 4 rfl) ?_
                    refine lv_icmp_ge (tgt := 106) hx hb dX11_saves_91 (by decide) (fun c_91 => ?_) (fun c_91 => ?_)
                    · replace h := it_e c_91 h
                      exact Jj106 x45_l2 x45_l3 H locs ls h hP hD hS (lv_sub hl [1, 2, 3, 4, 5, 6] rfl)
                    · replace h := if_e c_91 h
                      exact Jj94  H locs ls h hP hD hS (lv_sub hl [1, 2, 5, 6, 0] rfl)
            exact L45 QF x33_l2 x33_l3 0 x33_o_foundMany x33_f_length x33_f_found H locs ls h hP hD hS (lv_sub hl [1, 2, 3, 4, 5, 0] rfl)
      exact L33 QF (-9) (-9) 0 o_foundMany f_length f_found H locs ls h hP hD hS (lv_sub hl [3, 4, 2, 1, 0] rfl)
    · replace h := it_e c_18 h
      refine lv_bipush (v := (-3)) hx hb dX11_saves_21 bc_m3 ?_
      have hz := Option.some.inj h
      subst hz
      exact hret H locs 23 ls (fun ty h => by cases h; rfl) hP hD hS dX11_saves_23
  · replace h := it_e c_6 h
    refine lv_iconst (v := (-1)) hx hb dX11_saves_9 ic_m1 ?_
    have hz := Option.some.inj h
    subst hz
    exact hret H locs 10 ls (fun ty h => by cases h; rfl) hP hD hS dX11_saves_10
abbrev rmX11_contractBut : Room := { frames := 1, cells := 0, slots := 0, locals := 20 }
theorem hdX11_contractBut : yX11_contractBut.cls = RX11 ∧ yX11_contractBut.cls ≠ "java/lang/invoke/MethodHandle" ∧ yX11_contractBut.cls ≠ "java/lang/invoke/VarHandle" ∧ (parseMethodDescriptor yX11_contractBut.desc).map (fun d => d.parameters.length) = some 1 := by decide +kernel
set_option maxRecDepth 100000 in
set_option maxHeartbeats 4000000 in
theorem c_X11_contractBut (l : Launch) (D : va_G) (cI cB cZ : ClassId) (a_o : Nat) (o_trace : Int64) (w_o_text : Value) (o_typed : Int32) (o_choices : Int32) (o_worlds : Int32) (w_o_values : Value) (o_at : Int32) (o_start : Int32) (o_sort : Int32) (o_value : Int32) (o_fault : Int32) (w_o_draft : Value) (w_o_signs : Value) (w_o_words : Value) (w_o_word : Value) (w_o_isKept : Value) (w_o_some : Value) (w_o_every : Value) (o_deep : Int32) (o_many : Int32) (w_o_length : Value) (w_o_found : Value) (o_foundMany : Int32) (a_sayings : Nat) (f_sayings : Nat → Int32) (a_leaves : Nat) (f_leaves : Nat → Int32) (p1 : Int32) (z : Int32) (h : P_X11_contractBut p1 o_worlds f_sayings f_leaves = some z) : KI l yX11_contractBut wsX11_contractBut rmX11_contractBut D [(cI, .int), (cB, .byte), (cZ, .boolean)] [.ref a_o, .int p1] [(a_o, .inr (10, [.long o_trace, w_o_text, .int o_typed, .int o_choices, .int o_worlds, w_o_values, .int o_at, .int o_start, .int o_sort, .int o_value, .int o_fault, w_o_draft, .ref a_sayings, .ref a_leaves, w_o_signs, w_o_words, w_o_word, w_o_isKept, w_o_some, w_o_every, .int o_deep, .int o_many, w_o_length, w_o_found, .int o_foundMany])), (a_sayings, .inl (cI, 3, .inl f_sayings)), (a_leaves, .inl (cI, 24, .inl f_leaves))] [(a_o, .inr (10, [.long o_trace, w_o_text, .int o_typed, .int o_choices, .int o_worlds, w_o_values, .int o_at, .int o_start, .int o_sort, .int o_value, .int o_fault, w_o_draft, .ref a_sayings, .ref a_leaves, w_o_signs, w_o_words, w_o_word, w_o_isKept, w_o_some, w_o_every, .int o_deep, .int o_many, w_o_length, w_o_found, .int o_foundMany])), (a_sayings, .inl (cI, 3, .inl f_sayings)), (a_leaves, .inl (cI, 24, .inl f_leaves))] z := by
  refine KI_of (own := RX11) (cc := cX11_contractBut) (maxL := 4) (ret := some .int) (by decide) rfl rfl (Nat.le_of_ble_eq_true rfl) (Or.inl rfl) ?_
  intro p e s m args below meth c A Q hx hb hml hown hts hA hZ hK hret H locs ls hP hD hS hl
  have hl : lv_has ls 4 [(0, .ref a_o), (1, .int p1)] := hl
  have hF : CallFix p m c cX11_contractBut 4 s args wsX11_contractBut RX11 := ⟨hx, hb, hml, hown, hts⟩
  have u_X11 : ∀ w ∈ u_ws RX11 TX11 25, w ∈ wsX11_contractBut := by decide +kernel
  have k_f0 := hts (.fieldLink RX11 20 "NoWordNoModel" "sayings" "[I") (by decide +kernel)
  have k_f1 := hts (.fieldLink RX11 23 "NoWordNoModel" "leaves" "[I") (by decide +kernel)
  unfold P_X11_contractBut at h
  refine lv_aload_n hx hb dX11_contractBut_0 rfl (lv_at hl 0 rfl) ?_
  obtain ⟨z_1, hc_1, h⟩ := bd_e h
  refine q_iV (As := []) (rest := []) (wF := [(a_sayings, .inl (cI, 3, .inl f_sayings)), (a_leaves, .inl (cI, 24, .inl f_leaves)), (a_o, .inr (10, [.long o_trace, w_o_text, .int o_typed, .int o_choices, .int o_worlds, w_o_values, .int o_at, .int o_start, .int o_sort, .int o_value, .int o_fault, w_o_draft, .ref a_sayings, .ref a_leaves, w_o_signs, w_o_words, w_o_word, w_o_isKept, w_o_some, w_o_every, .int o_deep, .int o_many, w_o_length, w_o_found, .int o_foundMany]))]) hF hA hZ hK hP hD hS (c_X11_allSets l D cI cB cZ a_o o_trace w_o_text o_typed o_choices o_worlds w_o_values o_at o_start o_sort o_value o_fault w_o_draft (.ref a_sayings) (.ref a_leaves) w_o_signs w_o_words w_o_word w_o_isKept w_o_some w_o_every o_deep o_many w_o_length w_o_found o_foundMany z_1 hc_1) rfl gX11_contractBut_X11_allSets hdX11_allSets ⟨rfl, rfl⟩ (Nat.le_of_ble_eq_true rfl) (Nat.le_of_ble_eq_true rfl) 10 0 rfl rfl [0] [1, 2] rfl rfl rfl rfl (by decide) rfl hl.1 rfl (Nat.le_of_ble_eq_true rfl) (Nat.zero_le _) (Nat.zero_le _) dX11_contractBut_1 (fun H locs hP hD hS => ?_)
  refine lv_istore_n (lv' := [(2, .int z_1), (0, .ref a_o), (1, .int p1)]) hx hb dX11_contractBut_4 rfl hl (by decide) rfl (fun ls hl => ?_)
  refine lv_iconst (v := 0) hx hb dX11_contractBut_5 ic_0 ?_
  refine lv_istore_n (lv' := [(3, .int 0), (2, .int z_1), (0, .ref a_o), (1, .int p1)]) hx hb dX11_contractBut_6 rfl hl (by decide) rfl (fun ls hl => ?_)
  have L7 : ∀ (n : Nat), ∀ (x7_l2 : Int32) (x7_l3 : Int32) (H : Heap) (locs : List Loc) (ls : Array Slot), P_X11_contractBut_7 p1 o_worlds f_sayings f_leaves n x7_l2 x7_l3 = some z → va_P D vwCl [(a_sayings, .inl (cI, 3, .inl f_sayings)), (a_leaves, .inl (cI, 24, .inl f_leaves)), (a_o, .inr (10, [.long o_trace, w_o_text, .int o_typed, .int o_choices, .int o_worlds, w_o_values, .int o_at, .int o_start, .int o_sort, .int o_value, .int o_fault, w_o_draft, .ref a_sayings, .ref a_leaves, w_o_signs, w_o_words, w_o_word, w_o_isKept, w_o_some, w_o_every, .int o_deep, .int o_many, w_o_length, w_o_found, .int o_foundMany]))] H → va_D A [(a_sayings, .inl (cI, 3, .inl f_sayings)), (a_leaves, .inl (cI, 24, .inl f_leaves)), (a_o, .inr (10, [.long o_trace, w_o_text, .int o_typed, .int o_choices, .int o_worlds, w_o_values, .int o_at, .int o_start, .int o_sort, .int o_value, .int o_fault, w_o_draft, .ref a_sayings, .ref a_leaves, w_o_signs, w_o_words, w_o_word, w_o_isKept, w_o_some, w_o_every, .int o_deep, .int o_many, w_o_length, w_o_found, .int o_foundMany]))] → va_S A s.heap H locs → lv_has ls 4 [(0, .ref a_o), (1, .int p1), (2, .int x7_l2), (3, .int x7_l3)] → W p l e rmX11_contractBut s m args below meth c H locs 0 0 Q (F0 m 7 ls []) := by
    intro n
    induction n with
    | zero =>
      intro x7_l2 x7_l3 H locs ls h
      exact no_e h
    | succ n ih7 =>
      intro x7_l2 x7_l3 H locs ls h hP hD hS hl
      rw [P_X11_contractBut_7] at h
      refine lv_iload_n hx hb dX11_contractBut_7 rfl (lv_at hl 3 rfl) ?_
      refine lv_aload_n hx hb dX11_contractBut_8 rfl (lv_at hl 0 rfl) ?_
      refine va_get (D := D) (ci := 10) (v := .ref a_sayings) (C := RX11) (T := TX11) (N := 25) hx hb hts u_X11 hown hK hP 2 rfl rfl 12 (by decide) k_f0 (fun _ h9 => h9) rfl dX11_contractBut_9 ?_
      refine lv_iconst (v := 0) hx hb dX11_contractBut_12 ic_0 ?_
      obtain ⟨hi_13, h⟩ := ck_e h
      refine va_iald hx hb hK hP 0 0 rfl rfl hi_13 dX11_contractBut_13 ?_
      refine lv_icmp_ge (tgt := 44) hx hb dX11_contractBut_14 (by decide) (fun c_14 => ?_) (fun c_14 => ?_)
      · replace h := it_e c_14 h
        refine lv_iload_n hx hb dX11_contractBut_44 rfl (lv_at hl 2 rfl) ?_
        have hz := Option.some.inj h
        subst hz
        exact hret H locs 45 ls (fun ty h => by cases h; rfl) (hP.sub [2, 0, 1] rfl) (hD.sub [2, 0, 1] (by decide) rfl) hS dX11_contractBut_45
      · replace h := if_e c_14 h
        refine lv_iload_n hx hb dX11_contractBut_17 rfl (lv_at hl 2 rfl) ?_
        refine lv_iload_n hx hb dX11_contractBut_18 rfl (lv_at hl 3 rfl) ?_
        refine lv_iload_n hx hb dX11_contractBut_19 rfl (lv_at hl 1 rfl) ?_
        obtain ⟨j36, hj36, h⟩ := jn_e h
        have Jj36 : ∀ (x36_s1 : Int32) (H : Heap) (locs : List Loc) (ls : Array Slot), j36 x36_s1 = some z → va_P D vwCl [(a_sayings, .inl (cI, 3, .inl f_sayings)), (a_leaves, .inl (cI, 24, .inl f_leaves)), (a_o, .inr (10, [.long o_trace, w_o_text, .int o_typed, .int o_choices, .int o_worlds, w_o_values, .int o_at, .int o_start, .int o_sort, .int o_value, .int o_fault, w_o_draft, .ref a_sayings, .ref a_leaves, w_o_signs, w_o_words, w_o_word, w_o_isKept, w_o_some, w_o_every, .int o_deep, .int o_many, w_o_length, w_o_found, .int o_foundMany]))] H → va_D A [(a_sayings, .inl (cI, 3, .inl f_sayings)), (a_leaves, .inl (cI, 24, .inl f_leaves)), (a_o, .inr (10, [.long o_trace, w_o_text, .int o_typed, .int o_choices, .int o_worlds, w_o_values, .int o_at, .int o_start, .int o_sort, .int o_value, .int o_fault, w_o_draft, .ref a_sayings, .ref a_leaves, w_o_signs, w_o_words, w_o_word, w_o_isKept, w_o_some, w_o_every, .int o_deep, .int o_many, w_o_length, w_o_found, .int o_foundMany]))] → va_S A s.heap H locs → lv_has ls 4 [(0, .ref a_o), (1, .int p1), (3, .int x7_l3)] → W p l e rmX11_contractBut s m args below meth c H locs 0 0 Q (F0 m 36 ls [.int x36_s1, .int x7_l2]) := by
          intro x36_s1 H locs ls h hP hD hS hl
          rw [hj36] at h
          refine lv_iand hx hb dX11_contractBut_36 ?_
          refine lv_istore_n (lv' := [(2, .int (x7_l2 &&& x36_s1)), (0, .ref a_o), (1, .int p1), (3, .int x7_l3)]) hx hb dX11_contractBut_37 rfl hl (by decide) rfl (fun ls hl => ?_)
          refine lv_iinc (v := x7_l3 + 1) (lv' := [(3, .int (x7_l3 + 1)), (2, .int (x7_l2 &&& x36_s1)), (0, .ref a_o), (1, .int p1)]) hx hb dX11_contractBut_38 hl (k := 3) rfl (congrArg (x7_l3 + ·) ic_1) (by decide) rfl (fun ls hl => ?_)
          refine lv_goto (tgt := 7) hx hb dX11_contractBut_41 (by decide) ?_
          exact ih7 (x7_l2 &&& x36_s1) (x7_l3 + 1) H locs ls h hP hD hS (lv_sub hl [2, 3, 1, 0] rfl)
        refine lv_icmp_ne (tgt := 30) hx hb dX11_contractBut_20 (by decide) (fun c_20 => ?_) (fun c_20 => ?_)
        · replace h := if_e c_20 h
          refine lv_aload_n hx hb dX11_contractBut_30 rfl (lv_at hl 0 rfl) ?_
          refine va_get (D := D) (ci := 10) (v := .ref a_leaves) (C := RX11) (T := TX11) (N := 25) hx hb hts u_X11 hown hK hP 2 rfl rfl 13 (by decide) k_f1 (fun _ h9 => h9) rfl dX11_contractBut_31 ?_
          refine lv_iload_n hx hb dX11_contractBut_34 rfl (lv_at hl 3 rfl) ?_
          obtain ⟨hi_35, h⟩ := ck_e h
          refine va_iald hx hb hK hP 1 0 rfl rfl hi_35 dX11_contractBut_35 ?_
          exact Jj36 (f_leaves x7_l3.toNatClampNeg) H locs ls h hP hD hS (lv_sub hl [0, 1, 3] rfl)
        · replace h := it_e c_20 h
          refine lv_aload_n hx hb dX11_contractBut_23 rfl (lv_at hl 0 rfl) ?_
          obtain ⟨z_24, hc_24, h⟩ := bd_e h
          refine q_iV (As := []) (rest := [.int x7_l2]) (wF := [(a_sayings, .inl (cI, 3, .inl f_sayings)), (a_leaves, .inl (cI, 24, .inl f_leaves)), (a_o, .inr (10, [.long o_trace, w_o_text, .int o_typed, .int o_choices, .int o_worlds, w_o_values, .int o_at, .int o_start, .int o_sort, .int o_value, .int o_fault, w_o_draft, .ref a_sayings, .ref a_leaves, w_o_signs, w_o_words, w_o_word, w_o_isKept, w_o_some, w_o_every, .int o_deep, .int o_many, w_o_length, w_o_found, .int o_foundMany]))]) hF hA hZ hK hP hD hS (c_X11_allSets l D cI cB cZ a_o o_trace w_o_text o_typed o_choices o_worlds w_o_values o_at o_start o_sort o_value o_fault w_o_draft (.ref a_sayings) (.ref a_leaves) w_o_signs w_o_words w_o_word w_o_isKept w_o_some w_o_every o_deep o_many w_o_length w_o_found o_foundMany z_24 hc_24) rfl gX11_contractBut_X11_allSets hdX11_allSets ⟨rfl, rfl⟩ (Nat.le_of_ble_eq_true rfl) (Nat.le_of_ble_eq_true rfl) 10 0 rfl rfl [2] [0, 1] rfl rfl rfl rfl (by decide) rfl hl.1 rfl (Nat.le_of_ble_eq_true rfl) (Nat.zero_le _) (Nat.zero_le _) dX11_contractBut_24 (fun H locs hP hD hS => ?_)
          refine lv_goto (tgt := 36) hx hb dX11_contractBut_27 (by decide) ?_
          exact Jj36 z_24 H locs ls h hP hD hS (lv_sub hl [0, 1, 3] rfl)
  exact L7 QF z_1 0 H locs ls h hP hD hS (lv_sub hl [2, 3, 1, 0] rfl)
abbrev rmX11_contract : Room := { frames := 2, cells := 0, slots := 0, locals := 43 }
theorem hdX11_contract : yX11_contract.cls = RX11 ∧ yX11_contract.cls ≠ "java/lang/invoke/MethodHandle" ∧ yX11_contract.cls ≠ "java/lang/invoke/VarHandle" ∧ (parseMethodDescriptor yX11_contract.desc).map (fun d => d.parameters.length) = some 0 := by decide +kernel
set_option maxRecDepth 100000 in
set_option maxHeartbeats 4000000 in
theorem c_X11_contract (l : Launch) (D : va_G) (cI cB cZ : ClassId) (a_o : Nat) (o_trace : Int64) (w_o_text : Value) (o_typed : Int32) (o_choices : Int32) (o_worlds : Int32) (w_o_values : Value) (o_at : Int32) (o_start : Int32) (o_sort : Int32) (o_value : Int32) (o_fault : Int32) (w_o_draft : Value) (w_o_signs : Value) (w_o_words : Value) (w_o_word : Value) (w_o_isKept : Value) (w_o_some : Value) (w_o_every : Value) (o_deep : Int32) (o_many : Int32) (w_o_length : Value) (w_o_found : Value) (o_foundMany : Int32) (a_sayings : Nat) (f_sayings : Nat → Int32) (a_leaves : Nat) (f_leaves : Nat → Int32) (z : Int32) (h : P_X11_contract o_worlds f_sayings f_leaves = some z) : KI l yX11_contract wsX11_contract rmX11_contract D [(cI, .int), (cB, .byte), (cZ, .boolean)] [.ref a_o] [(a_o, .inr (10, [.long o_trace, w_o_text, .int o_typed, .int o_choices, .int o_worlds, w_o_values, .int o_at, .int o_start, .int o_sort, .int o_value, .int o_fault, w_o_draft, .ref a_sayings, .ref a_leaves, w_o_signs, w_o_words, w_o_word, w_o_isKept, w_o_some, w_o_every, .int o_deep, .int o_many, w_o_length, w_o_found, .int o_foundMany])), (a_sayings, .inl (cI, 3, .inl f_sayings)), (a_leaves, .inl (cI, 24, .inl f_leaves))] [(a_o, .inr (10, [.long o_trace, w_o_text, .int o_typed, .int o_choices, .int o_worlds, w_o_values, .int o_at, .int o_start, .int o_sort, .int o_value, .int o_fault, w_o_draft, .ref a_sayings, .ref a_leaves, w_o_signs, w_o_words, w_o_word, w_o_isKept, w_o_some, w_o_every, .int o_deep, .int o_many, w_o_length, w_o_found, .int o_foundMany])), (a_sayings, .inl (cI, 3, .inl f_sayings)), (a_leaves, .inl (cI, 24, .inl f_leaves))] z := by
  refine KI_of (own := RX11) (cc := cX11_contract) (maxL := 1) (ret := some .int) (by decide) rfl rfl (Nat.le_of_ble_eq_true rfl) (Or.inl rfl) ?_
  intro p e s m args below meth c A Q hx hb hml hown hts hA hZ hK hret H locs ls hP hD hS hl
  have hl : lv_has ls 1 [(0, .ref a_o)] := hl
  have hF : CallFix p m c cX11_contract 1 s args wsX11_contract RX11 := ⟨hx, hb, hml, hown, hts⟩
  unfold P_X11_contract at h
  refine lv_aload_n hx hb dX11_contract_0 rfl (lv_at hl 0 rfl) ?_
  refine lv_bipush (v := (-9)) hx hb dX11_contract_1 bc_m9 ?_
  obtain ⟨z_3, hc_3, h⟩ := bd_e h
  refine q_iV (As := [.int (-9)]) (rest := []) (wF := [(a_o, .inr (10, [.long o_trace, w_o_text, .int o_typed, .int o_choices, .int o_worlds, w_o_values, .int o_at, .int o_start, .int o_sort, .int o_value, .int o_fault, w_o_draft, .ref a_sayings, .ref a_leaves, w_o_signs, w_o_words, w_o_word, w_o_isKept, w_o_some, w_o_every, .int o_deep, .int o_many, w_o_length, w_o_found, .int o_foundMany])), (a_sayings, .inl (cI, 3, .inl f_sayings)), (a_leaves, .inl (cI, 24, .inl f_leaves))]) hF hA hZ hK hP hD hS (c_X11_contractBut l D cI cB cZ a_o o_trace w_o_text o_typed o_choices o_worlds w_o_values o_at o_start o_sort o_value o_fault w_o_draft w_o_signs w_o_words w_o_word w_o_isKept w_o_some w_o_every o_deep o_many w_o_length w_o_found o_foundMany a_sayings f_sayings a_leaves f_leaves (-9) z_3 hc_3) rfl gX11_contract_X11_contractBut hdX11_contractBut ⟨rfl, rfl⟩ (Nat.le_of_ble_eq_true rfl) (Nat.le_of_ble_eq_true rfl) 10 0 rfl rfl [0, 1, 2] [] rfl rfl rfl rfl (by decide) rfl hl.1 rfl (Nat.le_of_ble_eq_true rfl) (Nat.zero_le _) (Nat.zero_le _) dX11_contract_3 (fun H locs hP hD hS => ?_)
  have hz := Option.some.inj h
  subst hz
  exact hret H locs 6 ls (fun ty h => by cases h; rfl) hP hD hS dX11_contract_6
abbrev rmX11_gap : Room := { frames := 2, cells := 0, slots := 0, locals := 43 }
theorem hdX11_gap : yX11_gap.cls = RX11 ∧ yX11_gap.cls ≠ "java/lang/invoke/MethodHandle" ∧ yX11_gap.cls ≠ "java/lang/invoke/VarHandle" ∧ (parseMethodDescriptor yX11_gap.desc).map (fun d => d.parameters.length) = some 1 := by decide +kernel
set_option maxRecDepth 100000 in
set_option maxHeartbeats 4000000 in
theorem c_X11_gap (l : Launch) (D : va_G) (cI cB cZ : ClassId) (a_o : Nat) (o_trace : Int64) (w_o_text : Value) (o_typed : Int32) (o_choices : Int32) (o_worlds : Int32) (w_o_values : Value) (o_at : Int32) (o_start : Int32) (o_sort : Int32) (o_value : Int32) (o_fault : Int32) (w_o_draft : Value) (w_o_signs : Value) (w_o_words : Value) (w_o_word : Value) (w_o_isKept : Value) (w_o_some : Value) (w_o_every : Value) (o_deep : Int32) (o_many : Int32) (w_o_length : Value) (w_o_found : Value) (o_foundMany : Int32) (a_sayings : Nat) (f_sayings : Nat → Int32) (a_leaves : Nat) (f_leaves : Nat → Int32) (p1 : Int32) (z : Int32) (h : P_X11_gap p1 o_worlds f_sayings f_leaves = some z) : KI l yX11_gap wsX11_gap rmX11_gap D [(cI, .int), (cB, .byte), (cZ, .boolean)] [.ref a_o, .int p1] [(a_o, .inr (10, [.long o_trace, w_o_text, .int o_typed, .int o_choices, .int o_worlds, w_o_values, .int o_at, .int o_start, .int o_sort, .int o_value, .int o_fault, w_o_draft, .ref a_sayings, .ref a_leaves, w_o_signs, w_o_words, w_o_word, w_o_isKept, w_o_some, w_o_every, .int o_deep, .int o_many, w_o_length, w_o_found, .int o_foundMany])), (a_sayings, .inl (cI, 3, .inl f_sayings)), (a_leaves, .inl (cI, 24, .inl f_leaves))] [(a_o, .inr (10, [.long o_trace, w_o_text, .int o_typed, .int o_choices, .int o_worlds, w_o_values, .int o_at, .int o_start, .int o_sort, .int o_value, .int o_fault, w_o_draft, .ref a_sayings, .ref a_leaves, w_o_signs, w_o_words, w_o_word, w_o_isKept, w_o_some, w_o_every, .int o_deep, .int o_many, w_o_length, w_o_found, .int o_foundMany])), (a_sayings, .inl (cI, 3, .inl f_sayings)), (a_leaves, .inl (cI, 24, .inl f_leaves))] z := by
  refine KI_of (own := RX11) (cc := cX11_gap) (maxL := 2) (ret := some .int) (by decide) rfl rfl (Nat.le_of_ble_eq_true rfl) (Or.inl rfl) ?_
  intro p e s m args below meth c A Q hx hb hml hown hts hA hZ hK hret H locs ls hP hD hS hl
  have hl : lv_has ls 2 [(0, .ref a_o), (1, .int p1)] := hl
  have hF : CallFix p m c cX11_gap 2 s args wsX11_gap RX11 := ⟨hx, hb, hml, hown, hts⟩
  unfold P_X11_gap at h
  refine lv_aload_n hx hb dX11_gap_0 rfl (lv_at hl 0 rfl) ?_
  refine lv_iload_n hx hb dX11_gap_1 rfl (lv_at hl 1 rfl) ?_
  obtain ⟨z_2, hc_2, h⟩ := bd_e h
  refine q_iV (As := [.int p1]) (rest := []) (wF := [(a_sayings, .inl (cI, 3, .inl f_sayings)), (a_leaves, .inl (cI, 24, .inl f_leaves)), (a_o, .inr (10, [.long o_trace, w_o_text, .int o_typed, .int o_choices, .int o_worlds, w_o_values, .int o_at, .int o_start, .int o_sort, .int o_value, .int o_fault, w_o_draft, .ref a_sayings, .ref a_leaves, w_o_signs, w_o_words, w_o_word, w_o_isKept, w_o_some, w_o_every, .int o_deep, .int o_many, w_o_length, w_o_found, .int o_foundMany]))]) hF hA hZ hK hP hD hS (c_X11_isSet l D cI cB cZ a_o o_trace w_o_text o_typed o_choices o_worlds w_o_values o_at o_start o_sort o_value o_fault w_o_draft (.ref a_sayings) (.ref a_leaves) w_o_signs w_o_words w_o_word w_o_isKept w_o_some w_o_every o_deep o_many w_o_length w_o_found o_foundMany p1 z_2 hc_2) rfl gX11_gap_X11_isSet hdX11_isSet ⟨rfl, rfl⟩ (Nat.le_of_ble_eq_true rfl) (Nat.le_of_ble_eq_true rfl) 10 0 rfl rfl [0] [1, 2] rfl rfl rfl rfl (by decide) rfl hl.1 rfl (Nat.le_of_ble_eq_true rfl) (Nat.zero_le _) (Nat.zero_le _) dX11_gap_2 (fun H locs hP hD hS => ?_)
  refine lv_if_eq (tgt := 21) hx hb dX11_gap_5 (by decide) (fun c_5 => ?_) (fun c_5 => ?_)
  · replace h := it_e c_5 h
    refine lv_iconst (v := (-1)) hx hb dX11_gap_21 ic_m1 ?_
    have hz := Option.some.inj h
    subst hz
    exact hret H locs 22 ls (fun ty h => by cases h; rfl) (hP.sub [2, 0, 1] rfl) (hD.sub [2, 0, 1] (by decide) rfl) hS dX11_gap_22
  · replace h := if_e c_5 h
    refine lv_aload_n hx hb dX11_gap_8 rfl (lv_at hl 0 rfl) ?_
    refine lv_bipush (v := (-9)) hx hb dX11_gap_9 bc_m9 ?_
    obtain ⟨z_11, hc_11, h⟩ := bd_e h
    refine q_iV (As := [.int (-9)]) (rest := []) (wF := [(a_o, .inr (10, [.long o_trace, w_o_text, .int o_typed, .int o_choices, .int o_worlds, w_o_values, .int o_at, .int o_start, .int o_sort, .int o_value, .int o_fault, w_o_draft, .ref a_sayings, .ref a_leaves, w_o_signs, w_o_words, w_o_word, w_o_isKept, w_o_some, w_o_every, .int o_deep, .int o_many, w_o_length, w_o_found, .int o_foundMany])), (a_sayings, .inl (cI, 3, .inl f_sayings)), (a_leaves, .inl (cI, 24, .inl f_leaves))]) hF hA hZ hK hP hD hS (c_X11_contractBut l D cI cB cZ a_o o_trace w_o_text o_typed o_choices o_worlds w_o_values o_at o_start o_sort o_value o_fault w_o_draft w_o_signs w_o_words w_o_word w_o_isKept w_o_some w_o_every o_deep o_many w_o_length w_o_found o_foundMany a_sayings f_sayings a_leaves f_leaves (-9) z_11 hc_11) rfl gX11_gap_X11_contractBut hdX11_contractBut ⟨rfl, rfl⟩ (Nat.le_of_ble_eq_true rfl) (Nat.le_of_ble_eq_true rfl) 10 0 rfl rfl [2, 0, 1] [] rfl rfl rfl rfl (by decide) rfl hl.1 rfl (Nat.le_of_ble_eq_true rfl) (Nat.zero_le _) (Nat.zero_le _) dX11_gap_11 (fun H locs hP hD hS => ?_)
    refine lv_iload_n hx hb dX11_gap_14 rfl (lv_at hl 1 rfl) ?_
    refine lv_iconst (v := (-1)) hx hb dX11_gap_15 ic_m1 ?_
    refine lv_ixor hx hb dX11_gap_16 ?_
    refine lv_iand hx hb dX11_gap_17 ?_
    refine lv_goto (tgt := 22) hx hb dX11_gap_18 (by decide) ?_
    have hz := Option.some.inj h
    subst hz
    exact hret H locs 22 ls (fun ty h => by cases h; rfl) hP hD hS dX11_gap_22
abbrev rmX11_clause : Room := { frames := 3, cells := 0, slots := 0, locals := 73 }
theorem hdX11_clause : yX11_clause.cls = RX11 ∧ yX11_clause.cls ≠ "java/lang/invoke/MethodHandle" ∧ yX11_clause.cls ≠ "java/lang/invoke/VarHandle" ∧ (parseMethodDescriptor yX11_clause.desc).map (fun d => d.parameters.length) = some 2 := by decide +kernel
set_option maxRecDepth 100000 in
set_option maxHeartbeats 4000000 in
theorem c_X11_clause (l : Launch) (D : va_G) (cI cB cZ : ClassId) (a_o : Nat) (o_trace : Int64) (w_o_text : Value) (o_typed : Int32) (o_choices : Int32) (o_worlds : Int32) (o_at : Int32) (o_start : Int32) (o_sort : Int32) (o_value : Int32) (o_fault : Int32) (w_o_draft : Value) (w_o_signs : Value) (w_o_isKept : Value) (w_o_some : Value) (w_o_every : Value) (o_deep : Int32) (o_many : Int32) (o_foundMany : Int32) (a_values : Nat) (f_values : Nat → Int32) (a_sayings : Nat) (f_sayings : Nat → Int32) (a_leaves : Nat) (f_leaves : Nat → Int32) (a_words : Nat) (f_words : Nat → Int32) (a_word : Nat) (f_word : Nat → Int32) (a_length : Nat) (f_length : Nat → Int32) (a_found : Nat) (f_found : Nat → Int32) (p1 : Int32) (p2 : Int32) (z : Int32 × Int32 × (Nat → Int32) × (Nat → Int32)) (h : P_X11_clause p1 p2 o_choices o_worlds o_foundMany f_values f_sayings f_leaves f_words f_word f_length f_found = some z) : KI l yX11_clause wsX11_clause rmX11_clause D [(cI, .int), (cB, .byte), (cZ, .boolean)] [.ref a_o, .int p1, .int p2] [(a_o, .inr (10, [.long o_trace, w_o_text, .int o_typed, .int o_choices, .int o_worlds, .ref a_values, .int o_at, .int o_start, .int o_sort, .int o_value, .int o_fault, w_o_draft, .ref a_sayings, .ref a_leaves, w_o_signs, .ref a_words, .ref a_word, w_o_isKept, w_o_some, w_o_every, .int o_deep, .int o_many, .ref a_length, .ref a_found, .int o_foundMany])), (a_values, .inl (cI, 3, .inl f_values)), (a_sayings, .inl (cI, 3, .inl f_sayings)), (a_leaves, .inl (cI, 24, .inl f_leaves)), (a_words, .inl (cI, 3, .inl f_words)), (a_word, .inl (cI, 9, .inl f_word)), (a_length, .inl (cI, 512, .inl f_length)), (a_found, .inl (cI, 512, .inl f_found))] [(a_o, .inr (10, [.long o_trace, w_o_text, .int o_typed, .int o_choices, .int o_worlds, .ref a_values, .int o_at, .int o_start, .int o_sort, .int o_value, .int o_fault, w_o_draft, .ref a_sayings, .ref a_leaves, w_o_signs, .ref a_words, .ref a_word, w_o_isKept, w_o_some, w_o_every, .int o_deep, .int o_many, .ref a_length, .ref a_found, .int z.2.1])), (a_values, .inl (cI, 3, .inl f_values)), (a_sayings, .inl (cI, 3, .inl f_sayings)), (a_leaves, .inl (cI, 24, .inl f_leaves)), (a_words, .inl (cI, 3, .inl f_words)), (a_word, .inl (cI, 9, .inl f_word)), (a_length, .inl (cI, 512, .inl z.2.2.1)), (a_found, .inl (cI, 512, .inl z.2.2.2))] z.1 := by
  refine KI_of (own := RX11) (cc := cX11_clause) (maxL := 7) (ret := some .int) (by decide) rfl rfl (Nat.le_of_ble_eq_true rfl) (Or.inl rfl) ?_
  intro p e s m args below meth c A Q hx hb hml hown hts hA hZ hK hret H locs ls hP hD hS hl
  have hl : lv_has ls 7 [(0, .ref a_o), (1, .int p1), (2, .int p2)] := hl
  have hF : CallFix p m c cX11_clause 7 s args wsX11_clause RX11 := ⟨hx, hb, hml, hown, hts⟩
  have u_X11 : ∀ w ∈ u_ws RX11 TX11 25, w ∈ wsX11_clause := by decide +kernel
  have k_f0 := hts (.fieldLink RX11 45 "NoWordNoModel" "length" "[I") (by decide +kernel)
  unfold P_X11_clause at h
  refine lv_aload_n hx hb dX11_clause_0 rfl (lv_at hl 0 rfl) ?_
  refine lv_iload_n hx hb dX11_clause_1 rfl (lv_at hl 1 rfl) ?_
  obtain ⟨z_2, hc_2, h⟩ := bd_e h
  refine q_iV (As := [.int p1]) (rest := []) (wF := [(a_values, .inl (cI, 3, .inl f_values)), (a_sayings, .inl (cI, 3, .inl f_sayings)), (a_leaves, .inl (cI, 24, .inl f_leaves)), (a_words, .inl (cI, 3, .inl f_words)), (a_word, .inl (cI, 9, .inl f_word)), (a_length, .inl (cI, 512, .inl f_length)), (a_found, .inl (cI, 512, .inl f_found)), (a_o, .inr (10, [.long o_trace, w_o_text, .int o_typed, .int o_choices, .int o_worlds, .ref a_values, .int o_at, .int o_start, .int o_sort, .int o_value, .int o_fault, w_o_draft, .ref a_sayings, .ref a_leaves, w_o_signs, .ref a_words, .ref a_word, w_o_isKept, w_o_some, w_o_every, .int o_deep, .int o_many, .ref a_length, .ref a_found, .int o_foundMany]))]) hF hA hZ hK hP hD hS (c_X11_isSet l D cI cB cZ a_o o_trace w_o_text o_typed o_choices o_worlds (.ref a_values) o_at o_start o_sort o_value o_fault w_o_draft (.ref a_sayings) (.ref a_leaves) w_o_signs (.ref a_words) (.ref a_word) w_o_isKept w_o_some w_o_every o_deep o_many (.ref a_length) (.ref a_found) o_foundMany p1 z_2 hc_2) rfl gX11_clause_X11_isSet hdX11_isSet ⟨rfl, rfl⟩ (Nat.le_of_ble_eq_true rfl) (Nat.le_of_ble_eq_true rfl) 10 0 rfl rfl [0] [1, 2, 3, 4, 5, 6, 7] rfl rfl rfl rfl (by decide) rfl hl.1 rfl (Nat.le_of_ble_eq_true rfl) (Nat.zero_le _) (Nat.zero_le _) dX11_clause_2 (fun H locs hP hD hS => ?_)
  refine lv_if_eq (tgt := 17) hx hb dX11_clause_5 (by decide) (fun c_5 => ?_) (fun c_5 => ?_)
  · replace h := it_e c_5 h
    refine lv_iconst (v := (-1)) hx hb dX11_clause_17 ic_m1 ?_
    have hz := Option.some.inj h
    subst hz
    exact hret H locs 18 ls (fun ty h => by cases h; rfl) (hP.sub [7, 0, 1, 2, 3, 4, 5, 6] rfl) (hD.sub [7, 0, 1, 2, 3, 4, 5, 6] (by decide) rfl) hS dX11_clause_18
  · replace h := if_e c_5 h
    refine lv_iload_n hx hb dX11_clause_8 rfl (lv_at hl 2 rfl) ?_
    refine lv_iconst (v := 0) hx hb dX11_clause_9 ic_0 ?_
    refine lv_iconst (v := 1) hx hb dX11_clause_10 ic_1 ?_
    obtain ⟨z_11, hc_11, h⟩ := bd_e h
    refine q_iS (As := [.int p2, .int 0, .int 1]) (rest := []) (wF := [(a_values, .inl (cI, 3, .inl f_values)), (a_sayings, .inl (cI, 3, .inl f_sayings)), (a_leaves, .inl (cI, 24, .inl f_leaves)), (a_words, .inl (cI, 3, .inl f_words)), (a_word, .inl (cI, 9, .inl f_word)), (a_length, .inl (cI, 512, .inl f_length)), (a_found, .inl (cI, 512, .inl f_found)), (a_o, .inr (10, [.long o_trace, w_o_text, .int o_typed, .int o_choices, .int o_worlds, .ref a_values, .int o_at, .int o_start, .int o_sort, .int o_value, .int o_fault, w_o_draft, .ref a_sayings, .ref a_leaves, w_o_signs, .ref a_words, .ref a_word, w_o_isKept, w_o_some, w_o_every, .int o_deep, .int o_many, .ref a_length, .ref a_found, .int o_foundMany]))]) hF hA hZ hK hP hD hS (c_X11_in l D cI cB cZ p2 0 1 z_11 hc_11) rfl gX11_clause_X11_in hdX11_in ⟨rfl, rfl⟩ (Nat.le_of_ble_eq_true rfl) (Nat.le_of_ble_eq_true rfl) [] [0, 1, 2, 3, 4, 5, 6, 7] rfl rfl rfl rfl (by decide) rfl hl.1 rfl (Nat.le_of_ble_eq_true rfl) (Nat.zero_le _) (Nat.zero_le _) dX11_clause_11 (fun H locs hP hD hS => ?_)
    refine lv_if_ne (tgt := 19) hx hb dX11_clause_14 (by decide) (fun c_14 => ?_) (fun c_14 => ?_)
    · replace h := if_e c_14 h
      refine lv_aload_n hx hb dX11_clause_19 rfl (lv_at hl 0 rfl) ?_
      refine lv_iconst (v := (-1)) hx hb dX11_clause_20 ic_m1 ?_
      obtain ⟨z_21, hc_21, h⟩ := bd_e h
      refine q_vV (As := [.int (-1)]) (rest := []) (wF := [(a_sayings, .inl (cI, 3, .inl f_sayings)), (a_leaves, .inl (cI, 24, .inl f_leaves)), (a_o, .inr (10, [.long o_trace, w_o_text, .int o_typed, .int o_choices, .int o_worlds, .ref a_values, .int o_at, .int o_start, .int o_sort, .int o_value, .int o_fault, w_o_draft, .ref a_sayings, .ref a_leaves, w_o_signs, .ref a_words, .ref a_word, w_o_isKept, w_o_some, w_o_every, .int o_deep, .int o_many, .ref a_length, .ref a_found, .int z_21.1])), (a_values, .inl (cI, 3, .inl f_values)), (a_words, .inl (cI, 3, .inl f_words)), (a_word, .inl (cI, 9, .inl f_word)), (a_length, .inl (cI, 512, .inl z_21.2.1)), (a_found, .inl (cI, 512, .inl z_21.2.2))]) hF hA hZ hK hP hD hS (c_X11_findAll l D cI cB cZ a_o o_trace w_o_text o_typed o_choices o_worlds o_at o_start o_sort o_value o_fault w_o_draft (.ref a_sayings) (.ref a_leaves) w_o_signs w_o_isKept w_o_some w_o_every o_deep o_many o_foundMany a_values f_values a_words f_words a_word f_word a_length f_length a_found f_found (-1) z_21 hc_21) rfl gX11_clause_X11_findAll hdX11_findAll ⟨rfl, rfl⟩ (Nat.le_of_ble_eq_true rfl) (Nat.le_of_ble_eq_true rfl) 10 0 rfl rfl [7, 0, 3, 4, 5, 6] [1, 2] rfl rfl rfl rfl (by decide) rfl hl.1 rfl (Nat.le_of_ble_eq_true rfl) (Nat.zero_le _) (Nat.zero_le _) dX11_clause_21 (fun H locs hP hD hS => ?_)
      refine lv_aload_n hx hb dX11_clause_24 rfl (lv_at hl 0 rfl) ?_
      refine lv_bipush (v := (-9)) hx hb dX11_clause_25 bc_m9 ?_
      obtain ⟨z_27, hc_27, h⟩ := bd_e h
      refine q_iV (As := [.int (-9)]) (rest := []) (wF := [(a_values, .inl (cI, 3, .inl f_values)), (a_words, .inl (cI, 3, .inl f_words)), (a_word, .inl (cI, 9, .inl f_word)), (a_length, .inl (cI, 512, .inl z_21.2.1)), (a_found, .inl (cI, 512, .inl z_21.2.2)), (a_o, .inr (10, [.long o_trace, w_o_text, .int o_typed, .int o_choices, .int o_worlds, .ref a_values, .int o_at, .int o_start, .int o_sort, .int o_value, .int o_fault, w_o_draft, .ref a_sayings, .ref a_leaves, w_o_signs, .ref a_words, .ref a_word, w_o_isKept, w_o_some, w_o_every, .int o_deep, .int o_many, .ref a_length, .ref a_found, .int z_21.1])), (a_sayings, .inl (cI, 3, .inl f_sayings)), (a_leaves, .inl (cI, 24, .inl f_leaves))]) hF hA hZ hK hP hD hS (c_X11_contractBut l D cI cB cZ a_o o_trace w_o_text o_typed o_choices o_worlds (.ref a_values) o_at o_start o_sort o_value o_fault w_o_draft w_o_signs (.ref a_words) (.ref a_word) w_o_isKept w_o_some w_o_every o_deep o_many (.ref a_length) (.ref a_found) z_21.1 a_sayings f_sayings a_leaves f_leaves (-9) z_27 hc_27) rfl gX11_clause_X11_contractBut hdX11_contractBut ⟨rfl, rfl⟩ (Nat.le_of_ble_eq_true rfl) (Nat.le_of_ble_eq_true rfl) 10 0 rfl rfl [2, 0, 1] [3, 4, 5, 6, 7] rfl rfl rfl rfl (by decide) rfl hl.1 rfl (Nat.le_of_ble_eq_true rfl) (Nat.zero_le _) (Nat.zero_le _) dX11_clause_27 (fun H locs hP hD hS => ?_)
      refine lv_istore_n (lv' := [(3, .int z_27), (0, .ref a_o), (1, .int p1), (2, .int p2)]) hx hb dX11_clause_30 rfl hl (by decide) rfl (fun ls hl => ?_)
      refine lv_bipush (v := (-9)) hx hb dX11_clause_31 bc_m9 ?_
      refine lv_istore (lv' := [(4, .int (-9)), (3, .int z_27), (0, .ref a_o), (1, .int p1), (2, .int p2)]) hx hb dX11_clause_33 hl (by decide) rfl (fun ls hl => ?_)
      refine lv_iconst (v := 0) hx hb dX11_clause_35 ic_0 ?_
      refine lv_istore (lv' := [(5, .int 0), (4, .int (-9)), (3, .int z_27), (0, .ref a_o), (1, .int p1), (2, .int p2)]) hx hb dX11_clause_36 hl (by decide) rfl (fun ls hl => ?_)
      obtain ⟨k118, hk118, h⟩ := jn_e h
      have Jk118 : ∀ (x118_l4 : Int32) (H : Heap) (locs : List Loc) (ls : Array Slot), k118 x118_l4 = some z → va_P D vwCl [(a_values, .inl (cI, 3, .inl f_values)), (a_words, .inl (cI, 3, .inl f_words)), (a_word, .inl (cI, 9, .inl f_word)), (a_length, .inl (cI, 512, .inl z_21.2.1)), (a_found, .inl (cI, 512, .inl z_21.2.2)), (a_o, .inr (10, [.long o_trace, w_o_text, .int o_typed, .int o_choices, .int o_worlds, .ref a_values, .int o_at, .int o_start, .int o_sort, .int o_value, .int o_fault, w_o_draft, .ref a_sayings, .ref a_leaves, w_o_signs, .ref a_words, .ref a_word, w_o_isKept, w_o_some, w_o_every, .int o_deep, .int o_many, .ref a_length, .ref a_found, .int z_21.1])), (a_sayings, .inl (cI, 3, .inl f_sayings)), (a_leaves, .inl (cI, 24, .inl f_leaves))] H → va_D A [(a_values, .inl (cI, 3, .inl f_values)), (a_words, .inl (cI, 3, .inl f_words)), (a_word, .inl (cI, 9, .inl f_word)), (a_length, .inl (cI, 512, .inl z_21.2.1)), (a_found, .inl (cI, 512, .inl z_21.2.2)), (a_o, .inr (10, [.long o_trace, w_o_text, .int o_typed, .int o_choices, .int o_worlds, .ref a_values, .int o_at, .int o_start, .int o_sort, .int o_value, .int o_fault, w_o_draft, .ref a_sayings, .ref a_leaves, w_o_signs, .ref a_words, .ref a_word, w_o_isKept, w_o_some, w_o_every, .int o_deep, .int o_many, .ref a_length, .ref a_found, .int z_21.1])), (a_sayings, .inl (cI, 3, .inl f_sayings)), (a_leaves, .inl (cI, 24, .inl f_leaves))] → va_S A s.heap H locs → lv_has ls 7 [(0, .ref a_o), (2, .int p2), (4, .int x118_l4)] → W p l e rmX11_clause s m args below meth c H locs 0 0 Q (F0 m 118 ls []) := by
        intro x118_l4 H locs ls h hP hD hS hl
        rw [hk118] at h
        refine lv_iload hx hb dX11_clause_118 (lv_at hl 2 rfl) ?_
        refine lv_bipush (v := (-9)) hx hb dX11_clause_120 bc_m9 ?_
        obtain ⟨j129, hj129, h⟩ := jn_e h
        have Jj129 : ∀ (H : Heap) (locs : List Loc) (ls : Array Slot), j129 () = some z → va_P D vwCl [(a_values, .inl (cI, 3, .inl f_values)), (a_words, .inl (cI, 3, .inl f_words)), (a_word, .inl (cI, 9, .inl f_word)), (a_length, .inl (cI, 512, .inl z_21.2.1)), (a_found, .inl (cI, 512, .inl z_21.2.2)), (a_o, .inr (10, [.long o_trace, w_o_text, .int o_typed, .int o_choices, .int o_worlds, .ref a_values, .int o_at, .int o_start, .int o_sort, .int o_value, .int o_fault, w_o_draft, .ref a_sayings, .ref a_leaves, w_o_signs, .ref a_words, .ref a_word, w_o_isKept, w_o_some, w_o_every, .int o_deep, .int o_many, .ref a_length, .ref a_found, .int z_21.1])), (a_sayings, .inl (cI, 3, .inl f_sayings)), (a_leaves, .inl (cI, 24, .inl f_leaves))] H → va_D A [(a_values, .inl (cI, 3, .inl f_values)), (a_words, .inl (cI, 3, .inl f_words)), (a_word, .inl (cI, 9, .inl f_word)), (a_length, .inl (cI, 512, .inl z_21.2.1)), (a_found, .inl (cI, 512, .inl z_21.2.2)), (a_o, .inr (10, [.long o_trace, w_o_text, .int o_typed, .int o_choices, .int o_worlds, .ref a_values, .int o_at, .int o_start, .int o_sort, .int o_value, .int o_fault, w_o_draft, .ref a_sayings, .ref a_leaves, w_o_signs, .ref a_words, .ref a_word, w_o_isKept, w_o_some, w_o_every, .int o_deep, .int o_many, .ref a_length, .ref a_found, .int z_21.1])), (a_sayings, .inl (cI, 3, .inl f_sayings)), (a_leaves, .inl (cI, 24, .inl f_leaves))] → va_S A s.heap H locs → lv_has ls 7 [(4, .int x118_l4)] → W p l e rmX11_clause s m args below meth c H locs 0 0 Q (F0 m 129 ls []) := by
          intro H locs ls h hP hD hS hl
          rw [hj129] at h
          refine lv_iload hx hb dX11_clause_129 (lv_at hl 0 rfl) ?_
          refine lv_goto (tgt := 141) hx hb dX11_clause_131 (by decide) ?_
          have hz := Option.some.inj h
          subst hz
          exact hret H locs 141 ls (fun ty h => by cases h; rfl) (hP.sub [5, 0, 6, 7, 1, 2, 3, 4] rfl) (hD.sub [5, 0, 6, 7, 1, 2, 3, 4] (by decide) rfl) hS dX11_clause_141
        refine lv_icmp_eq (tgt := 129) hx hb dX11_clause_122 (by decide) (fun c_122 => ?_) (fun c_122 => ?_)
        · replace h := it_e c_122 h
          exact Jj129  H locs ls h hP hD hS (lv_sub hl [2] rfl)
        · replace h := if_e c_122 h
          refine lv_iload_n hx hb dX11_clause_125 rfl (lv_at hl 1 rfl) ?_
          refine lv_if_ne (tgt := 134) hx hb dX11_clause_126 (by decide) (fun c_126 => ?_) (fun c_126 => ?_)
          · replace h := if_e c_126 h
            refine lv_aload_n hx hb dX11_clause_134 rfl (lv_at hl 0 rfl) ?_
            refine va_get (D := D) (ci := 10) (v := .ref a_length) (C := RX11) (T := TX11) (N := 25) hx hb hts u_X11 hown hK hP 5 rfl rfl 22 (by decide) k_f0 (fun _ h9 => h9) rfl dX11_clause_135 ?_
            refine lv_iload hx hb dX11_clause_138 (lv_at hl 2 rfl) ?_
            obtain ⟨hi_140, h⟩ := ck_e h
            refine va_iald hx hb hK hP 3 0 rfl rfl hi_140 dX11_clause_140 ?_
            have hz := Option.some.inj h
            subst hz
            exact hret H locs 141 ls (fun ty h => by cases h; rfl) (hP.sub [5, 0, 6, 7, 1, 2, 3, 4] rfl) (hD.sub [5, 0, 6, 7, 1, 2, 3, 4] (by decide) rfl) hS dX11_clause_141
          · replace h := it_e c_126 h
            exact Jj129  H locs ls h hP hD hS (lv_sub hl [2] rfl)
      have L38 : ∀ (n : Nat), ∀ (x38_l4 : Int32) (x38_l5 : Int32) (H : Heap) (locs : List Loc) (ls : Array Slot), P_X11_clause_38 p1 o_worlds z_21 z_27 k118 n x38_l4 x38_l5 = some z → va_P D vwCl [(a_values, .inl (cI, 3, .inl f_values)), (a_words, .inl (cI, 3, .inl f_words)), (a_word, .inl (cI, 9, .inl f_word)), (a_length, .inl (cI, 512, .inl z_21.2.1)), (a_found, .inl (cI, 512, .inl z_21.2.2)), (a_o, .inr (10, [.long o_trace, w_o_text, .int o_typed, .int o_choices, .int o_worlds, .ref a_values, .int o_at, .int o_start, .int o_sort, .int o_value, .int o_fault, w_o_draft, .ref a_sayings, .ref a_leaves, w_o_signs, .ref a_words, .ref a_word, w_o_isKept, w_o_some, w_o_every, .int o_deep, .int o_many, .ref a_length, .ref a_found, .int z_21.1])), (a_sayings, .inl (cI, 3, .inl f_sayings)), (a_leaves, .inl (cI, 24, .inl f_leaves))] H → va_D A [(a_values, .inl (cI, 3, .inl f_values)), (a_words, .inl (cI, 3, .inl f_words)), (a_word, .inl (cI, 9, .inl f_word)), (a_length, .inl (cI, 512, .inl z_21.2.1)), (a_found, .inl (cI, 512, .inl z_21.2.2)), (a_o, .inr (10, [.long o_trace, w_o_text, .int o_typed, .int o_choices, .int o_worlds, .ref a_values, .int o_at, .int o_start, .int o_sort, .int o_value, .int o_fault, w_o_draft, .ref a_sayings, .ref a_leaves, w_o_signs, .ref a_words, .ref a_word, w_o_isKept, w_o_some, w_o_every, .int o_deep, .int o_many, .ref a_length, .ref a_found, .int z_21.1])), (a_sayings, .inl (cI, 3, .inl f_sayings)), (a_leaves, .inl (cI, 24, .inl f_leaves))] → va_S A s.heap H locs → lv_has ls 7 [(0, .ref a_o), (1, .int p1), (2, .int p2), (3, .int z_27), (4, .int x38_l4), (5, .int x38_l5)] → W p l e rmX11_clause s m args below meth c H locs 0 0 Q (F0 m 38 ls []) := by
        intro n
        induction n with
        | zero =>
          intro x38_l4 x38_l5 H locs ls h
          exact no_e h
        | succ n ih38 =>
          intro x38_l4 x38_l5 H locs ls h hP hD hS hl
          rw [P_X11_clause_38] at h
          refine lv_iload hx hb dX11_clause_38 (lv_at hl 5 rfl) ?_
          refine lv_aload_n hx hb dX11_clause_40 rfl (lv_at hl 0 rfl) ?_
          obtain ⟨z_41, hc_41, h⟩ := bd_e h
          refine q_iV (As := []) (rest := [.int x38_l5]) (wF := [(a_values, .inl (cI, 3, .inl f_values)), (a_words, .inl (cI, 3, .inl f_words)), (a_word, .inl (cI, 9, .inl f_word)), (a_length, .inl (cI, 512, .inl z_21.2.1)), (a_found, .inl (cI, 512, .inl z_21.2.2)), (a_sayings, .inl (cI, 3, .inl f_sayings)), (a_leaves, .inl (cI, 24, .inl f_leaves)), (a_o, .inr (10, [.long o_trace, w_o_text, .int o_typed, .int o_choices, .int o_worlds, .ref a_values, .int o_at, .int o_start, .int o_sort, .int o_value, .int o_fault, w_o_draft, .ref a_sayings, .ref a_leaves, w_o_signs, .ref a_words, .ref a_word, w_o_isKept, w_o_some, w_o_every, .int o_deep, .int o_many, .ref a_length, .ref a_found, .int z_21.1]))]) hF hA hZ hK hP hD hS (c_X11_allSets l D cI cB cZ a_o o_trace w_o_text o_typed o_choices o_worlds (.ref a_values) o_at o_start o_sort o_value o_fault w_o_draft (.ref a_sayings) (.ref a_leaves) w_o_signs (.ref a_words) (.ref a_word) w_o_isKept w_o_some w_o_every o_deep o_many (.ref a_length) (.ref a_found) z_21.1 z_41 hc_41) rfl gX11_clause_X11_allSets hdX11_allSets ⟨rfl, rfl⟩ (Nat.le_of_ble_eq_true rfl) (Nat.le_of_ble_eq_true rfl) 10 0 rfl rfl [5] [0, 1, 2, 3, 4, 6, 7] rfl rfl rfl rfl (by decide) rfl hl.1 rfl (Nat.le_of_ble_eq_true rfl) (Nat.zero_le _) (Nat.zero_le _) dX11_clause_41 (fun H locs hP hD hS => ?_)
          refine lv_icmp_gt (tgt := 118) hx hb dX11_clause_44 (by decide) (fun c_44 => ?_) (fun c_44 => ?_)
          · replace h := it_e c_44 h
            exact Jk118 x38_l4 H locs ls h (hP.sub [0, 1, 2, 3, 4, 7, 5, 6] rfl) (hD.sub [0, 1, 2, 3, 4, 7, 5, 6] (by decide) rfl) hS (lv_sub hl [0, 2, 4] rfl)
          · replace h := if_e c_44 h
            refine lv_aload_n hx hb dX11_clause_47 rfl (lv_at hl 0 rfl) ?_
            refine va_get (D := D) (ci := 10) (v := .ref a_length) (C := RX11) (T := TX11) (N := 25) hx hb hts u_X11 hown hK hP 7 rfl rfl 22 (by decide) k_f0 (fun _ h9 => h9) rfl dX11_clause_48 ?_
            refine lv_iload hx hb dX11_clause_51 (lv_at hl 5 rfl) ?_
            obtain ⟨hi_53, h⟩ := ck_e h
            refine va_iald hx hb hK hP 3 0 rfl rfl hi_53 dX11_clause_53 ?_
            obtain ⟨j71, hj71, h⟩ := jn_e h
            have Jj71 : ∀ (H : Heap) (locs : List Loc) (ls : Array Slot), j71 () = some z → va_P D vwCl [(a_values, .inl (cI, 3, .inl f_values)), (a_words, .inl (cI, 3, .inl f_words)), (a_word, .inl (cI, 9, .inl f_word)), (a_length, .inl (cI, 512, .inl z_21.2.1)), (a_found, .inl (cI, 512, .inl z_21.2.2)), (a_sayings, .inl (cI, 3, .inl f_sayings)), (a_leaves, .inl (cI, 24, .inl f_leaves)), (a_o, .inr (10, [.long o_trace, w_o_text, .int o_typed, .int o_choices, .int o_worlds, .ref a_values, .int o_at, .int o_start, .int o_sort, .int o_value, .int o_fault, w_o_draft, .ref a_sayings, .ref a_leaves, w_o_signs, .ref a_words, .ref a_word, w_o_isKept, w_o_some, w_o_every, .int o_deep, .int o_many, .ref a_length, .ref a_found, .int z_21.1]))] H → va_D A [(a_values, .inl (cI, 3, .inl f_values)), (a_words, .inl (cI, 3, .inl f_words)), (a_word, .inl (cI, 9, .inl f_word)), (a_length, .inl (cI, 512, .inl z_21.2.1)), (a_found, .inl (cI, 512, .inl z_21.2.2)), (a_sayings, .inl (cI, 3, .inl f_sayings)), (a_leaves, .inl (cI, 24, .inl f_leaves)), (a_o, .inr (10, [.long o_trace, w_o_text, .int o_typed, .int o_choices, .int o_worlds, .ref a_values, .int o_at, .int o_start, .int o_sort, .int o_value, .int o_fault, w_o_draft, .ref a_sayings, .ref a_leaves, w_o_signs, .ref a_words, .ref a_word, w_o_isKept, w_o_some, w_o_every, .int o_deep, .int o_many, .ref a_length, .ref a_found, .int z_21.1]))] → va_S A s.heap H locs → lv_has ls 7 [(0, .ref a_o), (1, .int p1), (2, .int p2), (3, .int z_27), (4, .int x38_l4), (5, .int x38_l5)] → W p l e rmX11_clause s m args below meth c H locs 0 0 Q (F0 m 71 ls []) := by
              intro H locs ls h hP hD hS hl
              rw [hj71] at h
              refine lv_iconst (v := 0) hx hb dX11_clause_71 ic_0 ?_
              refine lv_istore (lv' := [(6, .int 0), (0, .ref a_o), (1, .int p1), (2, .int p2), (3, .int z_27), (4, .int x38_l4), (5, .int x38_l5)]) hx hb dX11_clause_72 hl (by decide) rfl (fun ls hl => ?_)
              refine lv_iload hx hb dX11_clause_74 (lv_at hl 0 rfl) ?_
              obtain ⟨j108, hj108, h⟩ := jn_e h
              have Jj108 : ∀ (H : Heap) (locs : List Loc) (ls : Array Slot), j108 () = some z → va_P D vwCl [(a_values, .inl (cI, 3, .inl f_values)), (a_words, .inl (cI, 3, .inl f_words)), (a_word, .inl (cI, 9, .inl f_word)), (a_length, .inl (cI, 512, .inl z_21.2.1)), (a_found, .inl (cI, 512, .inl z_21.2.2)), (a_sayings, .inl (cI, 3, .inl f_sayings)), (a_leaves, .inl (cI, 24, .inl f_leaves)), (a_o, .inr (10, [.long o_trace, w_o_text, .int o_typed, .int o_choices, .int o_worlds, .ref a_values, .int o_at, .int o_start, .int o_sort, .int o_value, .int o_fault, w_o_draft, .ref a_sayings, .ref a_leaves, w_o_signs, .ref a_words, .ref a_word, w_o_isKept, w_o_some, w_o_every, .int o_deep, .int o_many, .ref a_length, .ref a_found, .int z_21.1]))] H → va_D A [(a_values, .inl (cI, 3, .inl f_values)), (a_words, .inl (cI, 3, .inl f_words)), (a_word, .inl (cI, 9, .inl f_word)), (a_length, .inl (cI, 512, .inl z_21.2.1)), (a_found, .inl (cI, 512, .inl z_21.2.2)), (a_sayings, .inl (cI, 3, .inl f_sayings)), (a_leaves, .inl (cI, 24, .inl f_leaves)), (a_o, .inr (10, [.long o_trace, w_o_text, .int o_typed, .int o_choices, .int o_worlds, .ref a_values, .int o_at, .int o_start, .int o_sort, .int o_value, .int o_fault, w_o_draft, .ref a_sayings, .ref a_leaves, w_o_signs, .ref a_words, .ref a_word, w_o_isKept, w_o_some, w_o_every, .int o_deep, .int o_many, .ref a_length, .ref a_found, .int z_21.1]))] → va_S A s.heap H locs → lv_has ls 7 [(0, .ref a_o), (1, .int p1), (2, .int p2), (3, .int z_27), (4, .int x38_l4), (5, .int x38_l5)] → W p l e rmX11_clause s m args below meth c H locs 0 0 Q (F0 m 108 ls []) := by
                intro H locs ls h hP hD hS hl
                rw [hj108] at h
                refine lv_iload hx hb dX11_clause_108 (lv_at hl 4 rfl) ?_
                refine lv_istore (lv' := [(4, .int x38_l4), (0, .ref a_o), (1, .int p1), (2, .int p2), (3, .int z_27), (5, .int x38_l5)]) hx hb dX11_clause_110 hl (by decide) rfl (fun ls hl => ?_)
                refine lv_iinc (v := x38_l5 + 1) (lv' := [(5, .int (x38_l5 + 1)), (4, .int x38_l4), (0, .ref a_o), (1, .int p1), (2, .int p2), (3, .int z_27)]) hx hb dX11_clause_112 hl (k := 5) rfl (congrArg (x38_l5 + ·) ic_1) (by decide) rfl (fun ls hl => ?_)
                refine lv_goto (tgt := 38) hx hb dX11_clause_115 (by decide) ?_
                exact ih38 x38_l4 (x38_l5 + 1) H locs ls h (hP.sub [0, 1, 2, 3, 4, 7, 5, 6] rfl) (hD.sub [0, 1, 2, 3, 4, 7, 5, 6] (by decide) rfl) hS (lv_sub hl [2, 3, 4, 5, 1, 0] rfl)
              obtain ⟨j110, hj110, h⟩ := jn_e h
              have Jj110 : ∀ (x110_s0 : Int32) (H : Heap) (locs : List Loc) (ls : Array Slot), j110 x110_s0 = some z → va_P D vwCl [(a_values, .inl (cI, 3, .inl f_values)), (a_words, .inl (cI, 3, .inl f_words)), (a_word, .inl (cI, 9, .inl f_word)), (a_length, .inl (cI, 512, .inl z_21.2.1)), (a_found, .inl (cI, 512, .inl z_21.2.2)), (a_sayings, .inl (cI, 3, .inl f_sayings)), (a_leaves, .inl (cI, 24, .inl f_leaves)), (a_o, .inr (10, [.long o_trace, w_o_text, .int o_typed, .int o_choices, .int o_worlds, .ref a_values, .int o_at, .int o_start, .int o_sort, .int o_value, .int o_fault, w_o_draft, .ref a_sayings, .ref a_leaves, w_o_signs, .ref a_words, .ref a_word, w_o_isKept, w_o_some, w_o_every, .int o_deep, .int o_many, .ref a_length, .ref a_found, .int z_21.1]))] H → va_D A [(a_values, .inl (cI, 3, .inl f_values)), (a_words, .inl (cI, 3, .inl f_words)), (a_word, .inl (cI, 9, .inl f_word)), (a_length, .inl (cI, 512, .inl z_21.2.1)), (a_found, .inl (cI, 512, .inl z_21.2.2)), (a_sayings, .inl (cI, 3, .inl f_sayings)), (a_leaves, .inl (cI, 24, .inl f_leaves)), (a_o, .inr (10, [.long o_trace, w_o_text, .int o_typed, .int o_choices, .int o_worlds, .ref a_values, .int o_at, .int o_start, .int o_sort, .int o_value, .int o_fault, w_o_draft, .ref a_sayings, .ref a_leaves, w_o_signs, .ref a_words, .ref a_word, w_o_isKept, w_o_some, w_o_every, .int o_deep, .int o_many, .ref a_length, .ref a_found, .int z_21.1]))] → va_S A s.heap H locs → lv_has ls 7 [(0, .ref a_o), (1, .int p1), (2, .int p2), (3, .int z_27), (5, .int x38_l5)] → W p l e rmX11_clause s m args below meth c H locs 0 0 Q (F0 m 110 ls [.int x110_s0]) := by
                intro x110_s0 H locs ls h hP hD hS hl
                rw [hj110] at h
                refine lv_istore (lv' := [(4, .int x110_s0), (0, .ref a_o), (1, .int p1), (2, .int p2), (3, .int z_27), (5, .int x38_l5)]) hx hb dX11_clause_110 hl (by decide) rfl (fun ls hl => ?_)
                refine lv_iinc (v := x38_l5 + 1) (lv' := [(5, .int (x38_l5 + 1)), (4, .int x110_s0), (0, .ref a_o), (1, .int p1), (2, .int p2), (3, .int z_27)]) hx hb dX11_clause_112 hl (k := 5) rfl (congrArg (x38_l5 + ·) ic_1) (by decide) rfl (fun ls hl => ?_)
                refine lv_goto (tgt := 38) hx hb dX11_clause_115 (by decide) ?_
                exact ih38 x110_s0 (x38_l5 + 1) H locs ls h (hP.sub [0, 1, 2, 3, 4, 7, 5, 6] rfl) (hD.sub [0, 1, 2, 3, 4, 7, 5, 6] (by decide) rfl) hS (lv_sub hl [2, 3, 4, 5, 1, 0] rfl)
              refine lv_if_eq (tgt := 108) hx hb dX11_clause_76 (by decide) (fun c_76 => ?_) (fun c_76 => ?_)
              · replace h := it_e c_76 h
                exact Jj108  H locs ls h hP hD hS (lv_sub hl [1, 2, 3, 4, 5, 6] rfl)
              · replace h := if_e c_76 h
                refine lv_iload hx hb dX11_clause_79 (lv_at hl 5 rfl) ?_
                refine lv_bipush (v := (-9)) hx hb dX11_clause_81 bc_m9 ?_
                obtain ⟨j103, hj103, h⟩ := jn_e h
                have Jj103 : ∀ (H : Heap) (locs : List Loc) (ls : Array Slot), j103 () = some z → va_P D vwCl [(a_values, .inl (cI, 3, .inl f_values)), (a_words, .inl (cI, 3, .inl f_words)), (a_word, .inl (cI, 9, .inl f_word)), (a_length, .inl (cI, 512, .inl z_21.2.1)), (a_found, .inl (cI, 512, .inl z_21.2.2)), (a_sayings, .inl (cI, 3, .inl f_sayings)), (a_leaves, .inl (cI, 24, .inl f_leaves)), (a_o, .inr (10, [.long o_trace, w_o_text, .int o_typed, .int o_choices, .int o_worlds, .ref a_values, .int o_at, .int o_start, .int o_sort, .int o_value, .int o_fault, w_o_draft, .ref a_sayings, .ref a_leaves, w_o_signs, .ref a_words, .ref a_word, w_o_isKept, w_o_some, w_o_every, .int o_deep, .int o_many, .ref a_length, .ref a_found, .int z_21.1]))] H → va_D A [(a_values, .inl (cI, 3, .inl f_values)), (a_words, .inl (cI, 3, .inl f_words)), (a_word, .inl (cI, 9, .inl f_word)), (a_length, .inl (cI, 512, .inl z_21.2.1)), (a_found, .inl (cI, 512, .inl z_21.2.2)), (a_sayings, .inl (cI, 3, .inl f_sayings)), (a_leaves, .inl (cI, 24, .inl f_leaves)), (a_o, .inr (10, [.long o_trace, w_o_text, .int o_typed, .int o_choices, .int o_worlds, .ref a_values, .int o_at, .int o_start, .int o_sort, .int o_value, .int o_fault, w_o_draft, .ref a_sayings, .ref a_leaves, w_o_signs, .ref a_words, .ref a_word, w_o_isKept, w_o_some, w_o_every, .int o_deep, .int o_many, .ref a_length, .ref a_found, .int z_21.1]))] → va_S A s.heap H locs → lv_has ls 7 [(0, .ref a_o), (1, .int p1), (2, .int p2), (3, .int z_27), (5, .int x38_l5)] → W p l e rmX11_clause s m args below meth c H locs 0 0 Q (F0 m 103 ls []) := by
                  intro H locs ls h hP hD hS hl
                  rw [hj103] at h
                  refine lv_iload hx hb dX11_clause_103 (lv_at hl 4 rfl) ?_
                  refine lv_goto (tgt := 110) hx hb dX11_clause_105 (by decide) ?_
                  exact Jj110 x38_l5 H locs ls h hP hD hS hl
                refine lv_icmp_eq (tgt := 103) hx hb dX11_clause_83 (by decide) (fun c_83 => ?_) (fun c_83 => ?_)
                · replace h := it_e c_83 h
                  exact Jj103  H locs ls h hP hD hS (lv_sub hl [1, 2, 3, 4, 6] rfl)
                · replace h := if_e c_83 h
                  refine lv_aload_n hx hb dX11_clause_86 rfl (lv_at hl 1 rfl) ?_
                  refine va_get (D := D) (ci := 10) (v := .ref a_length) (C := RX11) (T := TX11) (N := 25) hx hb hts u_X11 hown hK hP 7 rfl rfl 22 (by decide) k_f0 (fun _ h9 => h9) rfl dX11_clause_87 ?_
                  refine lv_iload hx hb dX11_clause_90 (lv_at hl 6 rfl) ?_
                  obtain ⟨hi_92, h⟩ := ck_e h
                  refine va_iald hx hb hK hP 3 0 rfl rfl hi_92 dX11_clause_92 ?_
                  refine lv_aload_n hx hb dX11_clause_93 rfl (lv_at hl 1 rfl) ?_
                  refine va_get (D := D) (ci := 10) (v := .ref a_length) (C := RX11) (T := TX11) (N := 25) hx hb hts u_X11 hown hK hP 7 rfl rfl 22 (by decide) k_f0 (fun _ h9 => h9) rfl dX11_clause_94 ?_
                  refine lv_iload hx hb dX11_clause_97 (lv_at hl 5 rfl) ?_
                  obtain ⟨hi_99, h⟩ := ck_e h
                  refine va_iald hx hb hK hP 3 0 rfl rfl hi_99 dX11_clause_99 ?_
                  refine lv_icmp_ge (tgt := 108) hx hb dX11_clause_100 (by decide) (fun c_100 => ?_) (fun c_100 => ?_)
                  · replace h := it_e c_100 h
                    exact Jj108  H locs ls h hP hD hS (lv_sub hl [1, 2, 3, 4, 5, 6] rfl)
                  · replace h := if_e c_100 h
                    exact Jj103  H locs ls h hP hD hS (lv_sub hl [1, 2, 3, 4, 6] rfl)
            obtain ⟨j72, hj72, h⟩ := jn_e h
            have Jj72 : ∀ (x72_s0 : Int32) (H : Heap) (locs : List Loc) (ls : Array Slot), j72 x72_s0 = some z → va_P D vwCl [(a_values, .inl (cI, 3, .inl f_values)), (a_words, .inl (cI, 3, .inl f_words)), (a_word, .inl (cI, 9, .inl f_word)), (a_length, .inl (cI, 512, .inl z_21.2.1)), (a_found, .inl (cI, 512, .inl z_21.2.2)), (a_sayings, .inl (cI, 3, .inl f_sayings)), (a_leaves, .inl (cI, 24, .inl f_leaves)), (a_o, .inr (10, [.long o_trace, w_o_text, .int o_typed, .int o_choices, .int o_worlds, .ref a_values, .int o_at, .int o_start, .int o_sort, .int o_value, .int o_fault, w_o_draft, .ref a_sayings, .ref a_leaves, w_o_signs, .ref a_words, .ref a_word, w_o_isKept, w_o_some, w_o_every, .int o_deep, .int o_many, .ref a_length, .ref a_found, .int z_21.1]))] H → va_D A [(a_values, .inl (cI, 3, .inl f_values)), (a_words, .inl (cI, 3, .inl f_words)), (a_word, .inl (cI, 9, .inl f_word)), (a_length, .inl (cI, 512, .inl z_21.2.1)), (a_found, .inl (cI, 512, .inl z_21.2.2)), (a_sayings, .inl (cI, 3, .inl f_sayings)), (a_leaves, .inl (cI, 24, .inl f_leaves)), (a_o, .inr (10, [.long o_trace, w_o_text, .int o_typed, .int o_choices, .int o_worlds, .ref a_values, .int o_at, .int o_start, .int o_sort, .int o_value, .int o_fault, w_o_draft, .ref a_sayings, .ref a_leaves, w_o_signs, .ref a_words, .ref a_word, w_o_isKept, w_o_some, w_o_every, .int o_deep, .int o_many, .ref a_length, .ref a_found, .int z_21.1]))] → va_S A s.heap H locs → lv_has ls 7 [(0, .ref a_o), (1, .int p1), (2, .int p2), (3, .int z_27), (4, .int x38_l4), (5, .int x38_l5)] → W p l e rmX11_clause s m args below meth c H locs 0 0 Q (F0 m 72 ls [.int x72_s0]) := by
              intro x72_s0 H locs ls h hP hD hS hl
              rw [hj72] at h
              refine lv_istore (lv' := [(6, .int x72_s0), (0, .ref a_o), (1, .int p1), (2, .int p2), (3, .int z_27), (4, .int x38_l4), (5, .int x38_l5)]) hx hb dX11_clause_72 hl (by decide) rfl (fun ls hl => ?_)
              refine lv_iload hx hb dX11_clause_74 (lv_at hl 0 rfl) ?_
              obtain ⟨j108, hj108, h⟩ := jn_e h
              have Jj108 : ∀ (H : Heap) (locs : List Loc) (ls : Array Slot), j108 () = some z → va_P D vwCl [(a_values, .inl (cI, 3, .inl f_values)), (a_words, .inl (cI, 3, .inl f_words)), (a_word, .inl (cI, 9, .inl f_word)), (a_length, .inl (cI, 512, .inl z_21.2.1)), (a_found, .inl (cI, 512, .inl z_21.2.2)), (a_sayings, .inl (cI, 3, .inl f_sayings)), (a_leaves, .inl (cI, 24, .inl f_leaves)), (a_o, .inr (10, [.long o_trace, w_o_text, .int o_typed, .int o_choices, .int o_worlds, .ref a_values, .int o_at, .int o_start, .int o_sort, .int o_value, .int o_fault, w_o_draft, .ref a_sayings, .ref a_leaves, w_o_signs, .ref a_words, .ref a_word, w_o_isKept, w_o_some, w_o_every, .int o_deep, .int o_many, .ref a_length, .ref a_found, .int z_21.1]))] H → va_D A [(a_values, .inl (cI, 3, .inl f_values)), (a_words, .inl (cI, 3, .inl f_words)), (a_word, .inl (cI, 9, .inl f_word)), (a_length, .inl (cI, 512, .inl z_21.2.1)), (a_found, .inl (cI, 512, .inl z_21.2.2)), (a_sayings, .inl (cI, 3, .inl f_sayings)), (a_leaves, .inl (cI, 24, .inl f_leaves)), (a_o, .inr (10, [.long o_trace, w_o_text, .int o_typed, .int o_choices, .int o_worlds, .ref a_values, .int o_at, .int o_start, .int o_sort, .int o_value, .int o_fault, w_o_draft, .ref a_sayings, .ref a_leaves, w_o_signs, .ref a_words, .ref a_word, w_o_isKept, w_o_some, w_o_every, .int o_deep, .int o_many, .ref a_length, .ref a_found, .int z_21.1]))] → va_S A s.heap H locs → lv_has ls 7 [(0, .ref a_o), (1, .int p1), (2, .int p2), (3, .int z_27), (4, .int x38_l4), (5, .int x38_l5)] → W p l e rmX11_clause s m args below meth c H locs 0 0 Q (F0 m 108 ls []) := by
                intro H locs ls h hP hD hS hl
                rw [hj108] at h
                refine lv_iload hx hb dX11_clause_108 (lv_at hl 4 rfl) ?_
                refine lv_istore (lv' := [(4, .int x38_l4), (0, .ref a_o), (1, .int p1), (2, .int p2), (3, .int z_27), (5, .int x38_l5)]) hx hb dX11_clause_110 hl (by decide) rfl (fun ls hl => ?_)
                refine lv_iinc (v := x38_l5 + 1) (lv' := [(5, .int (x38_l5 + 1)), (4, .int x38_l4), (0, .ref a_o), (1, .int p1), (2, .int p2), (3, .int z_27)]) hx hb dX11_clause_112 hl (k := 5) rfl (congrArg (x38_l5 + ·) ic_1) (by decide) rfl (fun ls hl => ?_)
                refine lv_goto (tgt := 38) hx hb dX11_clause_115 (by decide) ?_
                exact ih38 x38_l4 (x38_l5 + 1) H locs ls h (hP.sub [0, 1, 2, 3, 4, 7, 5, 6] rfl) (hD.sub [0, 1, 2, 3, 4, 7, 5, 6] (by decide) rfl) hS (lv_sub hl [2, 3, 4, 5, 1, 0] rfl)
              obtain ⟨j110, hj110, h⟩ := jn_e h
              have Jj110 : ∀ (x110_s0 : Int32) (H : Heap) (locs : List Loc) (ls : Array Slot), j110 x110_s0 = some z → va_P D vwCl [(a_values, .inl (cI, 3, .inl f_values)), (a_words, .inl (cI, 3, .inl f_words)), (a_word, .inl (cI, 9, .inl f_word)), (a_length, .inl (cI, 512, .inl z_21.2.1)), (a_found, .inl (cI, 512, .inl z_21.2.2)), (a_sayings, .inl (cI, 3, .inl f_sayings)), (a_leaves, .inl (cI, 24, .inl f_leaves)), (a_o, .inr (10, [.long o_trace, w_o_text, .int o_typed, .int o_choices, .int o_worlds, .ref a_values, .int o_at, .int o_start, .int o_sort, .int o_value, .int o_fault, w_o_draft, .ref a_sayings, .ref a_leaves, w_o_signs, .ref a_words, .ref a_word, w_o_isKept, w_o_some, w_o_every, .int o_deep, .int o_many, .ref a_length, .ref a_found, .int z_21.1]))] H → va_D A [(a_values, .inl (cI, 3, .inl f_values)), (a_words, .inl (cI, 3, .inl f_words)), (a_word, .inl (cI, 9, .inl f_word)), (a_length, .inl (cI, 512, .inl z_21.2.1)), (a_found, .inl (cI, 512, .inl z_21.2.2)), (a_sayings, .inl (cI, 3, .inl f_sayings)), (a_leaves, .inl (cI, 24, .inl f_leaves)), (a_o, .inr (10, [.long o_trace, w_o_text, .int o_typed, .int o_choices, .int o_worlds, .ref a_values, .int o_at, .int o_start, .int o_sort, .int o_value, .int o_fault, w_o_draft, .ref a_sayings, .ref a_leaves, w_o_signs, .ref a_words, .ref a_word, w_o_isKept, w_o_some, w_o_every, .int o_deep, .int o_many, .ref a_length, .ref a_found, .int z_21.1]))] → va_S A s.heap H locs → lv_has ls 7 [(0, .ref a_o), (1, .int p1), (2, .int p2), (3, .int z_27), (5, .int x38_l5)] → W p l e rmX11_clause s m args below meth c H locs 0 0 Q (F0 m 110 ls [.int x110_s0]) := by
                intro x110_s0 H locs ls h hP hD hS hl
                rw [hj110] at h
                refine lv_istore (lv' := [(4, .int x110_s0), (0, .ref a_o), (1, .int p1), (2, .int p2), (3, .int z_27), (5, .int x38_l5)]) hx hb dX11_clause_110 hl (by decide) rfl (fun ls hl => ?_)
                refine lv_iinc (v := x38_l5 + 1) (lv' := [(5, .int (x38_l5 + 1)), (4, .int x110_s0), (0, .ref a_o), (1, .int p1), (2, .int p2), (3, .int z_27)]) hx hb dX11_clause_112 hl (k := 5) rfl (congrArg (x38_l5 + ·) ic_1) (by decide) rfl (fun ls hl => ?_)
                refine lv_goto (tgt := 38) hx hb dX11_clause_115 (by decide) ?_
                exact ih38 x110_s0 (x38_l5 + 1) H locs ls h (hP.sub [0, 1, 2, 3, 4, 7, 5, 6] rfl) (hD.sub [0, 1, 2, 3, 4, 7, 5, 6] (by decide) rfl) hS (lv_sub hl [2, 3, 4, 5, 1, 0] rfl)
              refine lv_if_eq (tgt := 108) hx hb dX11_clause_76 (by decide) (fun c_76 => ?_) (fun c_76 => ?_)
              · replace h := it_e c_76 h
                exact Jj108  H locs ls h hP hD hS (lv_sub hl [1, 2, 3, 4, 5, 6] rfl)
              · replace h := if_e c_76 h
                refine lv_iload hx hb dX11_clause_79 (lv_at hl 5 rfl) ?_
                refine lv_bipush (v := (-9)) hx hb dX11_clause_81 bc_m9 ?_
                obtain ⟨j103, hj103, h⟩ := jn_e h
                have Jj103 : ∀ (H : Heap) (locs : List Loc) (ls : Array Slot), j103 () = some z → va_P D vwCl [(a_values, .inl (cI, 3, .inl f_values)), (a_words, .inl (cI, 3, .inl f_words)), (a_word, .inl (cI, 9, .inl f_word)), (a_length, .inl (cI, 512, .inl z_21.2.1)), (a_found, .inl (cI, 512, .inl z_21.2.2)), (a_sayings, .inl (cI, 3, .inl f_sayings)), (a_leaves, .inl (cI, 24, .inl f_leaves)), (a_o, .inr (10, [.long o_trace, w_o_text, .int o_typed, .int o_choices, .int o_worlds, .ref a_values, .int o_at, .int o_start, .int o_sort, .int o_value, .int o_fault, w_o_draft, .ref a_sayings, .ref a_leaves, w_o_signs, .ref a_words, .ref a_word, w_o_isKept, w_o_some, w_o_every, .int o_deep, .int o_many, .ref a_length, .ref a_found, .int z_21.1]))] H → va_D A [(a_values, .inl (cI, 3, .inl f_values)), (a_words, .inl (cI, 3, .inl f_words)), (a_word, .inl (cI, 9, .inl f_word)), (a_length, .inl (cI, 512, .inl z_21.2.1)), (a_found, .inl (cI, 512, .inl z_21.2.2)), (a_sayings, .inl (cI, 3, .inl f_sayings)), (a_leaves, .inl (cI, 24, .inl f_leaves)), (a_o, .inr (10, [.long o_trace, w_o_text, .int o_typed, .int o_choices, .int o_worlds, .ref a_values, .int o_at, .int o_start, .int o_sort, .int o_value, .int o_fault, w_o_draft, .ref a_sayings, .ref a_leaves, w_o_signs, .ref a_words, .ref a_word, w_o_isKept, w_o_some, w_o_every, .int o_deep, .int o_many, .ref a_length, .ref a_found, .int z_21.1]))] → va_S A s.heap H locs → lv_has ls 7 [(0, .ref a_o), (1, .int p1), (2, .int p2), (3, .int z_27), (5, .int x38_l5)] → W p l e rmX11_clause s m args below meth c H locs 0 0 Q (F0 m 103 ls []) := by
                  intro H locs ls h hP hD hS hl
                  rw [hj103] at h
                  refine lv_iload hx hb dX11_clause_103 (lv_at hl 4 rfl) ?_
                  refine lv_goto (tgt := 110) hx hb dX11_clause_105 (by decide) ?_
                  exact Jj110 x38_l5 H locs ls h hP hD hS hl
                refine lv_icmp_eq (tgt := 103) hx hb dX11_clause_83 (by decide) (fun c_83 => ?_) (fun c_83 => ?_)
                · replace h := it_e c_83 h
                  exact Jj103  H locs ls h hP hD hS (lv_sub hl [1, 2, 3, 4, 6] rfl)
                · replace h := if_e c_83 h
                  refine lv_aload_n hx hb dX11_clause_86 rfl (lv_at hl 1 rfl) ?_
                  refine va_get (D := D) (ci := 10) (v := .ref a_length) (C := RX11) (T := TX11) (N := 25) hx hb hts u_X11 hown hK hP 7 rfl rfl 22 (by decide) k_f0 (fun _ h9 => h9) rfl dX11_clause_87 ?_
                  refine lv_iload hx hb dX11_clause_90 (lv_at hl 6 rfl) ?_
                  obtain ⟨hi_92, h⟩ := ck_e h
                  refine va_iald hx hb hK hP 3 0 rfl rfl hi_92 dX11_clause_92 ?_
                  refine lv_aload_n hx hb dX11_clause_93 rfl (lv_at hl 1 rfl) ?_
                  refine va_get (D := D) (ci := 10) (v := .ref a_length) (C := RX11) (T := TX11) (N := 25) hx hb hts u_X11 hown hK hP 7 rfl rfl 22 (by decide) k_f0 (fun _ h9 => h9) rfl dX11_clause_94 ?_
                  refine lv_iload hx hb dX11_clause_97 (lv_at hl 5 rfl) ?_
                  obtain ⟨hi_99, h⟩ := ck_e h
                  refine va_iald hx hb hK hP 3 0 rfl rfl hi_99 dX11_clause_99 ?_
                  refine lv_icmp_ge (tgt := 108) hx hb dX11_clause_100 (by decide) (fun c_100 => ?_) (fun c_100 => ?_)
                  · replace h := it_e c_100 h
                    exact Jj108  H locs ls h hP hD hS (lv_sub hl [1, 2, 3, 4, 5, 6] rfl)
                  · replace h := if_e c_100 h
                    exact Jj103  H locs ls h hP hD hS (lv_sub hl [1, 2, 3, 4, 6] rfl)
            refine lv_if_le (tgt := 71) hx hb dX11_clause_54 (by decide) (fun c_54 => ?_) (fun c_54 => ?_)
            · replace h := it_e c_54 h
              exact Jj71  H locs ls h hP hD hS hl
            · replace h := if_e c_54 h
              refine lv_iload_n hx hb dX11_clause_57 rfl (lv_at hl 3 rfl) ?_
              refine lv_iload hx hb dX11_clause_58 (lv_at hl 5 rfl) ?_
              refine lv_iand hx hb dX11_clause_60 ?_
              refine lv_iload_n hx hb dX11_clause_61 rfl (lv_at hl 3 rfl) ?_
              refine lv_iload_n hx hb dX11_clause_62 rfl (lv_at hl 1 rfl) ?_
              refine lv_iand hx hb dX11_clause_63 ?_
              refine lv_icmp_ne (tgt := 71) hx hb dX11_clause_64 (by decide) (fun c_64 => ?_) (fun c_64 => ?_)
              · replace h := if_e c_64 h
                exact Jj71  H locs ls h hP hD hS hl
              · replace h := it_e c_64 h
                refine lv_iconst (v := 1) hx hb dX11_clause_67 ic_1 ?_
                refine lv_goto (tgt := 72) hx hb dX11_clause_68 (by decide) ?_
                exact Jj72 1 H locs ls h hP hD hS hl
      exact L38 QF (-9) 0 H locs ls h hP hD hS (lv_sub hl [3, 4, 5, 2, 1, 0] rfl)
    · replace h := it_e c_14 h
      refine lv_iconst (v := (-1)) hx hb dX11_clause_17 ic_m1 ?_
      have hz := Option.some.inj h
      subst hz
      exact hret H locs 18 ls (fun ty h => by cases h; rfl) (hP.sub [7, 0, 1, 2, 3, 4, 5, 6] rfl) (hD.sub [7, 0, 1, 2, 3, 4, 5, 6] (by decide) rfl) hS dX11_clause_18
abbrev rmX11_bitsIn : Room := { frames := 0, cells := 0, slots := 0, locals := 0 }
theorem hdX11_bitsIn : yX11_bitsIn.cls ≠ "java/lang/invoke/MethodHandle" ∧ yX11_bitsIn.cls ≠ "java/lang/invoke/VarHandle" ∧ (parseMethodDescriptor yX11_bitsIn.desc).map (fun d => d.parameters.length) = some 1 := by decide +kernel
set_option maxRecDepth 100000 in
set_option maxHeartbeats 4000000 in
theorem c_X11_bitsIn (l : Launch) (D : va_G) (cI cB cZ : ClassId) (p0 : Int32) (z : Int32) (h : P_X11_bitsIn p0 = some z) : KI l yX11_bitsIn wsX11_bitsIn rmX11_bitsIn D [(cI, .int), (cB, .byte), (cZ, .boolean)] [.int p0] [] [] z := by
  refine KI_of (own := RX11) (cc := cX11_bitsIn) (maxL := 3) (ret := some .int) (by decide) rfl rfl (Nat.le_of_ble_eq_true rfl) (Or.inl rfl) ?_
  intro p e s m args below meth c A Q hx hb hml hown hts hA hZ hK hret H locs ls hP hD hS hl
  have hl : lv_has ls 3 [(0, .int p0)] := hl
  have hF : CallFix p m c cX11_bitsIn 3 s args wsX11_bitsIn RX11 := ⟨hx, hb, hml, hown, hts⟩
  unfold P_X11_bitsIn at h
  refine lv_iconst (v := 0) hx hb dX11_bitsIn_0 ic_0 ?_
  refine lv_istore_n (lv' := [(1, .int 0), (0, .int p0)]) hx hb dX11_bitsIn_1 rfl hl (by decide) rfl (fun ls hl => ?_)
  refine lv_iconst (v := 0) hx hb dX11_bitsIn_2 ic_0 ?_
  refine lv_istore_n (lv' := [(2, .int 0), (1, .int 0), (0, .int p0)]) hx hb dX11_bitsIn_3 rfl hl (by decide) rfl (fun ls hl => ?_)
  have L4 : ∀ (n : Nat), ∀ (x4_l1 : Int32) (x4_l2 : Int32) (H : Heap) (locs : List Loc) (ls : Array Slot), P_X11_bitsIn_4 p0 n x4_l1 x4_l2 = some z → va_P D vwCl [] H → va_D A [] → va_S A s.heap H locs → lv_has ls 3 [(0, .int p0), (1, .int x4_l1), (2, .int x4_l2)] → W p l e rmX11_bitsIn s m args below meth c H locs 0 0 Q (F0 m 4 ls []) := by
    intro n
    induction n with
    | zero =>
      intro x4_l1 x4_l2 H locs ls h
      exact no_e h
    | succ n ih4 =>
      intro x4_l1 x4_l2 H locs ls h hP hD hS hl
      rw [P_X11_bitsIn_4] at h
      refine lv_iload_n hx hb dX11_bitsIn_4 rfl (lv_at hl 2 rfl) ?_
      refine lv_bipush (v := 9) hx hb dX11_bitsIn_5 bc_9 ?_
      refine lv_icmp_ge (tgt := 24) hx hb dX11_bitsIn_7 (by decide) (fun c_7 => ?_) (fun c_7 => ?_)
      · replace h := it_e c_7 h
        refine lv_iload_n hx hb dX11_bitsIn_24 rfl (lv_at hl 1 rfl) ?_
        have hz := Option.some.inj h
        subst hz
        exact hret H locs 25 ls (fun ty h => by cases h; rfl) hP hD hS dX11_bitsIn_25
      · replace h := if_e c_7 h
        refine lv_iload_n hx hb dX11_bitsIn_10 rfl (lv_at hl 1 rfl) ?_
        refine lv_iload_n hx hb dX11_bitsIn_11 rfl (lv_at hl 0 rfl) ?_
        refine lv_iload_n hx hb dX11_bitsIn_12 rfl (lv_at hl 2 rfl) ?_
        refine lv_ishr hx hb dX11_bitsIn_13 ?_
        refine lv_iconst (v := 1) hx hb dX11_bitsIn_14 ic_1 ?_
        refine lv_iand hx hb dX11_bitsIn_15 ?_
        refine lv_iadd hx hb dX11_bitsIn_16 ?_
        refine lv_istore_n (lv' := [(1, .int (x4_l1 + ((p0 >>> (x4_l2 &&& 31)) &&& 1))), (0, .int p0), (2, .int x4_l2)]) hx hb dX11_bitsIn_17 rfl hl (by decide) rfl (fun ls hl => ?_)
        refine lv_iinc (v := x4_l2 + 1) (lv' := [(2, .int (x4_l2 + 1)), (1, .int (x4_l1 + ((p0 >>> (x4_l2 &&& 31)) &&& 1))), (0, .int p0)]) hx hb dX11_bitsIn_18 hl (k := 2) rfl (congrArg (x4_l2 + ·) ic_1) (by decide) rfl (fun ls hl => ?_)
        refine lv_goto (tgt := 4) hx hb dX11_bitsIn_21 (by decide) ?_
        exact ih4 (x4_l1 + ((p0 >>> (x4_l2 &&& 31)) &&& 1)) (x4_l2 + 1) H locs ls h hP hD hS (lv_sub hl [2, 1, 0] rfl)
  exact L4 QF 0 0 H locs ls h hP hD hS (lv_sub hl [2, 1, 0] rfl)
