def P_X4_put (n_p0 : Nat) (p1 : Int32) (p2 : Int32) (f_p0 : (Nat → Int32)) : Option ((Nat → Int32)) :=
  if p1 < 0 then (
    some (f_p0)
  ) else (
    if (nI n_p0) ≤ p1 then (
      some (f_p0)
    ) else (
      ck p1 n_p0 (
        some (upd f_p0 p1.toNatClampNeg p2)
      )
    )
  )
def P_X6_add_19 (p1 : Int64) : Nat → Int32 → Int32 → (Nat → Int32) → Option (Int32 × Int32 × (Nat → Int32))
  | 0, _, _, _ => none
  | n + 1, x19_l4, x19_o_size, x19_f_bytes =>
    if x19_l4 < 0 then (
      some (1, x19_o_size, x19_f_bytes)
    ) else (
      (P_X4_put 200 x19_o_size ((((p1.toUInt64 >>> ((8 * x19_l4).toInt64.toUInt64 &&& Int64.toUInt64 63)).toInt64).toInt32) &&& 255) x19_f_bytes).bind fun (z_44 : (Nat → Int32)) =>
        P_X6_add_19 p1 n (x19_l4 + (-1)) (x19_o_size + 1) z_44
    )
def P_X6_add (p1 : Int64) (p3 : Int32) (o_size : Int32) (f_bytes : (Nat → Int32)) : Option (Int32 × Int32 × (Nat → Int32)) :=
  if (o_size + p3) ≤ 200 then (
    P_X6_add_19 p1 QF (p3 - 1) o_size f_bytes
  ) else (
    some (0, o_size, f_bytes)
  )
def P_X6_size (o_size : Int32) : Option (Int32) :=
  some (o_size)
def P_X10_type (p1 : Int64) (p3 : Int32) (text_size : Int32) (f_text_bytes : (Nat → Int32)) : Option (Int32 × Int32 × (Nat → Int32)) :=
  if p3 < 1 then (
    some ((-1), text_size, f_text_bytes)
  ) else (
    if p3 ≤ 8 then (
      (P_X6_add p1 p3 text_size f_text_bytes).bind fun (z_19 : Int32 × Int32 × (Nat → Int32)) =>
        if z_19.1 = 0 then (
          some ((-3), z_19.2.1, z_19.2.2)
        ) else (
          (P_X6_size z_19.2.1).bind fun (z_29 : Int32) =>
            some (z_29, z_19.2.1, z_19.2.2)
        )
    ) else (
      some ((-1), text_size, f_text_bytes)
    )
  )
def P_X6_drop (o_size : Int32) : Option (Int32 × Int32) :=
  some (o_size, 0)
def P_X10_clear (text_size : Int32) : Option (Int32 × Int32) :=
  (P_X6_drop text_size).bind fun (z_4 : Int32 × Int32) =>
    some (z_4.1, z_4.2)
def P_X7_begin (o_next : Int32) (o_place : Int32) (o_kind : Int32) : Option (Int32 × Int32 × Int32) :=
  some (0, 0, 0)
def P_X4_at (n_p0 : Nat) (p1 : Int32) (f_p0 : (Nat → Int32)) : Option (Int32) :=
  if p1 < 0 then (
    some (0)
  ) else (
    if (nI n_p0) ≤ p1 then (
      some (0)
    ) else (
      ck p1 n_p0 (
        some (f_p0 p1.toNatClampNeg)
      )
    )
  )
def P_X6_byteAt (p1 : Int32) (o_size : Int32) (f_bytes : (Nat → Int32)) : Option (Int32) :=
  if o_size ≤ p1 then (
    some (0)
  ) else (
    (P_X4_at 200 p1 f_bytes).bind fun (z_13 : Int32) =>
      some (z_13)
  )
def P_X7_isLetter (p0 : Int32) : Option (Int32) :=
  if p0 < 97 then (
    some (0)
  ) else (
    if 122 < p0 then (
      some (0)
    ) else (
      some (1)
    )
  )
def P_X7_passLetters_0 (text_size : Int32) (f_text_bytes : (Nat → Int32)) : Nat → Int32 → Option (Int32)
  | 0, _ => none
  | n + 1, x0_o_next =>
    (P_X6_size text_size).bind fun (z_8 : Int32) =>
      if z_8 ≤ x0_o_next then (
        some (x0_o_next)
      ) else (
        (P_X6_byteAt x0_o_next text_size f_text_bytes).bind fun (z_22 : Int32) =>
          (P_X7_isLetter z_22).bind fun (z_25 : Int32) =>
            if z_25 = 0 then (
              some (x0_o_next)
            ) else (
              P_X7_passLetters_0 text_size f_text_bytes n (x0_o_next + 1)
            )
      )
def P_X7_passLetters (o_next : Int32) (text_size : Int32) (f_text_bytes : (Nat → Int32)) : Option (Int32) :=
  P_X7_passLetters_0 text_size f_text_bytes QF o_next
def P_X7_isDigit (p0 : Int32) : Option (Int32) :=
  if p0 < 48 then (
    some (0)
  ) else (
    if 57 < p0 then (
      some (0)
    ) else (
      some (1)
    )
  )
def P_X7_passDigits_0 (text_size : Int32) (f_text_bytes : (Nat → Int32)) : Nat → Int32 → Option (Int32)
  | 0, _ => none
  | n + 1, x0_o_next =>
    (P_X6_size text_size).bind fun (z_8 : Int32) =>
      if z_8 ≤ x0_o_next then (
        some (x0_o_next)
      ) else (
        (P_X6_byteAt x0_o_next text_size f_text_bytes).bind fun (z_22 : Int32) =>
          (P_X7_isDigit z_22).bind fun (z_25 : Int32) =>
            if z_25 = 0 then (
              some (x0_o_next)
            ) else (
              P_X7_passDigits_0 text_size f_text_bytes n (x0_o_next + 1)
            )
      )
def P_X7_passDigits (o_next : Int32) (text_size : Int32) (f_text_bytes : (Nat → Int32)) : Option (Int32) :=
  P_X7_passDigits_0 text_size f_text_bytes QF o_next
def P_X7_isMark (p0 : Int32) : Option (Int32) :=
  jn (fun (_ : Unit) =>
    some (1)
  ) (fun (j30 : Unit → Option (Int32)) =>
    if p0 = 59 then (
      j30 ()
    ) else (
      if p0 = 124 then (
        j30 ()
      ) else (
        if p0 = 38 then (
          j30 ()
        ) else (
          if p0 = 40 then (
            j30 ()
          ) else (
            if p0 = 41 then (
              j30 ()
            ) else (
              some (0)
            )
          )
        )
      )
    )
  )
def P_X7_step_0 (text_size : Int32) (f_text_bytes : (Nat → Int32)) (k43 : Int32 → Option (Int32 × Int32 × Int32)) : Nat → Int32 → Option (Int32 × Int32 × Int32)
  | 0, _ => none
  | n + 1, x0_o_next =>
    (P_X6_size text_size).bind fun (z_8 : Int32) =>
      if z_8 ≤ x0_o_next then (
        k43 x0_o_next
      ) else (
        (P_X6_byteAt x0_o_next text_size f_text_bytes).bind fun (z_22 : Int32) =>
          if z_22 = 32 then (
            P_X7_step_0 text_size f_text_bytes k43 n (x0_o_next + 1)
          ) else (
            k43 x0_o_next
          )
      )
def P_X7_step (o_next : Int32) (o_place : Int32) (o_kind : Int32) (text_size : Int32) (f_text_bytes : (Nat → Int32)) : Option (Int32 × Int32 × Int32) :=
  jn (fun (x43_o_next : Int32) =>
    (P_X6_byteAt x43_o_next text_size f_text_bytes).bind fun (z_59 : Int32) =>
      (P_X6_size text_size).bind fun (z_71 : Int32) =>
        if x43_o_next < z_71 then (
          (P_X7_isLetter z_59).bind fun (z_86 : Int32) =>
            if z_86 = 0 then (
              (P_X7_isDigit z_59).bind fun (z_105 : Int32) =>
                if z_105 = 0 then (
                  (P_X7_isMark z_59).bind fun (z_125 : Int32) =>
                    jn (fun (x136_s1 : Int32) =>
                      some (x43_o_next + 1, x43_o_next, x136_s1)
                    ) (fun (j136 : Int32 → Option (Int32 × Int32 × Int32)) =>
                      if z_125 = 0 then (
                        j136 1
                      ) else (
                        j136 z_59
                      )
                    )
                ) else (
                  (P_X7_passDigits x43_o_next text_size f_text_bytes).bind fun (z_117 : Int32) =>
                    some (z_117, x43_o_next, 3)
                )
            ) else (
              (P_X7_passLetters x43_o_next text_size f_text_bytes).bind fun (z_98 : Int32) =>
                some (z_98, x43_o_next, 2)
            )
        ) else (
          some (x43_o_next, x43_o_next, 0)
        )
  ) (fun (k43 : Int32 → Option (Int32 × Int32 × Int32)) =>
    P_X7_step_0 text_size f_text_bytes k43 QF o_next
  )
def P_X7_is (p1 : Int32) (o_kind : Int32) : Option (Int32) :=
  if o_kind = p1 then (
    some (1)
  ) else (
    some (0)
  )
def P_X7_isChoice_29 (o_place : Int32) (text_size : Int32) (f_text_bytes : (Nat → Int32)) : Nat → Int32 → Option (Int32)
  | 0, _ => none
  | n + 1, x29_l1 =>
    if 6 ≤ x29_l1 then (
      some (1)
    ) else (
      (P_X6_byteAt (o_place + x29_l1) text_size f_text_bytes).bind fun (z_48 : Int32) =>
        ck x29_l1 6 (
          if z_48 = (chs x29_l1.toNatClampNeg) then (
            P_X7_isChoice_29 o_place text_size f_text_bytes n (x29_l1 + 1)
          ) else (
            some (0)
          )
        )
    )
def P_X7_isChoice (o_next : Int32) (o_place : Int32) (o_kind : Int32) (text_size : Int32) (f_text_bytes : (Nat → Int32)) : Option (Int32) :=
  if o_kind = 2 then (
    if (o_next - o_place) = 6 then (
      P_X7_isChoice_29 o_place text_size f_text_bytes QF 0
    ) else (
      some (0)
    )
  ) else (
    some (0)
  )
def P_X7_place (o_place : Int32) : Option (Int32) :=
  some (o_place)
def P_X7_number_48 (o_next : Int32) (text_size : Int32) (f_text_bytes : (Nat → Int32)) (k85 : Int32 → Option (Int32)) : Nat → Int32 → Int32 → Option (Int32)
  | 0, _, _ => none
  | n + 1, x48_l2, x48_l3 =>
    if o_next ≤ x48_l3 then (
      k85 x48_l2
    ) else (
      if 99 < x48_l2 then (
        k85 x48_l2
      ) else (
        (P_X6_byteAt x48_l3 text_size f_text_bytes).bind fun (z_71 : Int32) =>
          P_X7_number_48 o_next text_size f_text_bytes k85 n (((x48_l2 * 10) + z_71) - 48) (x48_l3 + 1)
      )
    )
def P_X7_number (o_next : Int32) (o_place : Int32) (o_kind : Int32) (text_size : Int32) (f_text_bytes : (Nat → Int32)) : Option (Int32) :=
  if o_kind = 3 then (
    jn (fun (_ : Unit) =>
      jn (fun (x85_l2 : Int32) =>
        if 99 < x85_l2 then (
          some ((-1))
        ) else (
          some (x85_l2)
        )
      ) (fun (k85 : Int32 → Option (Int32)) =>
        P_X7_number_48 o_next text_size f_text_bytes k85 QF 0 o_place
      )
    ) (fun (j41 : Unit → Option (Int32)) =>
      if (o_next - o_place) ≤ 1 then (
        j41 ()
      ) else (
        (P_X6_byteAt o_place text_size f_text_bytes).bind fun (z_31 : Int32) =>
          if z_31 = 48 then (
            some ((-1))
          ) else (
            j41 ()
          )
      )
    )
  ) else (
    some ((-1))
  )
def P_X2_faultOfTongue_16 (tokens_text_size : Int32) (f_tokens_text_bytes : (Nat → Int32)) (k168 : Int32 → Int32 → Int32 → Int32 → (Nat → Int32) → Option (Int32 × Int32 × Int32 × Int32 × Int32 × (Nat → Int32))) (k59 : Int32 → Int32 → Int32 → Int32 → (Nat → Int32) → Option (Int32 × Int32 × Int32 × Int32 × Int32 × (Nat → Int32))) (k101 : Int32 → Int32 → Int32 → Int32 → (Nat → Int32) → Option (Int32 × Int32 × Int32 × Int32 × Int32 × (Nat → Int32))) (k128 : Int32 → Int32 → Int32 → Int32 → (Nat → Int32) → Option (Int32 × Int32 × Int32 × Int32 × Int32 × (Nat → Int32))) : Nat → Int32 → Int32 → Int32 → Int32 → Int32 → Int32 → (Nat → Int32) → Option (Int32 × Int32 × Int32 × Int32 × Int32 × (Nat → Int32))
  | 0, _, _, _, _, _, _, _ => none
  | n + 1, x16_l1, x16_l2, x16_o_choices, x16_tokens_next, x16_tokens_place, x16_tokens_kind, x16_f_values =>
    if 3 < x16_l2 then (
      k168 x16_o_choices x16_tokens_next x16_tokens_place x16_tokens_kind x16_f_values
    ) else (
      (P_X7_step x16_tokens_next x16_tokens_place x16_tokens_kind tokens_text_size f_tokens_text_bytes).bind fun (z_25 : Int32 × Int32 × Int32) =>
        (P_X7_is 0 z_25.2.2).bind fun (z_33 : Int32) =>
          if z_33 = 0 then (
            (P_X7_isChoice z_25.1 z_25.2.1 z_25.2.2 tokens_text_size f_tokens_text_bytes).bind fun (z_45 : Int32) =>
              if z_45 = 0 then (
                k59 x16_o_choices z_25.1 z_25.2.1 z_25.2.2 x16_f_values
              ) else (
                if x16_o_choices = 3 then (
                  k59 x16_o_choices z_25.1 z_25.2.1 z_25.2.2 x16_f_values
                ) else (
                  (P_X7_step z_25.1 z_25.2.1 z_25.2.2 tokens_text_size f_tokens_text_bytes).bind fun (z_71 : Int32 × Int32 × Int32) =>
                    (P_X7_number z_71.1 z_71.2.1 z_71.2.2 tokens_text_size f_tokens_text_bytes).bind fun (z_78 : Int32) =>
                      if z_78 < 2 then (
                        k101 x16_o_choices z_71.1 z_71.2.1 z_71.2.2 x16_f_values
                      ) else (
                        if 9 < z_78 then (
                          k101 x16_o_choices z_71.1 z_71.2.1 z_71.2.2 x16_f_values
                        ) else (
                          if (x16_l1 * z_78) ≤ 9 then (
                            (P_X7_step z_71.1 z_71.2.1 z_71.2.2 tokens_text_size f_tokens_text_bytes).bind fun (z_113 : Int32 × Int32 × Int32) =>
                              (P_X7_is 59 z_113.2.2).bind fun (z_122 : Int32) =>
                                if z_122 = 0 then (
                                  k128 x16_o_choices z_113.1 z_113.2.1 z_113.2.2 x16_f_values
                                ) else (
                                  (P_X4_put 3 x16_o_choices z_78 x16_f_values).bind fun (z_145 : (Nat → Int32)) =>
                                    P_X2_faultOfTongue_16 tokens_text_size f_tokens_text_bytes k168 k59 k101 k128 n (x16_l1 * z_78) (x16_l2 + 1) (x16_o_choices + 1) z_113.1 z_113.2.1 z_113.2.2 z_145
                                )
                          ) else (
                            k101 x16_o_choices z_71.1 z_71.2.1 z_71.2.2 x16_f_values
                          )
                        )
                      )
                )
              )
          ) else (
            some ((-1), x16_o_choices, z_25.1, z_25.2.1, z_25.2.2, x16_f_values)
          )
    )
def P_X2_faultOfTongue (o_choices : Int32) (tokens_next : Int32) (tokens_place : Int32) (tokens_kind : Int32) (tokens_text_size : Int32) (f_tokens_text_bytes : (Nat → Int32)) (f_values : (Nat → Int32)) : Option (Int32 × Int32 × Int32 × Int32 × Int32 × (Nat → Int32)) :=
  (P_X7_begin tokens_next tokens_place tokens_kind).bind fun (z_11 : Int32 × Int32 × Int32) =>
    jn (fun (x168_o_choices : Int32) (x168_tokens_next : Int32) (x168_tokens_place : Int32) (x168_tokens_kind : Int32) (x168_f_values : (Nat → Int32)) =>
      (P_X7_place x168_tokens_place).bind fun (z_172 : Int32) =>
        some (z_172, x168_o_choices, x168_tokens_next, x168_tokens_place, x168_tokens_kind, x168_f_values)
    ) (fun (k168 : Int32 → Int32 → Int32 → Int32 → (Nat → Int32) → Option (Int32 × Int32 × Int32 × Int32 × Int32 × (Nat → Int32))) =>
      jn (fun (x59_o_choices : Int32) (x59_tokens_next : Int32) (x59_tokens_place : Int32) (x59_tokens_kind : Int32) (x59_f_values : (Nat → Int32)) =>
      (P_X7_place x59_tokens_place).bind fun (z_63 : Int32) =>
        some (z_63, x59_o_choices, x59_tokens_next, x59_tokens_place, x59_tokens_kind, x59_f_values)
      ) (fun (k59 : Int32 → Int32 → Int32 → Int32 → (Nat → Int32) → Option (Int32 × Int32 × Int32 × Int32 × Int32 × (Nat → Int32))) =>
        jn (fun (x101_o_choices : Int32) (x101_tokens_next : Int32) (x101_tokens_place : Int32) (x101_tokens_kind : Int32) (x101_f_values : (Nat → Int32)) =>
      (P_X7_place x101_tokens_place).bind fun (z_105 : Int32) =>
        some (z_105, x101_o_choices, x101_tokens_next, x101_tokens_place, x101_tokens_kind, x101_f_values)
        ) (fun (k101 : Int32 → Int32 → Int32 → Int32 → (Nat → Int32) → Option (Int32 × Int32 × Int32 × Int32 × Int32 × (Nat → Int32))) =>
          jn (fun (x128_o_choices : Int32) (x128_tokens_next : Int32) (x128_tokens_place : Int32) (x128_tokens_kind : Int32) (x128_f_values : (Nat → Int32)) =>
      (P_X7_place x128_tokens_place).bind fun (z_132 : Int32) =>
        some (z_132, x128_o_choices, x128_tokens_next, x128_tokens_place, x128_tokens_kind, x128_f_values)
          ) (fun (k128 : Int32 → Int32 → Int32 → Int32 → (Nat → Int32) → Option (Int32 × Int32 × Int32 × Int32 × Int32 × (Nat → Int32))) =>
            P_X2_faultOfTongue_16 tokens_text_size f_tokens_text_bytes k168 k59 k101 k128 QF 1 0 0 z_11.1 z_11.2.1 z_11.2.2 f_values
          )
        )
      )
    )
def P_X8_begin (o_choices : Int32) (o_worlds : Int32) : Option (Int32 × Int32) :=
  some (0, 1)
def P_X2_choicesRead (o_choices : Int32) : Option (Int32) :=
  some (o_choices)
def P_X2_valuesRead (p1 : Int32) (f_values : (Nat → Int32)) : Option (Int32) :=
  (P_X4_at 3 p1 f_values).bind fun (z_5 : Int32) =>
    some (z_5)
def P_X8_addChoice (p1 : Int32) (o_choices : Int32) (o_worlds : Int32) (f_values : (Nat → Int32)) : Option (Int32 × Int32 × (Nat → Int32)) :=
  (P_X4_put 3 o_choices p1 f_values).bind fun (z_9 : (Nat → Int32)) =>
    some (o_choices + 1, o_worlds * p1, z_9)
def P_X8_isChoice (p1 : Int32) (o_choices : Int32) : Option (Int32) :=
  if p1 < 0 then (
    some (0)
  ) else (
    if o_choices ≤ p1 then (
      some (0)
    ) else (
      some (1)
    )
  )
def P_X8_valuesOf (p1 : Int32) (o_choices : Int32) (f_values : (Nat → Int32)) : Option (Int32) :=
  (P_X8_isChoice p1 o_choices).bind fun (z_2 : Int32) =>
    if z_2 = 0 then (
      some (0)
    ) else (
      (P_X4_at 3 p1 f_values).bind fun (z_13 : Int32) =>
        some (z_13)
    )
def P_X8_layOutChoice_39 (p1 : Int32) (p2 : Int32) (o_choices : Int32) (o_worlds : Int32) (f_values : (Nat → Int32)) : Nat → Int32 → Int32 → Int32 → (Nat → Int32) → Option ((Nat → Int32))
  | 0, _, _, _, _ => none
  | n + 1, x39_l3, x39_l4, x39_l5, x39_f_left =>
    if o_worlds ≤ x39_l5 then (
      some (x39_f_left)
    ) else (
      (P_X4_at 30 ((10 * p1) + x39_l3) x39_f_left).bind fun (z_68 : Int32) =>
        (P_X4_put 30 ((10 * p1) + x39_l3) (z_68 ||| (1 <<< (x39_l5 &&& 31))) x39_f_left).bind fun (z_76 : (Nat → Int32)) =>
          jn (fun (x110_l3 : Int32) (x110_l4 : Int32) =>
            P_X8_layOutChoice_39 p1 p2 o_choices o_worlds f_values n x110_l3 x110_l4 (x39_l5 + 1) z_76
          ) (fun (j110 : Int32 → Int32 → Option ((Nat → Int32))) =>
            if (x39_l4 + 1) = p2 then (
              (P_X8_valuesOf p1 o_choices f_values).bind fun (z_96 : Int32) =>
                jn (fun (x109_s0 : Int32) =>
                  j110 x109_s0 0
                ) (fun (j109 : Int32 → Option ((Nat → Int32))) =>
                  if z_96 ≤ (x39_l3 + 1) then (
                    j109 0
                  ) else (
                    j109 (x39_l3 + 1)
                  )
                )
            ) else (
              j110 x39_l3 (x39_l4 + 1)
            )
          )
    )
def P_X8_layOutChoice_2 (p1 : Int32) (o_choices : Int32) (f_values : (Nat → Int32)) (k31 : (Nat → Int32) → Option ((Nat → Int32))) : Nat → Int32 → (Nat → Int32) → Option ((Nat → Int32))
  | 0, _, _ => none
  | n + 1, x2_l3, x2_f_left =>
    (P_X8_valuesOf p1 o_choices f_values).bind fun (z_5 : Int32) =>
      if z_5 ≤ x2_l3 then (
        k31 x2_f_left
      ) else (
        (P_X4_put 30 ((10 * p1) + x2_l3) 0 x2_f_left).bind fun (z_22 : (Nat → Int32)) =>
          P_X8_layOutChoice_2 p1 o_choices f_values k31 n (x2_l3 + 1) z_22
      )
def P_X8_layOutChoice (p1 : Int32) (p2 : Int32) (o_choices : Int32) (o_worlds : Int32) (f_values : (Nat → Int32)) (f_left : (Nat → Int32)) : Option ((Nat → Int32)) :=
  jn (fun (x31_f_left : (Nat → Int32)) =>
    P_X8_layOutChoice_39 p1 p2 o_choices o_worlds f_values QF 0 0 0 x31_f_left
  ) (fun (k31 : (Nat → Int32) → Option ((Nat → Int32))) =>
    P_X8_layOutChoice_2 p1 o_choices f_values k31 QF 0 f_left
  )
def P_X8_layOut_4 (o_choices : Int32) (o_worlds : Int32) (f_values : (Nat → Int32)) : Nat → Int32 → Int32 → (Nat → Int32) → Option ((Nat → Int32))
  | 0, _, _, _ => none
  | n + 1, x4_l1, x4_l2, x4_f_left =>
    if o_choices ≤ x4_l2 then (
      some (x4_f_left)
    ) else (
      (P_X8_layOutChoice x4_l2 x4_l1 o_choices o_worlds f_values x4_f_left).bind fun (z_15 : (Nat → Int32)) =>
        (P_X8_valuesOf x4_l2 o_choices f_values).bind fun (z_21 : Int32) =>
          P_X8_layOut_4 o_choices o_worlds f_values n (x4_l1 * z_21) (x4_l2 + 1) z_15
    )
def P_X8_layOut (o_choices : Int32) (o_worlds : Int32) (f_values : (Nat → Int32)) (f_left : (Nat → Int32)) : Option ((Nat → Int32)) :=
  P_X8_layOut_4 o_choices o_worlds f_values QF 1 0 f_left
def P_X0_forget (o_sayings : Int32) (o_words : Int32) (o_filled : Int32) : Option (Int32 × Int32 × Int32) :=
  some (0, 0, 0)
def P_X3_forget (o_known : Int32) : Option (Int32) :=
  some (0)
def P_X10_signsChanged (o_measured : Int32) (refusals_known : Int32) : Option (Int32 × Int32) :=
  (P_X3_forget refusals_known).bind fun (z_9 : Int32) =>
    some (0, z_9)
def P_X8_choices (o_choices : Int32) : Option (Int32) :=
  some (o_choices)
def P_X10_tongue_27 (z_4 : Int32 × Int32 × Int32 × Int32 × Int32 × (Nat → Int32)) (k59 : Int32 → Int32 → (Nat → Int32) → Option (Int32 × Int32 × Int32 × Int32 × Int32 × (Nat → Int32) × (Nat → Int32) × Int32 × Int32 × Int32 × Int32 × Int32 × Int32 × Int32 × Int32 × Int32 × Int32 × Int32 × Int32 × Int32 × (Nat → Int32) × Int32)) : Nat → Int32 → Int32 → Int32 → (Nat → Int32) → Option (Int32 × Int32 × Int32 × Int32 × Int32 × (Nat → Int32) × (Nat → Int32) × Int32 × Int32 × Int32 × Int32 × Int32 × Int32 × Int32 × Int32 × Int32 × Int32 × Int32 × Int32 × Int32 × (Nat → Int32) × Int32)
  | 0, _, _, _, _ => none
  | n + 1, x27_l2, x27_speech_choices, x27_speech_worlds, x27_f_speech_values =>
    (P_X2_choicesRead z_4.2.1).bind fun (z_32 : Int32) =>
      if z_32 ≤ x27_l2 then (
        k59 x27_speech_choices x27_speech_worlds x27_f_speech_values
      ) else (
        (P_X2_valuesRead x27_l2 z_4.2.2.2.2.2).bind fun (z_47 : Int32) =>
          (P_X8_addChoice z_47 x27_speech_choices x27_speech_worlds x27_f_speech_values).bind fun (z_50 : Int32 × Int32 × (Nat → Int32)) =>
            P_X10_tongue_27 z_4 k59 n (x27_l2 + 1) z_50.1 z_50.2.1 z_50.2.2
      )
def P_X10_tongue (o_measured : Int32) (text_size : Int32) (f_text_bytes : (Nat → Int32)) (speech_choices : Int32) (speech_worlds : Int32) (f_speech_values : (Nat → Int32)) (f_speech_left : (Nat → Int32)) (now_sayings : Int32) (now_words : Int32) (now_filled : Int32) (image0_sayings : Int32) (image0_words : Int32) (image0_filled : Int32) (image1_sayings : Int32) (image1_words : Int32) (image1_filled : Int32) (reader_choices : Int32) (reader_tokens_next : Int32) (reader_tokens_place : Int32) (reader_tokens_kind : Int32) (f_reader_values : (Nat → Int32)) (refusals_known : Int32) : Option (Int32 × Int32 × Int32 × Int32 × Int32 × (Nat → Int32) × (Nat → Int32) × Int32 × Int32 × Int32 × Int32 × Int32 × Int32 × Int32 × Int32 × Int32 × Int32 × Int32 × Int32 × Int32 × (Nat → Int32) × Int32) :=
  (P_X2_faultOfTongue reader_choices reader_tokens_next reader_tokens_place reader_tokens_kind text_size f_text_bytes f_reader_values).bind fun (z_4 : Int32 × Int32 × Int32 × Int32 × Int32 × (Nat → Int32)) =>
    if z_4.1 = (-1) then (
      (P_X8_begin speech_choices speech_worlds).bind fun (z_22 : Int32 × Int32) =>
        jn (fun (x59_speech_choices : Int32) (x59_speech_worlds : Int32) (x59_f_speech_values : (Nat → Int32)) =>
          (P_X8_layOut x59_speech_choices x59_speech_worlds x59_f_speech_values f_speech_left).bind fun (z_63 : (Nat → Int32)) =>
            (P_X6_drop text_size).bind fun (z_70 : Int32 × Int32) =>
              (P_X0_forget now_sayings now_words now_filled).bind fun (z_78 : Int32 × Int32 × Int32) =>
                (P_X0_forget image0_sayings image0_words image0_filled).bind fun (z_85 : Int32 × Int32 × Int32) =>
                  (P_X0_forget image1_sayings image1_words image1_filled).bind fun (z_92 : Int32 × Int32 × Int32) =>
                    (P_X10_signsChanged o_measured refusals_known).bind fun (z_96 : Int32 × Int32) =>
                      (P_X8_choices x59_speech_choices).bind fun (z_103 : Int32) =>
                        some (z_103, z_96.1, z_70.2, x59_speech_choices, x59_speech_worlds, x59_f_speech_values, z_63, z_78.1, z_78.2.1, z_78.2.2, z_85.1, z_85.2.1, z_85.2.2, z_92.1, z_92.2.1, z_92.2.2, z_4.2.1, z_4.2.2.1, z_4.2.2.2.1, z_4.2.2.2.2.1, z_4.2.2.2.2.2, z_96.2)
        ) (fun (k59 : Int32 → Int32 → (Nat → Int32) → Option (Int32 × Int32 × Int32 × Int32 × Int32 × (Nat → Int32) × (Nat → Int32) × Int32 × Int32 × Int32 × Int32 × Int32 × Int32 × Int32 × Int32 × Int32 × Int32 × Int32 × Int32 × Int32 × (Nat → Int32) × Int32)) =>
          P_X10_tongue_27 z_4 k59 QF 0 z_22.1 z_22.2 f_speech_values
        )
    ) else (
      some ((-10) - z_4.1, o_measured, text_size, speech_choices, speech_worlds, f_speech_values, f_speech_left, now_sayings, now_words, now_filled, image0_sayings, image0_words, image0_filled, image1_sayings, image1_words, image1_filled, z_4.2.1, z_4.2.2.1, z_4.2.2.2.1, z_4.2.2.2.2.1, z_4.2.2.2.2.2, refusals_known)
    )
def P_X0_sayings (o_sayings : Int32) : Option (Int32) :=
  some (o_sayings)
def P_X8_all (o_worlds : Int32) : Option (Int32) :=
  some ((1 <<< (o_worlds &&& 31)) - 1)
def P_X2_openLevel (o_depth : Int32) (o_factorDue : Int32) (signs_tongue_worlds : Int32) (f_termsLeft : (Nat → Int32)) (f_factorsLeft : (Nat → Int32)) : Option (Int32 × (Nat → Int32) × (Nat → Int32)) :=
  (P_X4_put 10 o_depth 0 f_termsLeft).bind fun (z_9 : (Nat → Int32)) =>
    (P_X8_all signs_tongue_worlds).bind fun (z_27 : Int32) =>
      (P_X4_put 10 o_depth z_27 f_factorsLeft).bind fun (z_30 : (Nat → Int32)) =>
        some (1, z_9, z_30)
def P_X7_letter (o_next : Int32) (o_place : Int32) (o_kind : Int32) (text_size : Int32) (f_text_bytes : (Nat → Int32)) : Option (Int32) :=
  if o_kind = 2 then (
    if (o_next - o_place) = 1 then (
      (P_X6_byteAt o_place text_size f_text_bytes).bind fun (z_29 : Int32) =>
        some (z_29)
    ) else (
      some (0)
    )
  ) else (
    some (0)
  )
def P_X5_groupOf (p1 : Int32) (tongue_choices : Int32) : Option (Int32) :=
  if p1 = 119 then (
    some (3)
  ) else (
    (P_X8_isChoice (p1 - 97) tongue_choices).bind fun (z_16 : Int32) =>
      if z_16 = 0 then (
        some ((-1))
      ) else (
        some (p1 - 97)
      )
  )
def P_X0_words (o_words : Int32) : Option (Int32) :=
  some (o_words)
def P_X5_many (p1 : Int32) (tongue_choices : Int32) (f_tongue_values : (Nat → Int32)) (kept_words : Int32) : Option (Int32) :=
  if p1 = 3 then (
    (P_X0_words kept_words).bind fun (z_9 : Int32) =>
      some (z_9)
  ) else (
    (P_X8_valuesOf p1 tongue_choices f_tongue_values).bind fun (z_20 : Int32) =>
      some (z_20)
  )
def P_X0_wordSet (p1 : Int32) (f_wordSets : (Nat → Int32)) : Option (Int32) :=
  (P_X4_at 3 p1 f_wordSets).bind fun (z_5 : Int32) =>
    some (z_5)
def P_X8_leftBy (p1 : Int32) (p2 : Int32) (f_left : (Nat → Int32)) : Option (Int32) :=
  (P_X4_at 30 ((10 * p1) + p2) f_left).bind fun (z_10 : Int32) =>
    some (z_10)
def P_X5_leftBy (p1 : Int32) (p2 : Int32) (f_tongue_left : (Nat → Int32)) (f_kept_wordSets : (Nat → Int32)) : Option (Int32) :=
  if p1 = 3 then (
    (P_X0_wordSet p2 f_kept_wordSets).bind fun (z_10 : Int32) =>
      some (z_10)
  ) else (
    (P_X8_leftBy p1 p2 f_tongue_left).bind fun (z_22 : Int32) =>
      some (z_22)
  )
def P_X2_addFactor (p1 : Int32) (o_depth : Int32) (o_factorDue : Int32) (f_factorsLeft : (Nat → Int32)) : Option (Int32 × (Nat → Int32)) :=
  (P_X4_at 10 o_depth f_factorsLeft).bind fun (z_16 : Int32) =>
    (P_X4_put 10 o_depth (z_16 &&& p1) f_factorsLeft).bind fun (z_21 : (Nat → Int32)) =>
      some (0, z_21)
def P_X2_readFactor (o_depth : Int32) (o_many : Int32) (o_factorDue : Int32) (tokens_next : Int32) (tokens_place : Int32) (tokens_kind : Int32) (tokens_text_size : Int32) (f_tokens_text_bytes : (Nat → Int32)) (signs_tongue_choices : Int32) (signs_tongue_worlds : Int32) (f_signs_tongue_values : (Nat → Int32)) (f_signs_tongue_left : (Nat → Int32)) (signs_kept_words : Int32) (f_signs_kept_wordSets : (Nat → Int32)) (f_termsLeft : (Nat → Int32)) (f_factorsLeft : (Nat → Int32)) : Option (Int32 × Int32 × Int32 × Int32 × Int32 × Int32 × Int32 × (Nat → Int32) × (Nat → Int32)) :=
  (P_X7_is 40 tokens_kind).bind fun (z_6 : Int32) =>
    if z_6 = 0 then (
      (P_X7_letter tokens_next tokens_place tokens_kind tokens_text_size f_tokens_text_bytes).bind fun (z_47 : Int32) =>
        (P_X5_groupOf z_47 signs_tongue_choices).bind fun (z_50 : Int32) =>
          if z_50 = (-1) then (
            some (0, o_depth, o_many, o_factorDue, tokens_next, tokens_place, tokens_kind, f_termsLeft, f_factorsLeft)
          ) else (
            (P_X7_step tokens_next tokens_place tokens_kind tokens_text_size f_tokens_text_bytes).bind fun (z_65 : Int32 × Int32 × Int32) =>
              (P_X7_number z_65.1 z_65.2.1 z_65.2.2 tokens_text_size f_tokens_text_bytes).bind fun (z_72 : Int32) =>
                if z_72 < 0 then (
                  some (0, o_depth, o_many, o_factorDue, z_65.1, z_65.2.1, z_65.2.2, f_termsLeft, f_factorsLeft)
                ) else (
                  (P_X5_many z_50 signs_tongue_choices f_signs_tongue_values signs_kept_words).bind fun (z_86 : Int32) =>
                    if z_72 < z_86 then (
                      (P_X5_leftBy z_50 z_72 f_signs_tongue_left f_signs_kept_wordSets).bind fun (z_101 : Int32) =>
                        (P_X2_addFactor z_101 o_depth o_factorDue f_factorsLeft).bind fun (z_104 : Int32 × (Nat → Int32)) =>
                          some (1, o_depth, o_many + 1, z_104.1, z_65.1, z_65.2.1, z_65.2.2, f_termsLeft, z_104.2)
                    ) else (
                      some (0, o_depth, o_many, o_factorDue, z_65.1, z_65.2.1, z_65.2.2, f_termsLeft, f_factorsLeft)
                    )
                )
          )
    ) else (
      if o_depth = 9 then (
        some (0, o_depth, o_many, o_factorDue, tokens_next, tokens_place, tokens_kind, f_termsLeft, f_factorsLeft)
      ) else (
        (P_X2_openLevel (o_depth + 1) o_factorDue signs_tongue_worlds f_termsLeft f_factorsLeft).bind fun (z_34 : Int32 × (Nat → Int32) × (Nat → Int32)) =>
          some (1, o_depth + 1, o_many, z_34.1, tokens_next, tokens_place, tokens_kind, z_34.2.1, z_34.2.2)
      )
    )
def P_X2_levelLeft (o_depth : Int32) (f_termsLeft : (Nat → Int32)) (f_factorsLeft : (Nat → Int32)) : Option (Int32) :=
  (P_X4_at 10 o_depth f_termsLeft).bind fun (z_8 : Int32) =>
    (P_X4_at 10 o_depth f_factorsLeft).bind fun (z_19 : Int32) =>
      some (z_8 ||| z_19)
def P_X2_readBehindFactor (o_depth : Int32) (o_factorDue : Int32) (tokens_kind : Int32) (signs_tongue_worlds : Int32) (f_termsLeft : (Nat → Int32)) (f_factorsLeft : (Nat → Int32)) : Option (Int32 × Int32 × Int32 × (Nat → Int32) × (Nat → Int32)) :=
  (P_X7_is 38 tokens_kind).bind fun (z_6 : Int32) =>
    if z_6 = 0 then (
      (P_X7_is 124 tokens_kind).bind fun (z_25 : Int32) =>
        if z_25 = 0 then (
          (P_X7_is 41 tokens_kind).bind fun (z_80 : Int32) =>
            if z_80 = 0 then (
              some (0, o_depth, o_factorDue, f_termsLeft, f_factorsLeft)
            ) else (
              if o_depth ≤ 0 then (
                some (0, o_depth, o_factorDue, f_termsLeft, f_factorsLeft)
              ) else (
                (P_X2_levelLeft o_depth f_termsLeft f_factorsLeft).bind fun (z_94 : Int32) =>
                  (P_X2_addFactor z_94 (o_depth - 1) o_factorDue f_factorsLeft).bind fun (z_110 : Int32 × (Nat → Int32)) =>
                    some (1, o_depth - 1, z_110.1, f_termsLeft, z_110.2)
              )
            )
        ) else (
          (P_X2_levelLeft o_depth f_termsLeft f_factorsLeft).bind fun (z_40 : Int32) =>
            (P_X4_put 10 o_depth z_40 f_termsLeft).bind fun (z_43 : (Nat → Int32)) =>
              (P_X8_all signs_tongue_worlds).bind fun (z_61 : Int32) =>
                (P_X4_put 10 o_depth z_61 f_factorsLeft).bind fun (z_64 : (Nat → Int32)) =>
                  some (1, o_depth, 1, z_43, z_64)
        )
    ) else (
      some (1, o_depth, 1, f_termsLeft, f_factorsLeft)
    )
def P_X2_faultOfSaying_23 (tokens_text_size : Int32) (f_tokens_text_bytes : (Nat → Int32)) (signs_tongue_choices : Int32) (signs_tongue_worlds : Int32) (f_signs_tongue_values : (Nat → Int32)) (f_signs_tongue_left : (Nat → Int32)) (signs_kept_words : Int32) (f_signs_kept_wordSets : (Nat → Int32)) (k101 : Int32 → Int32 → Int32 → Int32 → Int32 → Int32 → (Nat → Int32) → (Nat → Int32) → Option (Int32 × Int32 × Int32 × Int32 × Int32 × Int32 × Int32 × (Nat → Int32) × (Nat → Int32))) (k87 : Int32 → Int32 → Int32 → Int32 → Int32 → Int32 → (Nat → Int32) → (Nat → Int32) → Option (Int32 × Int32 × Int32 × Int32 × Int32 × Int32 × Int32 × (Nat → Int32) × (Nat → Int32))) : Nat → Int32 → Int32 → Int32 → Int32 → Int32 → Int32 → Int32 → (Nat → Int32) → (Nat → Int32) → Option (Int32 × Int32 × Int32 × Int32 × Int32 × Int32 × Int32 × (Nat → Int32) × (Nat → Int32))
  | 0, _, _, _, _, _, _, _, _, _ => none
  | n + 1, x23_l1, x23_o_depth, x23_o_many, x23_o_factorDue, x23_tokens_next, x23_tokens_place, x23_tokens_kind, x23_f_termsLeft, x23_f_factorsLeft =>
    if 200 < x23_l1 then (
      k101 x23_o_depth x23_o_many x23_o_factorDue x23_tokens_next x23_tokens_place x23_tokens_kind x23_f_termsLeft x23_f_factorsLeft
    ) else (
      (P_X7_step x23_tokens_next x23_tokens_place x23_tokens_kind tokens_text_size f_tokens_text_bytes).bind fun (z_34 : Int32 × Int32 × Int32) =>
        (P_X7_is 0 z_34.2.2).bind fun (z_42 : Int32) =>
          jn (fun (_ : Unit) =>
            jn (fun (x82_o_depth : Int32) (x82_o_many : Int32) (x82_o_factorDue : Int32) (x82_tokens_next : Int32) (x82_tokens_place : Int32) (x82_tokens_kind : Int32) (x82_f_termsLeft : (Nat → Int32)) (x82_f_factorsLeft : (Nat → Int32)) (x82_s0 : Int32) =>
              if x82_s0 = 0 then (
                k87 x82_o_depth x82_o_many x82_o_factorDue x82_tokens_next x82_tokens_place x82_tokens_kind x82_f_termsLeft x82_f_factorsLeft
              ) else (
                P_X2_faultOfSaying_23 tokens_text_size f_tokens_text_bytes signs_tongue_choices signs_tongue_worlds f_signs_tongue_values f_signs_tongue_left signs_kept_words f_signs_kept_wordSets k101 k87 n (x23_l1 + 1) x82_o_depth x82_o_many x82_o_factorDue x82_tokens_next x82_tokens_place x82_tokens_kind x82_f_termsLeft x82_f_factorsLeft
              )
            ) (fun (j82 : Int32 → Int32 → Int32 → Int32 → Int32 → Int32 → (Nat → Int32) → (Nat → Int32) → Int32 → Option (Int32 × Int32 × Int32 × Int32 × Int32 × Int32 × Int32 × (Nat → Int32) × (Nat → Int32))) =>
              if x23_o_factorDue = 0 then (
                (P_X2_readBehindFactor x23_o_depth x23_o_factorDue z_34.2.2 signs_tongue_worlds x23_f_termsLeft x23_f_factorsLeft).bind fun (z_79 : Int32 × Int32 × Int32 × (Nat → Int32) × (Nat → Int32)) =>
                  j82 z_79.2.1 x23_o_many z_79.2.2.1 z_34.1 z_34.2.1 z_34.2.2 z_79.2.2.2.1 z_79.2.2.2.2 z_79.1
              ) else (
                (P_X2_readFactor x23_o_depth x23_o_many x23_o_factorDue z_34.1 z_34.2.1 z_34.2.2 tokens_text_size f_tokens_text_bytes signs_tongue_choices signs_tongue_worlds f_signs_tongue_values f_signs_tongue_left signs_kept_words f_signs_kept_wordSets x23_f_termsLeft x23_f_factorsLeft).bind fun (z_72 : Int32 × Int32 × Int32 × Int32 × Int32 × Int32 × Int32 × (Nat → Int32) × (Nat → Int32)) =>
                  j82 z_72.2.1 z_72.2.2.1 z_72.2.2.2.1 z_72.2.2.2.2.1 z_72.2.2.2.2.2.1 z_72.2.2.2.2.2.2.1 z_72.2.2.2.2.2.2.2.1 z_72.2.2.2.2.2.2.2.2 z_72.1
              )
            )
          ) (fun (j64 : Unit → Option (Int32 × Int32 × Int32 × Int32 × Int32 × Int32 × Int32 × (Nat → Int32) × (Nat → Int32))) =>
            if z_42 = 0 then (
              j64 ()
            ) else (
              if x23_o_factorDue = 0 then (
                if x23_o_depth = 0 then (
                  some ((-1), x23_o_depth, x23_o_many, x23_o_factorDue, z_34.1, z_34.2.1, z_34.2.2, x23_f_termsLeft, x23_f_factorsLeft)
                ) else (
                  j64 ()
                )
              ) else (
                j64 ()
              )
            )
          )
    )
def P_X2_faultOfSaying (o_depth : Int32) (o_many : Int32) (o_factorDue : Int32) (tokens_next : Int32) (tokens_place : Int32) (tokens_kind : Int32) (tokens_text_size : Int32) (f_tokens_text_bytes : (Nat → Int32)) (signs_tongue_choices : Int32) (signs_tongue_worlds : Int32) (f_signs_tongue_values : (Nat → Int32)) (f_signs_tongue_left : (Nat → Int32)) (signs_kept_words : Int32) (f_signs_kept_wordSets : (Nat → Int32)) (f_termsLeft : (Nat → Int32)) (f_factorsLeft : (Nat → Int32)) : Option (Int32 × Int32 × Int32 × Int32 × Int32 × Int32 × Int32 × (Nat → Int32) × (Nat → Int32)) :=
  (P_X7_begin tokens_next tokens_place tokens_kind).bind fun (z_4 : Int32 × Int32 × Int32) =>
    (P_X2_openLevel 0 o_factorDue signs_tongue_worlds f_termsLeft f_factorsLeft).bind fun (z_18 : Int32 × (Nat → Int32) × (Nat → Int32)) =>
      jn (fun (x101_o_depth : Int32) (x101_o_many : Int32) (x101_o_factorDue : Int32) (x101_tokens_next : Int32) (x101_tokens_place : Int32) (x101_tokens_kind : Int32) (x101_f_termsLeft : (Nat → Int32)) (x101_f_factorsLeft : (Nat → Int32)) =>
        (P_X7_place x101_tokens_place).bind fun (z_105 : Int32) =>
          some (z_105, x101_o_depth, x101_o_many, x101_o_factorDue, x101_tokens_next, x101_tokens_place, x101_tokens_kind, x101_f_termsLeft, x101_f_factorsLeft)
      ) (fun (k101 : Int32 → Int32 → Int32 → Int32 → Int32 → Int32 → (Nat → Int32) → (Nat → Int32) → Option (Int32 × Int32 × Int32 × Int32 × Int32 × Int32 × Int32 × (Nat → Int32) × (Nat → Int32))) =>
        jn (fun (x87_o_depth : Int32) (x87_o_many : Int32) (x87_o_factorDue : Int32) (x87_tokens_next : Int32) (x87_tokens_place : Int32) (x87_tokens_kind : Int32) (x87_f_termsLeft : (Nat → Int32)) (x87_f_factorsLeft : (Nat → Int32)) =>
        (P_X7_place x87_tokens_place).bind fun (z_91 : Int32) =>
          some (z_91, x87_o_depth, x87_o_many, x87_o_factorDue, x87_tokens_next, x87_tokens_place, x87_tokens_kind, x87_f_termsLeft, x87_f_factorsLeft)
        ) (fun (k87 : Int32 → Int32 → Int32 → Int32 → Int32 → Int32 → (Nat → Int32) → (Nat → Int32) → Option (Int32 × Int32 × Int32 × Int32 × Int32 × Int32 × Int32 × (Nat → Int32) × (Nat → Int32))) =>
          P_X2_faultOfSaying_23 tokens_text_size f_tokens_text_bytes signs_tongue_choices signs_tongue_worlds f_signs_tongue_values f_signs_tongue_left signs_kept_words f_signs_kept_wordSets k101 k87 QF 0 0 0 z_18.1 z_4.1 z_4.2.1 z_4.2.2 z_18.2.1 z_18.2.2
        )
      )
def P_X2_leftBySaying (o_depth : Int32) (f_termsLeft : (Nat → Int32)) (f_factorsLeft : (Nat → Int32)) : Option (Int32) :=
  (P_X2_levelLeft o_depth f_termsLeft f_factorsLeft).bind fun (z_1 : Int32) =>
    some (z_1)
def P_X2_signsRead (o_many : Int32) : Option (Int32) :=
  some (o_many)
def P_X0_addSaying (p1 : Int32) (p2 : Int32) (o_sayings : Int32) (f_left : (Nat → Int32)) (f_signs : (Nat → Int32)) : Option (Int32 × (Nat → Int32) × (Nat → Int32)) :=
  (P_X4_put 8 o_sayings p1 f_left).bind fun (z_9 : (Nat → Int32)) =>
    (P_X4_put 8 o_sayings p2 f_signs).bind fun (z_21 : (Nat → Int32)) =>
      some (o_sayings + 1, z_9, z_21)
def P_X10_say (text_size : Int32) (f_text_bytes : (Nat → Int32)) (speech_choices : Int32) (speech_worlds : Int32) (f_speech_values : (Nat → Int32)) (f_speech_left : (Nat → Int32)) (now_sayings : Int32) (now_words : Int32) (f_now_left : (Nat → Int32)) (f_now_signs : (Nat → Int32)) (f_now_wordSets : (Nat → Int32)) (reader_depth : Int32) (reader_many : Int32) (reader_factorDue : Int32) (reader_tokens_next : Int32) (reader_tokens_place : Int32) (reader_tokens_kind : Int32) (f_reader_termsLeft : (Nat → Int32)) (f_reader_factorsLeft : (Nat → Int32)) : Option (Int32 × Int32 × Int32 × (Nat → Int32) × (Nat → Int32) × Int32 × Int32 × Int32 × Int32 × Int32 × Int32 × (Nat → Int32) × (Nat → Int32)) :=
  (P_X0_sayings now_sayings).bind fun (z_4 : Int32) =>
    if z_4 < 8 then (
      (P_X2_faultOfSaying reader_depth reader_many reader_factorDue reader_tokens_next reader_tokens_place reader_tokens_kind text_size f_text_bytes speech_choices speech_worlds f_speech_values f_speech_left now_words f_now_wordSets f_reader_termsLeft f_reader_factorsLeft).bind fun (z_19 : Int32 × Int32 × Int32 × Int32 × Int32 × Int32 × Int32 × (Nat → Int32) × (Nat → Int32)) =>
        if z_19.1 = (-1) then (
          (P_X2_leftBySaying z_19.2.1 z_19.2.2.2.2.2.2.2.1 z_19.2.2.2.2.2.2.2.2).bind fun (z_41 : Int32) =>
            (P_X2_signsRead z_19.2.2.1).bind fun (z_48 : Int32) =>
              (P_X0_addSaying z_41 z_48 now_sayings f_now_left f_now_signs).bind fun (z_51 : Int32 × (Nat → Int32) × (Nat → Int32)) =>
                (P_X6_drop text_size).bind fun (z_58 : Int32 × Int32) =>
                  (P_X0_sayings z_51.1).bind fun (z_66 : Int32) =>
                    some (z_66, z_58.2, z_51.1, z_51.2.1, z_51.2.2, z_19.2.1, z_19.2.2.1, z_19.2.2.2.1, z_19.2.2.2.2.1, z_19.2.2.2.2.2.1, z_19.2.2.2.2.2.2.1, z_19.2.2.2.2.2.2.2.1, z_19.2.2.2.2.2.2.2.2)
        ) else (
          some ((-10) - z_19.1, text_size, now_sayings, f_now_left, f_now_signs, z_19.2.1, z_19.2.2.1, z_19.2.2.2.1, z_19.2.2.2.2.1, z_19.2.2.2.2.2.1, z_19.2.2.2.2.2.2.1, z_19.2.2.2.2.2.2.2.1, z_19.2.2.2.2.2.2.2.2)
        )
    ) else (
      some ((-3), text_size, now_sayings, f_now_left, f_now_signs, reader_depth, reader_many, reader_factorDue, reader_tokens_next, reader_tokens_place, reader_tokens_kind, f_reader_termsLeft, f_reader_factorsLeft)
    )
def P_X0_dropSaying (o_sayings : Int32) : Option (Int32) :=
  some (o_sayings - 1)
def P_X10_unsay (now_sayings : Int32) : Option (Int32 × Int32) :=
  (P_X0_sayings now_sayings).bind fun (z_4 : Int32) =>
    if z_4 = 0 then (
      some ((-2), now_sayings)
    ) else (
      (P_X0_dropSaying now_sayings).bind fun (z_17 : Int32) =>
        (P_X0_sayings z_17).bind fun (z_24 : Int32) =>
          some (z_24, z_17)
    )
def P_X8_isSet (p1 : Int32) (o_worlds : Int32) : Option (Int32) :=
  if p1 < 0 then (
    some (0)
  ) else (
    (P_X8_all o_worlds).bind fun (z_6 : Int32) =>
      if z_6 < p1 then (
        some (0)
      ) else (
        some (1)
      )
  )
def P_X0_addWord (p1 : Int32) (o_words : Int32) (f_wordSets : (Nat → Int32)) : Option (Int32 × (Nat → Int32)) :=
  (P_X4_put 3 o_words p1 f_wordSets).bind fun (z_9 : (Nat → Int32)) =>
    some (o_words + 1, z_9)
def P_X10_word (p1 : Int32) (o_measured : Int32) (speech_worlds : Int32) (now_words : Int32) (f_now_wordSets : (Nat → Int32)) (refusals_known : Int32) : Option (Int32 × Int32 × Int32 × (Nat → Int32) × Int32) :=
  (P_X8_isSet p1 speech_worlds).bind fun (z_5 : Int32) =>
    if z_5 = 0 then (
      some ((-1), o_measured, now_words, f_now_wordSets, refusals_known)
    ) else (
      (P_X0_words now_words).bind fun (z_17 : Int32) =>
        if z_17 < 3 then (
          (P_X0_addWord p1 now_words f_now_wordSets).bind fun (z_32 : Int32 × (Nat → Int32)) =>
            (P_X10_signsChanged o_measured refusals_known).bind fun (z_36 : Int32 × Int32) =>
              (P_X0_words z_32.1).bind fun (z_43 : Int32) =>
                some (z_43, z_36.1, z_32.1, z_32.2, z_36.2)
        ) else (
          some ((-3), o_measured, now_words, f_now_wordSets, refusals_known)
        )
    )
def P_X0_dropWords (o_words : Int32) : Option (Int32) :=
  some (0)
def P_X10_unword (o_measured : Int32) (now_words : Int32) (refusals_known : Int32) : Option (Int32 × Int32 × Int32 × Int32) :=
  (P_X0_words now_words).bind fun (z_4 : Int32) =>
    (P_X0_dropWords now_words).bind fun (z_12 : Int32) =>
      (P_X10_signsChanged o_measured refusals_known).bind fun (z_16 : Int32 × Int32) =>
        some (z_4, z_16.1, z_12, z_16.2)
def P_X8_isWorld (p1 : Int32) (o_worlds : Int32) : Option (Int32) :=
  if p1 < 0 then (
    some (0)
  ) else (
    if o_worlds ≤ p1 then (
      some (0)
    ) else (
      some (1)
    )
  )
def P_X8_fixedIn_2 (p1 : Int32) (p2 : Int32) (o_choices : Int32) (f_values : (Nat → Int32)) (f_left : (Nat → Int32)) : Nat → Int32 → Option (Int32)
  | 0, _ => none
  | n + 1, x2_l3 =>
    (P_X8_valuesOf p2 o_choices f_values).bind fun (z_5 : Int32) =>
      if z_5 ≤ x2_l3 then (
        some ((-1))
      ) else (
        (P_X8_leftBy p2 x2_l3 f_left).bind fun (z_15 : Int32) =>
          if (p1 &&& (z_15 ^^^ (-1))) = 0 then (
            some (x2_l3)
          ) else (
            P_X8_fixedIn_2 p1 p2 o_choices f_values f_left n (x2_l3 + 1)
          )
      )
def P_X8_fixedIn (p1 : Int32) (p2 : Int32) (o_choices : Int32) (f_values : (Nat → Int32)) (f_left : (Nat → Int32)) : Option (Int32) :=
  P_X8_fixedIn_2 p1 p2 o_choices f_values f_left QF 0
def P_X8_valueIn (p1 : Int32) (p2 : Int32) (o_choices : Int32) (f_values : (Nat → Int32)) (f_left : (Nat → Int32)) : Option (Int32) :=
  (P_X8_fixedIn (1 <<< (p1 &&& 31)) p2 o_choices f_values f_left).bind fun (z_5 : Int32) =>
    some (z_5)
def P_X10_value (p1 : Int32) (p2 : Int32) (speech_choices : Int32) (speech_worlds : Int32) (f_speech_values : (Nat → Int32)) (f_speech_left : (Nat → Int32)) : Option (Int32) :=
  (P_X8_isWorld p1 speech_worlds).bind fun (z_5 : Int32) =>
    if z_5 = 0 then (
      some ((-1))
    ) else (
      (P_X8_isChoice p2 speech_choices).bind fun (z_16 : Int32) =>
        if z_16 = 0 then (
          some ((-1))
        ) else (
          (P_X8_valueIn p1 p2 speech_choices f_speech_values f_speech_left).bind fun (z_30 : Int32) =>
            some (z_30)
        )
    )
def P_X0_isSaying (p1 : Int32) (o_sayings : Int32) : Option (Int32) :=
  if p1 < 0 then (
    some (0)
  ) else (
    if o_sayings ≤ p1 then (
      some (0)
    ) else (
      some (1)
    )
  )
def P_X0_leftBy (p1 : Int32) (f_left : (Nat → Int32)) : Option (Int32) :=
  (P_X4_at 8 p1 f_left).bind fun (z_5 : Int32) =>
    some (z_5)
def P_X0_signsOf (p1 : Int32) (f_signs : (Nat → Int32)) : Option (Int32) :=
  (P_X4_at 8 p1 f_signs).bind fun (z_5 : Int32) =>
    some (z_5)
def P_X10_saying (p1 : Int32) (p2 : Int32) (now_sayings : Int32) (f_now_left : (Nat → Int32)) (f_now_signs : (Nat → Int32)) : Option (Int32) :=
  (P_X0_isSaying p1 now_sayings).bind fun (z_5 : Int32) =>
    if z_5 = 0 then (
      some ((-1))
    ) else (
      if p2 < 0 then (
        some ((-1))
      ) else (
        if p2 ≤ 1 then (
          if p2 = 0 then (
            (P_X0_leftBy p1 f_now_left).bind fun (z_31 : Int32) =>
              some (z_31)
          ) else (
            (P_X0_signsOf p1 f_now_signs).bind fun (z_42 : Int32) =>
              some (z_42)
          )
        ) else (
          some ((-1))
        )
      )
    )
def P_X10_alike (p1 : Int32) (p2 : Int32) (now_sayings : Int32) (f_now_left : (Nat → Int32)) : Option (Int32) :=
  (P_X0_isSaying p1 now_sayings).bind fun (z_5 : Int32) =>
    if z_5 = 0 then (
      some ((-1))
    ) else (
      (P_X0_isSaying p2 now_sayings).bind fun (z_16 : Int32) =>
        if z_16 = 0 then (
          some ((-1))
        ) else (
          (P_X0_leftBy p1 f_now_left).bind fun (z_29 : Int32) =>
            (P_X0_leftBy p2 f_now_left).bind fun (z_37 : Int32) =>
              if z_29 = z_37 then (
                some (1)
              ) else (
                some (0)
              )
        )
    )
def P_X1_note (p1 : Int32) (p2 : Int32) (o_found : Int32) (f_length : (Nat → Int32)) (f_order : (Nat → Int32)) : Option (Int32 × (Nat → Int32) × (Nat → Int32)) :=
  (P_X4_at 512 p1 f_length).bind fun (z_5 : Int32) =>
    if z_5 = 0 then (
      (P_X4_put 512 p1 p2 f_length).bind fun (z_17 : (Nat → Int32)) =>
        (P_X4_put 512 o_found p1 f_order).bind fun (z_29 : (Nat → Int32)) =>
          some (o_found + 1, z_17, z_29)
    ) else (
      some (o_found, f_length, f_order)
    )
def P_X1_noteSigns_9 (signs_tongue_choices : Int32) (f_signs_tongue_values : (Nat → Int32)) (f_signs_tongue_left : (Nat → Int32)) (signs_kept_words : Int32) (f_signs_kept_wordSets : (Nat → Int32)) (x2_l2 : Int32) (k41 : Int32 → (Nat → Int32) → (Nat → Int32) → Option (Int32 × (Nat → Int32) × (Nat → Int32))) : Nat → Int32 → Int32 → (Nat → Int32) → (Nat → Int32) → Option (Int32 × (Nat → Int32) × (Nat → Int32))
  | 0, _, _, _, _ => none
  | n + 1, x9_l3, x9_o_found, x9_f_length, x9_f_order =>
    (P_X5_many x2_l2 signs_tongue_choices f_signs_tongue_values signs_kept_words).bind fun (z_15 : Int32) =>
      if z_15 ≤ x9_l3 then (
        k41 x9_o_found x9_f_length x9_f_order
      ) else (
        (P_X5_leftBy x2_l2 x9_l3 f_signs_tongue_left f_signs_kept_wordSets).bind fun (z_28 : Int32) =>
          (P_X1_note z_28 1 x9_o_found x9_f_length x9_f_order).bind fun (z_32 : Int32 × (Nat → Int32) × (Nat → Int32)) =>
            P_X1_noteSigns_9 signs_tongue_choices f_signs_tongue_values f_signs_tongue_left signs_kept_words f_signs_kept_wordSets x2_l2 k41 n (x9_l3 + 1) z_32.1 z_32.2.1 z_32.2.2
      )
def P_X1_noteSigns_2 (signs_tongue_choices : Int32) (f_signs_tongue_values : (Nat → Int32)) (f_signs_tongue_left : (Nat → Int32)) (signs_kept_words : Int32) (f_signs_kept_wordSets : (Nat → Int32)) (k47 : Int32 → (Nat → Int32) → (Nat → Int32) → Option (Int32 × (Nat → Int32) × (Nat → Int32))) : Nat → Int32 → Int32 → (Nat → Int32) → (Nat → Int32) → Option (Int32 × (Nat → Int32) × (Nat → Int32))
  | 0, _, _, _, _ => none
  | n + 1, x2_l2, x2_o_found, x2_f_length, x2_f_order =>
    if 3 < x2_l2 then (
      k47 x2_o_found x2_f_length x2_f_order
    ) else (
      jn (fun (x41_o_found : Int32) (x41_f_length : (Nat → Int32)) (x41_f_order : (Nat → Int32)) =>
        P_X1_noteSigns_2 signs_tongue_choices f_signs_tongue_values f_signs_tongue_left signs_kept_words f_signs_kept_wordSets k47 n (x2_l2 + 1) x41_o_found x41_f_length x41_f_order
      ) (fun (k41 : Int32 → (Nat → Int32) → (Nat → Int32) → Option (Int32 × (Nat → Int32) × (Nat → Int32))) =>
        P_X1_noteSigns_9 signs_tongue_choices f_signs_tongue_values f_signs_tongue_left signs_kept_words f_signs_kept_wordSets x2_l2 k41 QF 0 x2_o_found x2_f_length x2_f_order
      )
    )
def P_X1_noteSigns (p1 : Int32) (o_found : Int32) (signs_tongue_choices : Int32) (f_signs_tongue_values : (Nat → Int32)) (f_signs_tongue_left : (Nat → Int32)) (signs_kept_words : Int32) (f_signs_kept_wordSets : (Nat → Int32)) (f_length : (Nat → Int32)) (f_order : (Nat → Int32)) : Option (Int32 × (Nat → Int32) × (Nat → Int32)) :=
  jn (fun (x47_o_found : Int32) (x47_f_length : (Nat → Int32)) (x47_f_order : (Nat → Int32)) =>
    if p1 = (-1) then (
      some (x47_o_found, x47_f_length, x47_f_order)
    ) else (
      (P_X1_note p1 1 x47_o_found x47_f_length x47_f_order).bind fun (z_55 : Int32 × (Nat → Int32) × (Nat → Int32)) =>
        some (z_55.1, z_55.2.1, z_55.2.2)
    )
  ) (fun (k47 : Int32 → (Nat → Int32) → (Nat → Int32) → Option (Int32 × (Nat → Int32) × (Nat → Int32))) =>
    P_X1_noteSigns_2 signs_tongue_choices f_signs_tongue_values f_signs_tongue_left signs_kept_words f_signs_kept_wordSets k47 QF 0 o_found f_length f_order
  )
def P_X1_join_72 (p1 : Int32) (p2 : Int32) (z_18 : Int32) (z_45 : Int32) (k120 : Int32 → (Nat → Int32) → (Nat → Int32) → Option (Int32 × (Nat → Int32) × (Nat → Int32))) : Nat → Int32 → Int32 → (Nat → Int32) → (Nat → Int32) → Option (Int32 × (Nat → Int32) × (Nat → Int32))
  | 0, _, _, _, _ => none
  | n + 1, x72_l7, x72_o_found, x72_f_length, x72_f_order =>
    if z_18 ≤ x72_l7 then (
      k120 x72_o_found x72_f_length x72_f_order
    ) else (
      (P_X4_at 512 x72_l7 x72_f_order).bind fun (z_85 : Int32) =>
        (P_X1_note (z_45 &&& z_85) (p1 + p2) x72_o_found x72_f_length x72_f_order).bind fun (z_99 : Int32 × (Nat → Int32) × (Nat → Int32)) =>
          (P_X1_note (z_45 ||| z_85) (p1 + p2) z_99.1 z_99.2.1 z_99.2.2).bind fun (z_111 : Int32 × (Nat → Int32) × (Nat → Int32)) =>
            P_X1_join_72 p1 p2 z_18 z_45 k120 n (x72_l7 + 1) z_111.1 z_111.2.1 z_111.2.2
    )
def P_X1_join_33 (p1 : Int32) (p2 : Int32) (f_start : (Nat → Int32)) (z_7 : Int32) (z_18 : Int32) : Nat → Int32 → Int32 → (Nat → Int32) → (Nat → Int32) → Option (Int32 × (Nat → Int32) × (Nat → Int32))
  | 0, _, _, _, _ => none
  | n + 1, x33_l5, x33_o_found, x33_f_length, x33_f_order =>
    if z_7 ≤ x33_l5 then (
      some (x33_o_found, x33_f_length, x33_f_order)
    ) else (
      (P_X4_at 512 x33_l5 x33_f_order).bind fun (z_45 : Int32) =>
        jn (fun (x70_s0 : Int32) =>
          jn (fun (x120_o_found : Int32) (x120_f_length : (Nat → Int32)) (x120_f_order : (Nat → Int32)) =>
            P_X1_join_33 p1 p2 f_start z_7 z_18 n (x33_l5 + 1) x120_o_found x120_f_length x120_f_order
          ) (fun (k120 : Int32 → (Nat → Int32) → (Nat → Int32) → Option (Int32 × (Nat → Int32) × (Nat → Int32))) =>
            P_X1_join_72 p1 p2 z_18 z_45 k120 QF x70_s0 x33_o_found x33_f_length x33_f_order
          )
        ) (fun (j70 : Int32 → Option (Int32 × (Nat → Int32) × (Nat → Int32))) =>
          if p1 = p2 then (
            j70 (x33_l5 + 1)
          ) else (
            (P_X4_at 34 p2 f_start).bind fun (z_67 : Int32) =>
              j70 z_67
          )
        )
    )
def P_X1_join (p1 : Int32) (p2 : Int32) (o_found : Int32) (f_length : (Nat → Int32)) (f_order : (Nat → Int32)) (f_start : (Nat → Int32)) : Option (Int32 × (Nat → Int32) × (Nat → Int32)) :=
  (P_X4_at 34 (p1 + 1) f_start).bind fun (z_7 : Int32) =>
    (P_X4_at 34 (p2 + 1) f_start).bind fun (z_18 : Int32) =>
      (P_X4_at 34 p1 f_start).bind fun (z_28 : Int32) =>
        P_X1_join_33 p1 p2 f_start z_7 z_18 QF z_28 o_found f_length f_order
def P_X1_measure_83 (x66_l3 : Int32) (x66_f_start : (Nat → Int32)) (k108 : Int32 → (Nat → Int32) → (Nat → Int32) → Option (Int32 × (Nat → Int32) × (Nat → Int32) × (Nat → Int32))) : Nat → Int32 → Int32 → (Nat → Int32) → (Nat → Int32) → Option (Int32 × (Nat → Int32) × (Nat → Int32) × (Nat → Int32))
  | 0, _, _, _, _ => none
  | n + 1, x83_l4, x83_o_found, x83_f_length, x83_f_order =>
    if (x66_l3 - x83_l4) < x83_l4 then (
      k108 x83_o_found x83_f_length x83_f_order
    ) else (
      (P_X1_join x83_l4 (x66_l3 - x83_l4) x83_o_found x83_f_length x83_f_order x66_f_start).bind fun (z_99 : Int32 × (Nat → Int32) × (Nat → Int32)) =>
        P_X1_measure_83 x66_l3 x66_f_start k108 n (x83_l4 + 1) z_99.1 z_99.2.1 z_99.2.2
    )
def P_X1_measure_66 (z_7 : Int32) : Nat → Int32 → Int32 → (Nat → Int32) → (Nat → Int32) → (Nat → Int32) → Option (Int32 × (Nat → Int32) × (Nat → Int32) × (Nat → Int32))
  | 0, _, _, _, _, _ => none
  | n + 1, x66_l3, x66_o_found, x66_f_length, x66_f_order, x66_f_start =>
    if 32 < x66_l3 then (
      some (x66_o_found, x66_f_length, x66_f_order, x66_f_start)
    ) else (
      if z_7 < x66_o_found then (
        some (x66_o_found, x66_f_length, x66_f_order, x66_f_start)
      ) else (
        jn (fun (x108_o_found : Int32) (x108_f_length : (Nat → Int32)) (x108_f_order : (Nat → Int32)) =>
          (P_X4_put 34 (x66_l3 + 1) x108_o_found x66_f_start).bind fun (z_119 : (Nat → Int32)) =>
            P_X1_measure_66 z_7 n (x66_l3 + 1) x108_o_found x108_f_length x108_f_order z_119
        ) (fun (k108 : Int32 → (Nat → Int32) → (Nat → Int32) → Option (Int32 × (Nat → Int32) × (Nat → Int32) × (Nat → Int32))) =>
          P_X1_measure_83 x66_l3 x66_f_start k108 QF 1 x66_o_found x66_f_length x66_f_order
        )
      )
    )
def P_X1_measure_13 (z_7 : Int32) (k33 : (Nat → Int32) → Option (Int32 × (Nat → Int32) × (Nat → Int32) × (Nat → Int32))) : Nat → Int32 → (Nat → Int32) → Option (Int32 × (Nat → Int32) × (Nat → Int32) × (Nat → Int32))
  | 0, _, _ => none
  | n + 1, x13_l3, x13_f_length =>
    if z_7 < x13_l3 then (
      k33 x13_f_length
    ) else (
      (P_X4_put 512 x13_l3 0 x13_f_length).bind fun (z_24 : (Nat → Int32)) =>
        P_X1_measure_13 z_7 k33 n (x13_l3 + 1) z_24
    )
def P_X1_measure (p1 : Int32) (o_found : Int32) (signs_tongue_choices : Int32) (signs_tongue_worlds : Int32) (f_signs_tongue_values : (Nat → Int32)) (f_signs_tongue_left : (Nat → Int32)) (signs_kept_words : Int32) (f_signs_kept_wordSets : (Nat → Int32)) (f_length : (Nat → Int32)) (f_order : (Nat → Int32)) (f_start : (Nat → Int32)) : Option (Int32 × (Nat → Int32) × (Nat → Int32) × (Nat → Int32)) :=
  (P_X8_all signs_tongue_worlds).bind fun (z_7 : Int32) =>
    jn (fun (x33_f_length : (Nat → Int32)) =>
      (P_X1_noteSigns p1 0 signs_tongue_choices f_signs_tongue_values f_signs_tongue_left signs_kept_words f_signs_kept_wordSets x33_f_length f_order).bind fun (z_40 : Int32 × (Nat → Int32) × (Nat → Int32)) =>
        (P_X4_put 34 1 0 f_start).bind fun (z_49 : (Nat → Int32)) =>
          (P_X4_put 34 2 z_40.1 z_49).bind fun (z_61 : (Nat → Int32)) =>
            P_X1_measure_66 z_7 QF 2 z_40.1 z_40.2.1 z_40.2.2 z_61
    ) (fun (k33 : (Nat → Int32) → Option (Int32 × (Nat → Int32) × (Nat → Int32) × (Nat → Int32))) =>
      P_X1_measure_13 z_7 k33 QF 0 f_length
    )
def P_X10_lengthsNow (o_measured : Int32) (speech_choices : Int32) (speech_worlds : Int32) (f_speech_values : (Nat → Int32)) (f_speech_left : (Nat → Int32)) (now_words : Int32) (f_now_wordSets : (Nat → Int32)) (lengths_found : Int32) (f_lengths_length : (Nat → Int32)) (f_lengths_order : (Nat → Int32)) (f_lengths_start : (Nat → Int32)) : Option (Int32 × Int32 × (Nat → Int32) × (Nat → Int32) × (Nat → Int32)) :=
  jn (fun (x20_o_measured : Int32) (x20_lengths_found : Int32) (x20_f_lengths_length : (Nat → Int32)) (x20_f_lengths_order : (Nat → Int32)) (x20_f_lengths_start : (Nat → Int32)) =>
    some (x20_o_measured, x20_lengths_found, x20_f_lengths_length, x20_f_lengths_order, x20_f_lengths_start)
  ) (fun (j20 : Int32 → Int32 → (Nat → Int32) → (Nat → Int32) → (Nat → Int32) → Option (Int32 × Int32 × (Nat → Int32) × (Nat → Int32) × (Nat → Int32))) =>
    if o_measured = 0 then (
      (P_X1_measure (-1) lengths_found speech_choices speech_worlds f_speech_values f_speech_left now_words f_now_wordSets f_lengths_length f_lengths_order f_lengths_start).bind fun (z_12 : Int32 × (Nat → Int32) × (Nat → Int32) × (Nat → Int32)) =>
        j20 1 z_12.1 z_12.2.1 z_12.2.2.1 z_12.2.2.2
    ) else (
      j20 o_measured lengths_found f_lengths_length f_lengths_order f_lengths_start
    )
  )
def P_X1_of (p1 : Int32) (f_length : (Nat → Int32)) : Option (Int32) :=
  (P_X4_at 512 p1 f_length).bind fun (z_5 : Int32) =>
    if z_5 ≤ 0 then (
      some ((-9))
    ) else (
      some (z_5)
    )
def P_X10_shortest (p1 : Int32) (o_measured : Int32) (speech_choices : Int32) (speech_worlds : Int32) (f_speech_values : (Nat → Int32)) (f_speech_left : (Nat → Int32)) (now_words : Int32) (f_now_wordSets : (Nat → Int32)) (lengths_found : Int32) (f_lengths_length : (Nat → Int32)) (f_lengths_order : (Nat → Int32)) (f_lengths_start : (Nat → Int32)) : Option (Int32 × Int32 × Int32 × (Nat → Int32) × (Nat → Int32) × (Nat → Int32)) :=
  (P_X8_isSet p1 speech_worlds).bind fun (z_5 : Int32) =>
    if z_5 = 0 then (
      some ((-1), o_measured, lengths_found, f_lengths_length, f_lengths_order, f_lengths_start)
    ) else (
      (P_X10_lengthsNow o_measured speech_choices speech_worlds f_speech_values f_speech_left now_words f_now_wordSets lengths_found f_lengths_length f_lengths_order f_lengths_start).bind fun (z_12 : Int32 × Int32 × (Nat → Int32) × (Nat → Int32) × (Nat → Int32)) =>
        (P_X1_of p1 z_12.2.2.1).bind fun (z_16 : Int32) =>
          some (z_16, z_12.1, z_12.2.1, z_12.2.2.1, z_12.2.2.2.1, z_12.2.2.2.2)
    )
def P_X5_firstFor_9 (p1 : Int32) (tongue_choices : Int32) (f_tongue_values : (Nat → Int32)) (f_tongue_left : (Nat → Int32)) (kept_words : Int32) (f_kept_wordSets : (Nat → Int32)) (k28 : Int32 → Int32 → Option (Int32)) (x2_l2 : Int32) (k41 : Unit → Option (Int32)) : Nat → Int32 → Option (Int32)
  | 0, _ => none
  | n + 1, x9_l3 =>
    (P_X5_many x2_l2 tongue_choices f_tongue_values kept_words).bind fun (z_12 : Int32) =>
      if z_12 ≤ x9_l3 then (
        k41 ()
      ) else (
        (P_X5_leftBy x2_l2 x9_l3 f_tongue_left f_kept_wordSets).bind fun (z_21 : Int32) =>
          if z_21 = p1 then (
            k28 x2_l2 x9_l3
          ) else (
            P_X5_firstFor_9 p1 tongue_choices f_tongue_values f_tongue_left kept_words f_kept_wordSets k28 x2_l2 k41 n (x9_l3 + 1)
          )
      )
def P_X5_firstFor_2 (p1 : Int32) (tongue_choices : Int32) (f_tongue_values : (Nat → Int32)) (f_tongue_left : (Nat → Int32)) (kept_words : Int32) (f_kept_wordSets : (Nat → Int32)) (k28 : Int32 → Int32 → Option (Int32)) : Nat → Int32 → Option (Int32)
  | 0, _ => none
  | n + 1, x2_l2 =>
    if 3 < x2_l2 then (
      some ((-9))
    ) else (
      jn (fun (_ : Unit) =>
        P_X5_firstFor_2 p1 tongue_choices f_tongue_values f_tongue_left kept_words f_kept_wordSets k28 n (x2_l2 + 1)
      ) (fun (k41 : Unit → Option (Int32)) =>
        P_X5_firstFor_9 p1 tongue_choices f_tongue_values f_tongue_left kept_words f_kept_wordSets k28 x2_l2 k41 QF 0
      )
    )
def P_X5_firstFor (p1 : Int32) (tongue_choices : Int32) (f_tongue_values : (Nat → Int32)) (f_tongue_left : (Nat → Int32)) (kept_words : Int32) (f_kept_wordSets : (Nat → Int32)) : Option (Int32) :=
  jn (fun (x28_l2 : Int32) (x28_l3 : Int32) =>
    some ((10 * x28_l2) + x28_l3)
  ) (fun (k28 : Int32 → Int32 → Option (Int32)) =>
    P_X5_firstFor_2 p1 tongue_choices f_tongue_values f_tongue_left kept_words f_kept_wordSets k28 QF 0
  )
def P_X1_canStep (p1 : Int32) (p2 : Int32) (p3 : Int32) (f_length : (Nat → Int32)) : Option (Int32) :=
  jn (fun (x13_s0 : Int32) =>
    if x13_s0 = p2 then (
      (P_X1_of p1 f_length).bind fun (z_19 : Int32) =>
        if z_19 = (-9) then (
          some (0)
        ) else (
          some (1)
        )
    ) else (
      some (0)
    )
  ) (fun (j13 : Int32 → Option (Int32)) =>
    if p3 = 0 then (
      j13 (p1 ||| p2)
    ) else (
      j13 (p1 &&& p2)
    )
  )
def P_X1_firstPartner_15 (p1 : Int32) (p2 : Int32) (p3 : Int32) (p4 : Int32) (f_length : (Nat → Int32)) (z_7 : Int32) : Nat → Int32 → Option (Int32)
  | 0, _ => none
  | n + 1, x15_l6 =>
    if z_7 < x15_l6 then (
      some ((-9))
    ) else (
      jn (fun (x38_s0 : Int32) =>
        jn (fun (_ : Unit) =>
          P_X1_firstPartner_15 p1 p2 p3 p4 f_length z_7 n (x15_l6 + 1)
        ) (fun (j55 : Unit → Option (Int32)) =>
          if x38_s0 = p3 then (
            (P_X1_of x15_l6 f_length).bind fun (z_45 : Int32) =>
              if z_45 = p2 then (
                some (x15_l6)
              ) else (
                j55 ()
              )
          ) else (
            j55 ()
          )
        )
      ) (fun (j38 : Int32 → Option (Int32)) =>
        if p4 = 0 then (
          j38 (p1 ||| x15_l6)
        ) else (
          j38 (p1 &&& x15_l6)
        )
      )
    )
def P_X1_firstPartner (p1 : Int32) (p2 : Int32) (p3 : Int32) (p4 : Int32) (signs_tongue_worlds : Int32) (f_length : (Nat → Int32)) : Option (Int32) :=
  (P_X8_all signs_tongue_worlds).bind fun (z_7 : Int32) =>
    P_X1_firstPartner_15 p1 p2 p3 p4 f_length z_7 QF 0
def P_X1_firstPair_21 (p1 : Int32) (p2 : Int32) (signs_tongue_worlds : Int32) (f_length : (Nat → Int32)) (z_2 : Int32) (z_13 : Int32) (k77 : Int32 → Int32 → Option (Int32)) : Nat → Int32 → Option (Int32)
  | 0, _ => none
  | n + 1, x21_l5 =>
    if z_13 < x21_l5 then (
      some ((-9))
    ) else (
      (P_X1_canStep x21_l5 p1 p2 f_length).bind fun (z_33 : Int32) =>
        jn (fun (x51_s0 : Int32) =>
          jn (fun (_ : Unit) =>
            P_X1_firstPair_21 p1 p2 signs_tongue_worlds f_length z_2 z_13 k77 n (x21_l5 + 1)
          ) (fun (j87 : Unit → Option (Int32)) =>
            if x51_s0 ≤ 0 then (
              j87 ()
            ) else (
              (P_X1_firstPartner x21_l5 x51_s0 p1 p2 signs_tongue_worlds f_length).bind fun (z_65 : Int32) =>
                if z_65 = (-9) then (
                  j87 ()
                ) else (
                  k77 x21_l5 z_65
                )
            )
          )
        ) (fun (j51 : Int32 → Option (Int32)) =>
          if z_33 = 0 then (
            j51 0
          ) else (
            (P_X1_of x21_l5 f_length).bind fun (z_43 : Int32) =>
              j51 (z_2 - z_43)
          )
        )
    )
def P_X1_firstPair (p1 : Int32) (p2 : Int32) (signs_tongue_worlds : Int32) (f_length : (Nat → Int32)) : Option (Int32) :=
  (P_X1_of p1 f_length).bind fun (z_2 : Int32) =>
    (P_X8_all signs_tongue_worlds).bind fun (z_13 : Int32) =>
      jn (fun (x77_l5 : Int32) (x77_l7 : Int32) =>
        some ((x77_l5 * 512) + x77_l7)
      ) (fun (k77 : Int32 → Int32 → Option (Int32)) =>
        P_X1_firstPair_21 p1 p2 signs_tongue_worlds f_length z_2 z_13 k77 QF 0
      )
def P_X1_firstOf (p0 : Int32) : Option (Int32) :=
  some (p0 / 512)
def P_X1_secondOf (p0 : Int32) : Option (Int32) :=
  some (p0 - p0 / 512 * 512)
def P_X10_pairPart (p0 : Int32) (p1 : Int32) (p2 : Int32) : Option (Int32) :=
  if p2 = 0 then (
    some (p0)
  ) else (
    if p2 = 1 then (
      (P_X1_firstOf p1).bind fun (z_12 : Int32) =>
        some (z_12)
    ) else (
      (P_X1_secondOf p1).bind fun (z_19 : Int32) =>
        some (z_19)
    )
  )
def P_X10_made (p1 : Int32) (p2 : Int32) (o_measured : Int32) (speech_choices : Int32) (speech_worlds : Int32) (f_speech_values : (Nat → Int32)) (f_speech_left : (Nat → Int32)) (now_words : Int32) (f_now_wordSets : (Nat → Int32)) (lengths_found : Int32) (f_lengths_length : (Nat → Int32)) (f_lengths_order : (Nat → Int32)) (f_lengths_start : (Nat → Int32)) : Option (Int32 × Int32 × Int32 × (Nat → Int32) × (Nat → Int32) × (Nat → Int32)) :=
  (P_X8_isSet p1 speech_worlds).bind fun (z_5 : Int32) =>
    if z_5 = 0 then (
      some ((-1), o_measured, lengths_found, f_lengths_length, f_lengths_order, f_lengths_start)
    ) else (
      if p2 < 0 then (
        some ((-1), o_measured, lengths_found, f_lengths_length, f_lengths_order, f_lengths_start)
      ) else (
        if p2 ≤ 2 then (
          (P_X5_firstFor p1 speech_choices f_speech_values f_speech_left now_words f_now_wordSets).bind fun (z_27 : Int32) =>
            if z_27 = (-9) then (
              (P_X10_lengthsNow o_measured speech_choices speech_worlds f_speech_values f_speech_left now_words f_now_wordSets lengths_found f_lengths_length f_lengths_order f_lengths_start).bind fun (z_49 : Int32 × Int32 × (Nat → Int32) × (Nat → Int32) × (Nat → Int32)) =>
                (P_X1_firstPair p1 1 speech_worlds z_49.2.2.1).bind fun (z_54 : Int32) =>
                  if z_54 = (-9) then (
                    (P_X1_firstPair p1 0 speech_worlds z_49.2.2.1).bind fun (z_80 : Int32) =>
                      if z_80 = (-9) then (
                        some ((-9), z_49.1, z_49.2.1, z_49.2.2.1, z_49.2.2.2.1, z_49.2.2.2.2)
                      ) else (
                        (P_X10_pairPart 2 z_80 p2).bind fun (z_101 : Int32) =>
                          some (z_101, z_49.1, z_49.2.1, z_49.2.2.1, z_49.2.2.2.1, z_49.2.2.2.2)
                      )
                  ) else (
                    (P_X10_pairPart 1 z_54 p2).bind fun (z_70 : Int32) =>
                      some (z_70, z_49.1, z_49.2.1, z_49.2.2.1, z_49.2.2.2.1, z_49.2.2.2.2)
                  )
            ) else (
              if p2 = 1 then (
                some (z_27, o_measured, lengths_found, f_lengths_length, f_lengths_order, f_lengths_start)
              ) else (
                some (0, o_measured, lengths_found, f_lengths_length, f_lengths_order, f_lengths_start)
              )
            )
        ) else (
          some ((-1), o_measured, lengths_found, f_lengths_length, f_lengths_order, f_lengths_start)
        )
      )
    )
def P_X8_fixedLike_8 (p1 : Int32) (p2 : Int32) (o_choices : Int32) (f_values : (Nat → Int32)) (f_left : (Nat → Int32)) : Nat → Int32 → Int32 → Option (Int32)
  | 0, _, _ => none
  | n + 1, x8_l3, x8_l4 =>
    if o_choices ≤ x8_l4 then (
      some (x8_l3)
    ) else (
      jn (fun (x34_s0 : Int32) =>
        jn (fun (x53_l3 : Int32) =>
          P_X8_fixedLike_8 p1 p2 o_choices f_values f_left n x53_l3 (x8_l4 + 1)
        ) (fun (j53 : Int32 → Option (Int32)) =>
          if x34_s0 = (-1) then (
            j53 x8_l3
          ) else (
            (P_X8_leftBy x8_l4 x34_s0 f_left).bind fun (z_48 : Int32) =>
              j53 (x8_l3 &&& z_48)
          )
        )
      ) (fun (j34 : Int32 → Option (Int32)) =>
        if x8_l4 = p2 then (
          j34 (-1)
        ) else (
          (P_X8_fixedIn p1 x8_l4 o_choices f_values f_left).bind fun (z_31 : Int32) =>
            j34 z_31
        )
      )
    )
def P_X8_fixedLike (p1 : Int32) (p2 : Int32) (o_choices : Int32) (o_worlds : Int32) (f_values : (Nat → Int32)) (f_left : (Nat → Int32)) : Option (Int32) :=
  (P_X8_all o_worlds).bind fun (z_1 : Int32) =>
    P_X8_fixedLike_8 p1 p2 o_choices f_values f_left QF z_1 0
def P_X8_isTerm_26 (p1 : Int32) (p2 : Int32) (o_choices : Int32) (o_worlds : Int32) (f_values : (Nat → Int32)) (f_left : (Nat → Int32)) : Nat → Int32 → Option (Int32)
  | 0, _ => none
  | n + 1, x26_l3 =>
    if o_choices ≤ x26_l3 then (
      some (1)
    ) else (
      (P_X8_fixedIn p1 x26_l3 o_choices f_values f_left).bind fun (z_37 : Int32) =>
        jn (fun (_ : Unit) =>
          P_X8_isTerm_26 p1 p2 o_choices o_worlds f_values f_left n (x26_l3 + 1)
        ) (fun (j59 : Unit → Option (Int32)) =>
          if z_37 = (-1) then (
            j59 ()
          ) else (
            (P_X8_fixedLike p1 x26_l3 o_choices o_worlds f_values f_left).bind fun (z_47 : Int32) =>
              if (z_47 &&& (p2 ^^^ (-1))) = 0 then (
                some (0)
              ) else (
                j59 ()
              )
          )
        )
    )
def P_X8_isTerm (p1 : Int32) (p2 : Int32) (o_choices : Int32) (o_worlds : Int32) (f_values : (Nat → Int32)) (f_left : (Nat → Int32)) : Option (Int32) :=
  if p1 = 0 then (
    some (0)
  ) else (
    if (p1 &&& (p2 ^^^ (-1))) = 0 then (
      (P_X8_fixedLike p1 (-1) o_choices o_worlds f_values f_left).bind fun (z_15 : Int32) =>
        if z_15 = p1 then (
          P_X8_isTerm_26 p1 p2 o_choices o_worlds f_values f_left QF 0
        ) else (
          some (0)
        )
    ) else (
      some (0)
    )
  )
def P_X10_terms_23 (p1 : Int32) (p2 : Int32) (speech_choices : Int32) (speech_worlds : Int32) (f_speech_values : (Nat → Int32)) (f_speech_left : (Nat → Int32)) (k65 : Int32 → Option (Int32)) : Nat → Int32 → Int32 → Option (Int32)
  | 0, _, _ => none
  | n + 1, x23_l3, x23_l4 =>
    (P_X8_all speech_worlds).bind fun (z_29 : Int32) =>
      if z_29 < x23_l4 then (
        k65 x23_l3
      ) else (
        (P_X8_isTerm x23_l4 p1 speech_choices speech_worlds f_speech_values f_speech_left).bind fun (z_42 : Int32) =>
          jn (fun (x59_l3 : Int32) =>
            P_X10_terms_23 p1 p2 speech_choices speech_worlds f_speech_values f_speech_left k65 n x59_l3 (x23_l4 + 1)
          ) (fun (j59 : Int32 → Option (Int32)) =>
            if z_42 = 0 then (
              j59 x23_l3
            ) else (
              if x23_l3 = p2 then (
                some (x23_l4)
              ) else (
                j59 (x23_l3 + 1)
              )
            )
          )
      )
def P_X10_terms (p1 : Int32) (p2 : Int32) (speech_choices : Int32) (speech_worlds : Int32) (f_speech_values : (Nat → Int32)) (f_speech_left : (Nat → Int32)) : Option (Int32) :=
  (P_X8_isSet p1 speech_worlds).bind fun (z_5 : Int32) =>
    if z_5 = 0 then (
      some ((-1))
    ) else (
      if (-1) ≤ p2 then (
        jn (fun (x65_l3 : Int32) =>
          if p2 = (-1) then (
            some (x65_l3)
          ) else (
            some ((-1))
          )
        ) (fun (k65 : Int32 → Option (Int32)) =>
          P_X10_terms_23 p1 p2 speech_choices speech_worlds f_speech_values f_speech_left k65 QF 0 1
        )
      ) else (
        some ((-1))
      )
    )
def P_X8_others (p1 : Int32) (o_worlds : Int32) : Option (Int32) :=
  (P_X8_all o_worlds).bind fun (z_1 : Int32) =>
    some (z_1 &&& (p1 ^^^ (-1)))
def P_X10_refusal (p1 : Int32) (o_measured : Int32) (speech_choices : Int32) (speech_worlds : Int32) (f_speech_values : (Nat → Int32)) (f_speech_left : (Nat → Int32)) (now_words : Int32) (f_now_wordSets : (Nat → Int32)) (lengths_found : Int32) (f_lengths_length : (Nat → Int32)) (f_lengths_order : (Nat → Int32)) (f_lengths_start : (Nat → Int32)) : Option (Int32 × Int32 × Int32 × (Nat → Int32) × (Nat → Int32) × (Nat → Int32)) :=
  (P_X8_isSet p1 speech_worlds).bind fun (z_5 : Int32) =>
    if z_5 = 0 then (
      some ((-1), o_measured, lengths_found, f_lengths_length, f_lengths_order, f_lengths_start)
    ) else (
      (P_X10_lengthsNow o_measured speech_choices speech_worlds f_speech_values f_speech_left now_words f_now_wordSets lengths_found f_lengths_length f_lengths_order f_lengths_start).bind fun (z_12 : Int32 × Int32 × (Nat → Int32) × (Nat → Int32) × (Nat → Int32)) =>
        (P_X8_others p1 speech_worlds).bind fun (z_20 : Int32) =>
          (P_X1_of z_20 z_12.2.2.1).bind fun (z_23 : Int32) =>
            some (z_23, z_12.1, z_12.2.1, z_12.2.2.1, z_12.2.2.2.1, z_12.2.2.2.2)
    )
def P_X3_isSign (p1 : Int32) (tongue_choices : Int32) (f_tongue_values : (Nat → Int32)) : Option (Int32) :=
  (P_X8_valuesOf (p1 / 10) tongue_choices f_tongue_values).bind fun (z_12 : Int32) =>
    if z_12 ≤ (p1 - p1 / 10 * 10) then (
      some (0)
    ) else (
      some (1)
    )
def P_X3_allBut (p1 : Int32) (tongue_worlds : Int32) (f_tongue_left : (Nat → Int32)) : Option (Int32) :=
  (P_X8_leftBy (p1 / 10) (p1 - p1 / 10 * 10) f_tongue_left).bind fun (z_16 : Int32) =>
    (P_X8_others z_16 tongue_worlds).bind fun (z_19 : Int32) =>
      some (z_19)
def P_X3_lengthFor (p1 : Int32) (tongue_worlds : Int32) (f_tongue_left : (Nat → Int32)) (f_p2_length : (Nat → Int32)) : Option (Int32) :=
  (P_X3_allBut p1 tongue_worlds f_tongue_left).bind fun (z_3 : Int32) =>
    (P_X1_of z_3 f_p2_length).bind fun (z_6 : Int32) =>
      some (z_6)
def P_X3_longestSign_4 (tongue_choices : Int32) (tongue_worlds : Int32) (f_tongue_values : (Nat → Int32)) (f_tongue_left : (Nat → Int32)) (f_p1_length : (Nat → Int32)) : Nat → Int32 → Int32 → Option (Int32)
  | 0, _, _ => none
  | n + 1, x4_l2, x4_l3 =>
    (P_X8_choices tongue_choices).bind fun (z_11 : Int32) =>
      if (10 * z_11) ≤ x4_l3 then (
        some (x4_l2)
      ) else (
        (P_X3_isSign x4_l3 tongue_choices f_tongue_values).bind fun (z_20 : Int32) =>
          jn (fun (x43_l2 : Int32) =>
            P_X3_longestSign_4 tongue_choices tongue_worlds f_tongue_values f_tongue_left f_p1_length n x43_l2 (x4_l3 + 1)
          ) (fun (j43 : Int32 → Option (Int32)) =>
            if z_20 = 0 then (
              j43 x4_l2
            ) else (
              (P_X3_lengthFor x4_l3 tongue_worlds f_tongue_left f_p1_length).bind fun (z_29 : Int32) =>
                (P_X3_lengthFor x4_l2 tongue_worlds f_tongue_left f_p1_length).bind fun (z_35 : Int32) =>
                  if z_29 ≤ z_35 then (
                    j43 x4_l2
                  ) else (
                    j43 x4_l3
                  )
            )
          )
      )
def P_X3_longestSign (tongue_choices : Int32) (tongue_worlds : Int32) (f_tongue_values : (Nat → Int32)) (f_tongue_left : (Nat → Int32)) (f_p1_length : (Nat → Int32)) : Option (Int32) :=
  P_X3_longestSign_4 tongue_choices tongue_worlds f_tongue_values f_tongue_left f_p1_length QF 0 0
def P_X10_worst (p1 : Int32) (o_measured : Int32) (speech_choices : Int32) (speech_worlds : Int32) (f_speech_values : (Nat → Int32)) (f_speech_left : (Nat → Int32)) (now_words : Int32) (f_now_wordSets : (Nat → Int32)) (lengths_found : Int32) (f_lengths_length : (Nat → Int32)) (f_lengths_order : (Nat → Int32)) (f_lengths_start : (Nat → Int32)) : Option (Int32 × Int32 × Int32 × (Nat → Int32) × (Nat → Int32) × (Nat → Int32)) :=
  if p1 < 0 then (
    some ((-1), o_measured, lengths_found, f_lengths_length, f_lengths_order, f_lengths_start)
  ) else (
    if p1 ≤ 1 then (
      (P_X8_choices speech_choices).bind fun (z_15 : Int32) =>
        if z_15 = 0 then (
          some ((-9), o_measured, lengths_found, f_lengths_length, f_lengths_order, f_lengths_start)
        ) else (
          (P_X10_lengthsNow o_measured speech_choices speech_worlds f_speech_values f_speech_left now_words f_now_wordSets lengths_found f_lengths_length f_lengths_order f_lengths_start).bind fun (z_29 : Int32 × Int32 × (Nat → Int32) × (Nat → Int32) × (Nat → Int32)) =>
            (P_X3_longestSign speech_choices speech_worlds f_speech_values f_speech_left z_29.2.2.1).bind fun (z_32 : Int32) =>
              if p1 = 0 then (
                some (z_32, z_29.1, z_29.2.1, z_29.2.2.1, z_29.2.2.2.1, z_29.2.2.2.2)
              ) else (
                (P_X10_lengthsNow z_29.1 speech_choices speech_worlds f_speech_values f_speech_left now_words f_now_wordSets z_29.2.1 z_29.2.2.1 z_29.2.2.2.1 z_29.2.2.2.2).bind fun (z_50 : Int32 × Int32 × (Nat → Int32) × (Nat → Int32) × (Nat → Int32)) =>
                  (P_X3_lengthFor z_32 speech_worlds f_speech_left z_50.2.2.1).bind fun (z_53 : Int32) =>
                    some (z_53, z_50.1, z_50.2.1, z_50.2.2.1, z_50.2.2.2.1, z_50.2.2.2.2)
              )
        )
    ) else (
      some ((-1), o_measured, lengths_found, f_lengths_length, f_lengths_order, f_lengths_start)
    )
  )
def P_X3_sumOfTried_4 (tongue_choices : Int32) (tongue_worlds : Int32) (f_tongue_values : (Nat → Int32)) (f_tongue_left : (Nat → Int32)) (f_tried_length : (Nat → Int32)) : Nat → Int32 → Int32 → Option (Int32)
  | 0, _, _ => none
  | n + 1, x4_l1, x4_l2 =>
    (P_X8_choices tongue_choices).bind fun (z_11 : Int32) =>
      if (10 * z_11) ≤ x4_l2 then (
        some (x4_l1)
      ) else (
        (P_X3_isSign x4_l2 tongue_choices f_tongue_values).bind fun (z_20 : Int32) =>
          jn (fun (x41_l1 : Int32) =>
            P_X3_sumOfTried_4 tongue_choices tongue_worlds f_tongue_values f_tongue_left f_tried_length n x41_l1 (x4_l2 + 1)
          ) (fun (j41 : Int32 → Option (Int32)) =>
            if z_20 = 0 then (
              j41 x4_l1
            ) else (
              (P_X3_allBut x4_l2 tongue_worlds f_tongue_left).bind fun (z_33 : Int32) =>
                (P_X1_of z_33 f_tried_length).bind fun (z_36 : Int32) =>
                  j41 (x4_l1 + z_36)
            )
          )
      )
def P_X3_sumOfTried (tongue_choices : Int32) (tongue_worlds : Int32) (f_tongue_values : (Nat → Int32)) (f_tongue_left : (Nat → Int32)) (f_tried_length : (Nat → Int32)) : Option (Int32) :=
  P_X3_sumOfTried_4 tongue_choices tongue_worlds f_tongue_values f_tongue_left f_tried_length QF 0 0
def P_X3_findBest_2 (o_known : Int32) (tongue_choices : Int32) (tongue_worlds : Int32) (f_tongue_values : (Nat → Int32)) (f_tongue_left : (Nat → Int32)) (tried_signs_kept_words : Int32) (f_tried_signs_kept_wordSets : (Nat → Int32)) (k76 : Int32 → Int32 → Int32 → (Nat → Int32) → (Nat → Int32) → (Nat → Int32) → Option (Int32 × Int32 × Int32 × Int32 × (Nat → Int32) × (Nat → Int32) × (Nat → Int32))) : Nat → Int32 → Int32 → Int32 → Int32 → (Nat → Int32) → (Nat → Int32) → (Nat → Int32) → Option (Int32 × Int32 × Int32 × Int32 × (Nat → Int32) × (Nat → Int32) × (Nat → Int32))
  | 0, _, _, _, _, _, _, _ => none
  | n + 1, x2_l1, x2_o_sign, x2_o_sum, x2_tried_found, x2_f_tried_length, x2_f_tried_order, x2_f_tried_start =>
    (P_X8_choices tongue_choices).bind fun (z_9 : Int32) =>
      if (10 * z_9) ≤ x2_l1 then (
        k76 x2_o_sign x2_o_sum x2_tried_found x2_f_tried_length x2_f_tried_order x2_f_tried_start
      ) else (
        if o_known = 0 then (
          (P_X3_isSign x2_l1 tongue_choices f_tongue_values).bind fun (z_25 : Int32) =>
            jn (fun (x70_o_sign : Int32) (x70_o_sum : Int32) (x70_tried_found : Int32) (x70_f_tried_length : (Nat → Int32)) (x70_f_tried_order : (Nat → Int32)) (x70_f_tried_start : (Nat → Int32)) =>
              P_X3_findBest_2 o_known tongue_choices tongue_worlds f_tongue_values f_tongue_left tried_signs_kept_words f_tried_signs_kept_wordSets k76 n (x2_l1 + 1) x70_o_sign x70_o_sum x70_tried_found x70_f_tried_length x70_f_tried_order x70_f_tried_start
            ) (fun (j70 : Int32 → Int32 → Int32 → (Nat → Int32) → (Nat → Int32) → (Nat → Int32) → Option (Int32 × Int32 × Int32 × Int32 × (Nat → Int32) × (Nat → Int32) × (Nat → Int32))) =>
              if z_25 = 0 then (
                j70 x2_o_sign x2_o_sum x2_tried_found x2_f_tried_length x2_f_tried_order x2_f_tried_start
              ) else (
                (P_X3_allBut x2_l1 tongue_worlds f_tongue_left).bind fun (z_37 : Int32) =>
                  (P_X1_measure z_37 x2_tried_found tongue_choices tongue_worlds f_tongue_values f_tongue_left tried_signs_kept_words f_tried_signs_kept_wordSets x2_f_tried_length x2_f_tried_order x2_f_tried_start).bind fun (z_40 : Int32 × (Nat → Int32) × (Nat → Int32) × (Nat → Int32)) =>
                    (P_X3_sumOfTried tongue_choices tongue_worlds f_tongue_values f_tongue_left z_40.2.1).bind fun (z_44 : Int32) =>
                      jn (fun (_ : Unit) =>
                        j70 x2_l1 z_44 z_40.1 z_40.2.1 z_40.2.2.1 z_40.2.2.2
                      ) (fun (j60 : Unit → Option (Int32 × Int32 × Int32 × Int32 × (Nat → Int32) × (Nat → Int32) × (Nat → Int32))) =>
                        if x2_l1 = 0 then (
                          j60 ()
                        ) else (
                          if x2_o_sum ≤ z_44 then (
                            j70 x2_o_sign x2_o_sum z_40.1 z_40.2.1 z_40.2.2.1 z_40.2.2.2
                          ) else (
                            j60 ()
                          )
                        )
                      )
              )
            )
        ) else (
          k76 x2_o_sign x2_o_sum x2_tried_found x2_f_tried_length x2_f_tried_order x2_f_tried_start
        )
      )
def P_X3_findBest (o_sign : Int32) (o_sum : Int32) (o_known : Int32) (tongue_choices : Int32) (tongue_worlds : Int32) (f_tongue_values : (Nat → Int32)) (f_tongue_left : (Nat → Int32)) (tried_found : Int32) (tried_signs_kept_words : Int32) (f_tried_signs_kept_wordSets : (Nat → Int32)) (f_tried_length : (Nat → Int32)) (f_tried_order : (Nat → Int32)) (f_tried_start : (Nat → Int32)) : Option (Int32 × Int32 × Int32 × Int32 × (Nat → Int32) × (Nat → Int32) × (Nat → Int32)) :=
  jn (fun (x76_o_sign : Int32) (x76_o_sum : Int32) (x76_tried_found : Int32) (x76_f_tried_length : (Nat → Int32)) (x76_f_tried_order : (Nat → Int32)) (x76_f_tried_start : (Nat → Int32)) =>
    some (x76_o_sign, x76_o_sum, 1, x76_tried_found, x76_f_tried_length, x76_f_tried_order, x76_f_tried_start)
  ) (fun (k76 : Int32 → Int32 → Int32 → (Nat → Int32) → (Nat → Int32) → (Nat → Int32) → Option (Int32 × Int32 × Int32 × Int32 × (Nat → Int32) × (Nat → Int32) × (Nat → Int32))) =>
    P_X3_findBest_2 o_known tongue_choices tongue_worlds f_tongue_values f_tongue_left tried_signs_kept_words f_tried_signs_kept_wordSets k76 QF 0 o_sign o_sum tried_found f_tried_length f_tried_order f_tried_start
  )
def P_X3_bestSign (o_sign : Int32) : Option (Int32) :=
  some (o_sign)
def P_X3_bestSum (o_sum : Int32) : Option (Int32) :=
  some (o_sum)
def P_X10_saves (p1 : Int32) (speech_choices : Int32) (speech_worlds : Int32) (f_speech_values : (Nat → Int32)) (f_speech_left : (Nat → Int32)) (now_words : Int32) (f_now_wordSets : (Nat → Int32)) (refusals_sign : Int32) (refusals_sum : Int32) (refusals_known : Int32) (refusals_tried_found : Int32) (f_refusals_tried_length : (Nat → Int32)) (f_refusals_tried_order : (Nat → Int32)) (f_refusals_tried_start : (Nat → Int32)) : Option (Int32 × Int32 × Int32 × Int32 × Int32 × (Nat → Int32) × (Nat → Int32) × (Nat → Int32)) :=
  if p1 < 0 then (
    some ((-1), refusals_sign, refusals_sum, refusals_known, refusals_tried_found, f_refusals_tried_length, f_refusals_tried_order, f_refusals_tried_start)
  ) else (
    if p1 ≤ 1 then (
      (P_X0_words now_words).bind fun (z_15 : Int32) =>
        if z_15 < 3 then (
          (P_X8_choices speech_choices).bind fun (z_29 : Int32) =>
            if z_29 = 0 then (
              some ((-9), refusals_sign, refusals_sum, refusals_known, refusals_tried_found, f_refusals_tried_length, f_refusals_tried_order, f_refusals_tried_start)
            ) else (
              (P_X3_findBest refusals_sign refusals_sum refusals_known speech_choices speech_worlds f_speech_values f_speech_left refusals_tried_found now_words f_now_wordSets f_refusals_tried_length f_refusals_tried_order f_refusals_tried_start).bind fun (z_42 : Int32 × Int32 × Int32 × Int32 × (Nat → Int32) × (Nat → Int32) × (Nat → Int32)) =>
                if p1 = 0 then (
                  (P_X3_bestSign z_42.1).bind fun (z_53 : Int32) =>
                    some (z_53, z_42.1, z_42.2.1, z_42.2.2.1, z_42.2.2.2.1, z_42.2.2.2.2.1, z_42.2.2.2.2.2.1, z_42.2.2.2.2.2.2)
                ) else (
                  (P_X3_bestSum z_42.2.1).bind fun (z_63 : Int32) =>
                    some (z_63, z_42.1, z_42.2.1, z_42.2.2.1, z_42.2.2.2.1, z_42.2.2.2.2.1, z_42.2.2.2.2.2.1, z_42.2.2.2.2.2.2)
                )
            )
        ) else (
          some ((-3), refusals_sign, refusals_sum, refusals_known, refusals_tried_found, f_refusals_tried_length, f_refusals_tried_order, f_refusals_tried_start)
        )
    ) else (
      some ((-1), refusals_sign, refusals_sum, refusals_known, refusals_tried_found, f_refusals_tried_length, f_refusals_tried_order, f_refusals_tried_start)
    )
  )
def P_X10_contractWithout_10 (p1 : Int32) (now_sayings : Int32) (f_now_left : (Nat → Int32)) : Nat → Int32 → Int32 → Option (Int32)
  | 0, _, _ => none
  | n + 1, x10_l2, x10_l3 =>
    (P_X0_sayings now_sayings).bind fun (z_15 : Int32) =>
      if z_15 ≤ x10_l3 then (
        some (x10_l2)
      ) else (
        jn (fun (x37_l2 : Int32) =>
          P_X10_contractWithout_10 p1 now_sayings f_now_left n x37_l2 (x10_l3 + 1)
        ) (fun (j37 : Int32 → Option (Int32)) =>
          if x10_l3 = p1 then (
            j37 x10_l2
          ) else (
            (P_X0_leftBy x10_l3 f_now_left).bind fun (z_32 : Int32) =>
              j37 (x10_l2 &&& z_32)
          )
        )
      )
def P_X10_contractWithout (p1 : Int32) (speech_worlds : Int32) (now_sayings : Int32) (f_now_left : (Nat → Int32)) : Option (Int32) :=
  (P_X8_all speech_worlds).bind fun (z_4 : Int32) =>
    P_X10_contractWithout_10 p1 now_sayings f_now_left QF z_4 0
def P_X10_contract (speech_worlds : Int32) (now_sayings : Int32) (f_now_left : (Nat → Int32)) : Option (Int32) :=
  (P_X10_contractWithout (-1) speech_worlds now_sayings f_now_left).bind fun (z_2 : Int32) =>
    some (z_2)
def P_X10_gap (p1 : Int32) (speech_worlds : Int32) (now_sayings : Int32) (f_now_left : (Nat → Int32)) : Option (Int32) :=
  (P_X8_isSet p1 speech_worlds).bind fun (z_5 : Int32) =>
    if z_5 = 0 then (
      some ((-1))
    ) else (
      (P_X10_contract speech_worlds now_sayings f_now_left).bind fun (z_12 : Int32) =>
        (P_X8_others p1 speech_worlds).bind fun (z_20 : Int32) =>
          some (z_12 &&& z_20)
    )
def P_X10_shortestWithin_15 (p1 : Int32) (p2 : Int32) (speech_worlds : Int32) (z_1 : Int32 × Int32 × (Nat → Int32) × (Nat → Int32) × (Nat → Int32)) : Nat → Int32 → Int32 → Int32 → Option (Int32 × Int32 × Int32 × (Nat → Int32) × (Nat → Int32) × (Nat → Int32))
  | 0, _, _, _ => none
  | n + 1, x15_l4, x15_l5, x15_l6 =>
    (P_X8_all speech_worlds).bind fun (z_21 : Int32) =>
      if z_21 < x15_l6 then (
        some (x15_l4, z_1.1, z_1.2.1, z_1.2.2.1, z_1.2.2.2.1, z_1.2.2.2.2)
      ) else (
        jn (fun (x48_s0 : Int32) =>
          jn (fun (x79_l4 : Int32) (x79_l5 : Int32) =>
            P_X10_shortestWithin_15 p1 p2 speech_worlds z_1 n x79_l4 x79_l5 (x15_l6 + 1)
          ) (fun (j79 : Int32 → Int32 → Option (Int32 × Int32 × Int32 × (Nat → Int32) × (Nat → Int32) × (Nat → Int32))) =>
            if x48_s0 = (-9) then (
              j79 x15_l4 x15_l5
            ) else (
              jn (fun (_ : Unit) =>
                j79 x15_l6 x48_s0
              ) (fun (j71 : Unit → Option (Int32 × Int32 × Int32 × (Nat → Int32) × (Nat → Int32) × (Nat → Int32))) =>
                if x15_l4 = (-9) then (
                  j71 ()
                ) else (
                  if x15_l5 ≤ x48_s0 then (
                    j79 x15_l4 x15_l5
                  ) else (
                    j71 ()
                  )
                )
              )
            )
          )
        ) (fun (j48 : Int32 → Option (Int32 × Int32 × Int32 × (Nat → Int32) × (Nat → Int32) × (Nat → Int32))) =>
          if (x15_l6 &&& p1) = (p2 &&& p1) then (
            (P_X1_of x15_l6 z_1.2.2.1).bind fun (z_40 : Int32) =>
              j48 z_40
          ) else (
            j48 (-9)
          )
        )
      )
def P_X10_shortestWithin (p1 : Int32) (p2 : Int32) (o_measured : Int32) (speech_choices : Int32) (speech_worlds : Int32) (f_speech_values : (Nat → Int32)) (f_speech_left : (Nat → Int32)) (now_words : Int32) (f_now_wordSets : (Nat → Int32)) (lengths_found : Int32) (f_lengths_length : (Nat → Int32)) (f_lengths_order : (Nat → Int32)) (f_lengths_start : (Nat → Int32)) : Option (Int32 × Int32 × Int32 × (Nat → Int32) × (Nat → Int32) × (Nat → Int32)) :=
  (P_X10_lengthsNow o_measured speech_choices speech_worlds f_speech_values f_speech_left now_words f_now_wordSets lengths_found f_lengths_length f_lengths_order f_lengths_start).bind fun (z_1 : Int32 × Int32 × (Nat → Int32) × (Nat → Int32) × (Nat → Int32)) =>
    P_X10_shortestWithin_15 p1 p2 speech_worlds z_1 QF (-9) 0 0
def P_X10_clause (p1 : Int32) (p2 : Int32) (o_measured : Int32) (speech_choices : Int32) (speech_worlds : Int32) (f_speech_values : (Nat → Int32)) (f_speech_left : (Nat → Int32)) (now_sayings : Int32) (now_words : Int32) (f_now_left : (Nat → Int32)) (f_now_wordSets : (Nat → Int32)) (lengths_found : Int32) (f_lengths_length : (Nat → Int32)) (f_lengths_order : (Nat → Int32)) (f_lengths_start : (Nat → Int32)) : Option (Int32 × Int32 × Int32 × (Nat → Int32) × (Nat → Int32) × (Nat → Int32)) :=
  (P_X8_isSet p1 speech_worlds).bind fun (z_5 : Int32) =>
    if z_5 = 0 then (
      some ((-1), o_measured, lengths_found, f_lengths_length, f_lengths_order, f_lengths_start)
    ) else (
      if p2 < 0 then (
        some ((-1), o_measured, lengths_found, f_lengths_length, f_lengths_order, f_lengths_start)
      ) else (
        if p2 ≤ 1 then (
          (P_X10_contract speech_worlds now_sayings f_now_left).bind fun (z_24 : Int32) =>
            (P_X10_shortestWithin z_24 p1 o_measured speech_choices speech_worlds f_speech_values f_speech_left now_words f_now_wordSets lengths_found f_lengths_length f_lengths_order f_lengths_start).bind fun (z_28 : Int32 × Int32 × Int32 × (Nat → Int32) × (Nat → Int32) × (Nat → Int32)) =>
              if z_28.1 = (-9) then (
                some ((-9), z_28.2.1, z_28.2.2.1, z_28.2.2.2.1, z_28.2.2.2.2.1, z_28.2.2.2.2.2)
              ) else (
                if p2 = 0 then (
                  some (z_28.1, z_28.2.1, z_28.2.2.1, z_28.2.2.2.1, z_28.2.2.2.2.1, z_28.2.2.2.2.2)
                ) else (
                  (P_X10_lengthsNow z_28.2.1 speech_choices speech_worlds f_speech_values f_speech_left now_words f_now_wordSets z_28.2.2.1 z_28.2.2.2.1 z_28.2.2.2.2.1 z_28.2.2.2.2.2).bind fun (z_50 : Int32 × Int32 × (Nat → Int32) × (Nat → Int32) × (Nat → Int32)) =>
                    (P_X1_of z_28.1 z_50.2.2.1).bind fun (z_54 : Int32) =>
                      some (z_54, z_50.1, z_50.2.1, z_50.2.2.1, z_50.2.2.2.1, z_50.2.2.2.2)
                )
              )
        ) else (
          some ((-1), o_measured, lengths_found, f_lengths_length, f_lengths_order, f_lengths_start)
        )
      )
    )
def P_J6_bitCount_0f7a4 (p0 : Int32) : Option (Int32) :=
  some ((((((((p0 - (((p0.toUInt32 >>> ((1 : Int32).toUInt32 &&& Int32.toUInt32 31)).toInt32) &&& 1431655765)) &&& 858993459) + ((((p0 - (((p0.toUInt32 >>> ((1 : Int32).toUInt32 &&& Int32.toUInt32 31)).toInt32) &&& 1431655765)).toUInt32 >>> ((2 : Int32).toUInt32 &&& Int32.toUInt32 31)).toInt32) &&& 858993459)) + (((((p0 - (((p0.toUInt32 >>> ((1 : Int32).toUInt32 &&& Int32.toUInt32 31)).toInt32) &&& 1431655765)) &&& 858993459) + ((((p0 - (((p0.toUInt32 >>> ((1 : Int32).toUInt32 &&& Int32.toUInt32 31)).toInt32) &&& 1431655765)).toUInt32 >>> ((2 : Int32).toUInt32 &&& Int32.toUInt32 31)).toInt32) &&& 858993459)).toUInt32 >>> ((4 : Int32).toUInt32 &&& Int32.toUInt32 31)).toInt32)) &&& 252645135) + (((((((p0 - (((p0.toUInt32 >>> ((1 : Int32).toUInt32 &&& Int32.toUInt32 31)).toInt32) &&& 1431655765)) &&& 858993459) + ((((p0 - (((p0.toUInt32 >>> ((1 : Int32).toUInt32 &&& Int32.toUInt32 31)).toInt32) &&& 1431655765)).toUInt32 >>> ((2 : Int32).toUInt32 &&& Int32.toUInt32 31)).toInt32) &&& 858993459)) + (((((p0 - (((p0.toUInt32 >>> ((1 : Int32).toUInt32 &&& Int32.toUInt32 31)).toInt32) &&& 1431655765)) &&& 858993459) + ((((p0 - (((p0.toUInt32 >>> ((1 : Int32).toUInt32 &&& Int32.toUInt32 31)).toInt32) &&& 1431655765)).toUInt32 >>> ((2 : Int32).toUInt32 &&& Int32.toUInt32 31)).toInt32) &&& 858993459)).toUInt32 >>> ((4 : Int32).toUInt32 &&& Int32.toUInt32 31)).toInt32)) &&& 252645135).toUInt32 >>> ((8 : Int32).toUInt32 &&& Int32.toUInt32 31)).toInt32)) + ((((((((p0 - (((p0.toUInt32 >>> ((1 : Int32).toUInt32 &&& Int32.toUInt32 31)).toInt32) &&& 1431655765)) &&& 858993459) + ((((p0 - (((p0.toUInt32 >>> ((1 : Int32).toUInt32 &&& Int32.toUInt32 31)).toInt32) &&& 1431655765)).toUInt32 >>> ((2 : Int32).toUInt32 &&& Int32.toUInt32 31)).toInt32) &&& 858993459)) + (((((p0 - (((p0.toUInt32 >>> ((1 : Int32).toUInt32 &&& Int32.toUInt32 31)).toInt32) &&& 1431655765)) &&& 858993459) + ((((p0 - (((p0.toUInt32 >>> ((1 : Int32).toUInt32 &&& Int32.toUInt32 31)).toInt32) &&& 1431655765)).toUInt32 >>> ((2 : Int32).toUInt32 &&& Int32.toUInt32 31)).toInt32) &&& 858993459)).toUInt32 >>> ((4 : Int32).toUInt32 &&& Int32.toUInt32 31)).toInt32)) &&& 252645135) + (((((((p0 - (((p0.toUInt32 >>> ((1 : Int32).toUInt32 &&& Int32.toUInt32 31)).toInt32) &&& 1431655765)) &&& 858993459) + ((((p0 - (((p0.toUInt32 >>> ((1 : Int32).toUInt32 &&& Int32.toUInt32 31)).toInt32) &&& 1431655765)).toUInt32 >>> ((2 : Int32).toUInt32 &&& Int32.toUInt32 31)).toInt32) &&& 858993459)) + (((((p0 - (((p0.toUInt32 >>> ((1 : Int32).toUInt32 &&& Int32.toUInt32 31)).toInt32) &&& 1431655765)) &&& 858993459) + ((((p0 - (((p0.toUInt32 >>> ((1 : Int32).toUInt32 &&& Int32.toUInt32 31)).toInt32) &&& 1431655765)).toUInt32 >>> ((2 : Int32).toUInt32 &&& Int32.toUInt32 31)).toInt32) &&& 858993459)).toUInt32 >>> ((4 : Int32).toUInt32 &&& Int32.toUInt32 31)).toInt32)) &&& 252645135).toUInt32 >>> ((8 : Int32).toUInt32 &&& Int32.toUInt32 31)).toInt32)).toUInt32 >>> ((16 : Int32).toUInt32 &&& Int32.toUInt32 31)).toInt32)) &&& 63)
def P_X10_lostWithout (p1 : Int32) (speech_worlds : Int32) (now_sayings : Int32) (f_now_left : (Nat → Int32)) : Option (Int32) :=
  (P_X10_contractWithout p1 speech_worlds now_sayings f_now_left).bind fun (z_2 : Int32) =>
    (P_J6_bitCount_0f7a4 z_2).bind fun (z_5 : Int32) =>
      (P_X10_contract speech_worlds now_sayings f_now_left).bind fun (z_9 : Int32) =>
        (P_J6_bitCount_0f7a4 z_9).bind fun (z_12 : Int32) =>
          some (z_5 - z_12)
def P_X10_lost (p1 : Int32) (speech_worlds : Int32) (now_sayings : Int32) (f_now_left : (Nat → Int32)) : Option (Int32) :=
  (P_X0_isSaying p1 now_sayings).bind fun (z_5 : Int32) =>
    if z_5 = 0 then (
      some ((-1))
    ) else (
      (P_X10_lostWithout p1 speech_worlds now_sayings f_now_left).bind fun (z_13 : Int32) =>
        some (z_13)
    )
def P_X10_isSeen (p0 : Int32) : Option (Int32) :=
  if p0 < 0 then (
    some (0)
  ) else (
    if 7 < p0 then (
      some (0)
    ) else (
      some (1)
    )
  )
def P_X8_worlds (o_worlds : Int32) : Option (Int32) :=
  some (o_worlds)
def P_X4_has (p0 : Int32) (p1 : Int32) : Option (Int32) :=
  if p1 < 0 then (
    some (0)
  ) else (
    if 9 ≤ p1 then (
      some (0)
    ) else (
      if (p0 &&& (1 <<< (p1 &&& 31))) = 0 then (
        some (0)
      ) else (
        some (1)
      )
    )
  )
def P_X8_looksLike_8 (p1 : Int32) (p2 : Int32) (o_choices : Int32) (f_values : (Nat → Int32)) (f_left : (Nat → Int32)) : Nat → Int32 → Int32 → Option (Int32)
  | 0, _, _ => none
  | n + 1, x8_l3, x8_l4 =>
    if o_choices ≤ x8_l4 then (
      some (x8_l3)
    ) else (
      jn (fun (x44_l3 : Int32) =>
        P_X8_looksLike_8 p1 p2 o_choices f_values f_left n x44_l3 (x8_l4 + 1)
      ) (fun (j44 : Int32 → Option (Int32)) =>
        if (p1 &&& (1 <<< (x8_l4 &&& 31))) = 0 then (
          j44 x8_l3
        ) else (
          (P_X8_fixedIn (1 <<< (p2 &&& 31)) x8_l4 o_choices f_values f_left).bind fun (z_36 : Int32) =>
            (P_X8_leftBy x8_l4 z_36 f_left).bind fun (z_39 : Int32) =>
              j44 (x8_l3 &&& z_39)
        )
      )
    )
def P_X8_looksLike (p1 : Int32) (p2 : Int32) (o_choices : Int32) (o_worlds : Int32) (f_values : (Nat → Int32)) (f_left : (Nat → Int32)) : Option (Int32) :=
  (P_X8_all o_worlds).bind fun (z_1 : Int32) =>
    P_X8_looksLike_8 p1 p2 o_choices f_values f_left QF z_1 0
def P_X9_inCommon_26 (p1 : Int32) (p2 : Int32) (p4 : Int32) (tongue_choices : Int32) (tongue_worlds : Int32) (f_tongue_values : (Nat → Int32)) (f_tongue_left : (Nat → Int32)) (k87 : Int32 → Option (Int32)) : Nat → Int32 → Int32 → Option (Int32)
  | 0, _, _ => none
  | n + 1, x26_l5, x26_l7 =>
    (P_X8_worlds tongue_worlds).bind fun (z_32 : Int32) =>
      if z_32 ≤ x26_l7 then (
        k87 x26_l5
      ) else (
        (P_X4_has x26_l5 x26_l7).bind fun (z_42 : Int32) =>
          jn (fun (x81_l5 : Int32) =>
            P_X9_inCommon_26 p1 p2 p4 tongue_choices tongue_worlds f_tongue_values f_tongue_left k87 n x81_l5 (x26_l7 + 1)
          ) (fun (j81 : Int32 → Option (Int32)) =>
            if z_42 = 0 then (
              j81 x26_l5
            ) else (
              (P_X8_looksLike p1 x26_l7 tongue_choices tongue_worlds f_tongue_values f_tongue_left).bind fun (z_55 : Int32) =>
                (P_X8_looksLike p2 x26_l7 tongue_choices tongue_worlds f_tongue_values f_tongue_left).bind fun (z_65 : Int32) =>
                  j81 (x26_l5 ||| (p4 &&& (z_55 ||| z_65)))
            )
          )
      )
def P_X9_inCommon_11 (p1 : Int32) (p2 : Int32) (p4 : Int32) (tongue_choices : Int32) (tongue_worlds : Int32) (f_tongue_values : (Nat → Int32)) (f_tongue_left : (Nat → Int32)) : Nat → Int32 → Int32 → Option (Int32)
  | 0, _, _ => none
  | n + 1, x11_l5, x11_l6 =>
    (P_X8_worlds tongue_worlds).bind fun (z_17 : Int32) =>
      if z_17 ≤ x11_l6 then (
        some (x11_l5)
      ) else (
        jn (fun (x87_l5 : Int32) =>
          P_X9_inCommon_11 p1 p2 p4 tongue_choices tongue_worlds f_tongue_values f_tongue_left n x87_l5 (x11_l6 + 1)
        ) (fun (k87 : Int32 → Option (Int32)) =>
          P_X9_inCommon_26 p1 p2 p4 tongue_choices tongue_worlds f_tongue_values f_tongue_left k87 QF x11_l5 0
        )
      )
def P_X9_inCommon (p1 : Int32) (p2 : Int32) (p3 : Int32) (p4 : Int32) (tongue_choices : Int32) (tongue_worlds : Int32) (f_tongue_values : (Nat → Int32)) (f_tongue_left : (Nat → Int32)) : Option (Int32) :=
  P_X9_inCommon_11 p1 p2 p4 tongue_choices tongue_worlds f_tongue_values f_tongue_left QF (p4 &&& (1 <<< (p3 &&& 31))) 0
def P_X10_common (p1 : Int32) (p2 : Int32) (p3 : Int32) (speech_choices : Int32) (speech_worlds : Int32) (f_speech_values : (Nat → Int32)) (f_speech_left : (Nat → Int32)) (now_sayings : Int32) (f_now_left : (Nat → Int32)) : Option (Int32) :=
  (P_X10_isSeen p1).bind fun (z_1 : Int32) =>
    if z_1 = 0 then (
      some ((-1))
    ) else (
      (P_X10_isSeen p2).bind fun (z_8 : Int32) =>
        if z_8 = 0 then (
          some ((-1))
        ) else (
          (P_X8_isWorld p3 speech_worlds).bind fun (z_19 : Int32) =>
            if z_19 = 0 then (
              some ((-1))
            ) else (
              (P_X10_contract speech_worlds now_sayings f_now_left).bind fun (z_35 : Int32) =>
                (P_X9_inCommon p1 p2 p3 z_35 speech_choices speech_worlds f_speech_values f_speech_left).bind fun (z_38 : Int32) =>
                  some (z_38)
            )
        )
    )
def P_X9_knows (p1 : Int32) (p2 : Int32) (p3 : Int32) (tongue_choices : Int32) (tongue_worlds : Int32) (f_tongue_values : (Nat → Int32)) (f_tongue_left : (Nat → Int32)) : Option (Int32) :=
  (P_X8_looksLike p1 p2 tongue_choices tongue_worlds f_tongue_values f_tongue_left).bind fun (z_7 : Int32) =>
    (P_J6_bitCount_0f7a4 (p3 &&& z_7)).bind fun (z_11 : Int32) =>
      if z_11 = 1 then (
        some (1)
      ) else (
        some (0)
      )
def P_X9_unknownTo_5 (p1 : Int32) (p2 : Int32) (tongue_choices : Int32) (tongue_worlds : Int32) (f_tongue_values : (Nat → Int32)) (f_tongue_left : (Nat → Int32)) : Nat → Int32 → Int32 → Option (Int32)
  | 0, _, _ => none
  | n + 1, x5_l3, x5_l4 =>
    (P_X8_worlds tongue_worlds).bind fun (z_11 : Int32) =>
      if z_11 ≤ x5_l4 then (
        some (x5_l3)
      ) else (
        (P_X4_has p2 x5_l4).bind fun (z_20 : Int32) =>
          jn (fun (x44_l3 : Int32) =>
            P_X9_unknownTo_5 p1 p2 tongue_choices tongue_worlds f_tongue_values f_tongue_left n x44_l3 (x5_l4 + 1)
          ) (fun (j44 : Int32 → Option (Int32)) =>
            if z_20 = 0 then (
              j44 x5_l3
            ) else (
              (P_X9_knows p1 x5_l4 p2 tongue_choices tongue_worlds f_tongue_values f_tongue_left).bind fun (z_31 : Int32) =>
                if z_31 = 0 then (
                  j44 (x5_l3 ||| (1 <<< (x5_l4 &&& 31)))
                ) else (
                  j44 x5_l3
                )
            )
          )
      )
def P_X9_unknownTo (p1 : Int32) (p2 : Int32) (tongue_choices : Int32) (tongue_worlds : Int32) (f_tongue_values : (Nat → Int32)) (f_tongue_left : (Nat → Int32)) : Option (Int32) :=
  P_X9_unknownTo_5 p1 p2 tongue_choices tongue_worlds f_tongue_values f_tongue_left QF 0 0
def P_X10_talk_48 (p1 : Int32) (p2 : Int32) (p3 : Int32) (speech_choices : Int32) (speech_worlds : Int32) (f_speech_values : (Nat → Int32)) (f_speech_left : (Nat → Int32)) : Nat → Int32 → Int32 → Option (Int32)
  | 0, _, _ => none
  | n + 1, x48_l4, x48_l5 =>
    if 30 < x48_l5 then (
      some ((-9))
    ) else (
      jn (fun (x68_s0 : Int32) =>
        (P_X9_knows x68_s0 p3 x48_l4 speech_choices speech_worlds f_speech_values f_speech_left).bind fun (z_79 : Int32) =>
          if z_79 = 0 then (
            (P_X9_unknownTo x68_s0 x48_l4 speech_choices speech_worlds f_speech_values f_speech_left).bind fun (z_96 : Int32) =>
              P_X10_talk_48 p1 p2 p3 speech_choices speech_worlds f_speech_values f_speech_left n z_96 (x48_l5 + 1)
          ) else (
            some (x48_l5)
          )
      ) (fun (j68 : Int32 → Option (Int32)) =>
        if (x48_l5 - x48_l5 / 2 * 2) = 1 then (
          j68 p1
        ) else (
          j68 p2
        )
      )
    )
def P_X10_talk (p1 : Int32) (p2 : Int32) (p3 : Int32) (speech_choices : Int32) (speech_worlds : Int32) (f_speech_values : (Nat → Int32)) (f_speech_left : (Nat → Int32)) (now_sayings : Int32) (f_now_left : (Nat → Int32)) : Option (Int32) :=
  (P_X10_isSeen p1).bind fun (z_1 : Int32) =>
    if z_1 = 0 then (
      some ((-1))
    ) else (
      (P_X10_isSeen p2).bind fun (z_8 : Int32) =>
        if z_8 = 0 then (
          some ((-1))
        ) else (
          (P_X8_isWorld p3 speech_worlds).bind fun (z_19 : Int32) =>
            if z_19 = 0 then (
              some ((-1))
            ) else (
              (P_X10_contract speech_worlds now_sayings f_now_left).bind fun (z_28 : Int32) =>
                (P_X4_has z_28 p3).bind fun (z_36 : Int32) =>
                  if z_36 = 0 then (
                    some ((-2))
                  ) else (
                    P_X10_talk_48 p1 p2 p3 speech_choices speech_worlds f_speech_values f_speech_left QF z_28 1
                  )
            )
        )
    )
def P_X10_silence_35 (p1 : Int32) (p2 : Int32) (p3 : Int32) (speech_choices : Int32) (speech_worlds : Int32) (f_speech_values : (Nat → Int32)) (f_speech_left : (Nat → Int32)) : Nat → Int32 → Int32 → Option (Int32)
  | 0, _, _ => none
  | n + 1, x35_l4, x35_l5 =>
    if p3 < x35_l5 then (
      some (x35_l4)
    ) else (
      jn (fun (x58_s1 : Int32) =>
        (P_X9_unknownTo x58_s1 x35_l4 speech_choices speech_worlds f_speech_values f_speech_left).bind fun (z_60 : Int32) =>
          P_X10_silence_35 p1 p2 p3 speech_choices speech_worlds f_speech_values f_speech_left n z_60 (x35_l5 + 1)
      ) (fun (j58 : Int32 → Option (Int32)) =>
        if (x35_l5 - x35_l5 / 2 * 2) = 1 then (
          j58 p1
        ) else (
          j58 p2
        )
      )
    )
def P_X10_silence (p1 : Int32) (p2 : Int32) (p3 : Int32) (speech_choices : Int32) (speech_worlds : Int32) (f_speech_values : (Nat → Int32)) (f_speech_left : (Nat → Int32)) (now_sayings : Int32) (f_now_left : (Nat → Int32)) : Option (Int32) :=
  (P_X10_isSeen p1).bind fun (z_1 : Int32) =>
    if z_1 = 0 then (
      some ((-1))
    ) else (
      (P_X10_isSeen p2).bind fun (z_8 : Int32) =>
        if z_8 = 0 then (
          some ((-1))
        ) else (
          if p3 < 0 then (
            some ((-1))
          ) else (
            if p3 ≤ 30 then (
              (P_X10_contract speech_worlds now_sayings f_now_left).bind fun (z_27 : Int32) =>
                P_X10_silence_35 p1 p2 p3 speech_choices speech_worlds f_speech_values f_speech_left QF z_27 1
            ) else (
              some ((-1))
            )
          )
        )
    )
def P_X10_plainMark (p1 : Int32) (o_traced : Int64) (f_now_signs : (Nat → Int32)) : Option (Int32 × Int64) :=
  (P_X0_signsOf p1 f_now_signs).bind fun (z_15 : Int32) =>
    some (z_15, o_traced + 1)
def P_X10_offerMark (p1 : Int32) (o_traced : Int64) (f_now_left : (Nat → Int32)) (f_now_signs : (Nat → Int32)) : Option (Int32 × Int64) :=
  (P_X10_plainMark p1 (o_traced + 10) f_now_signs).bind fun (z_14 : Int32 × Int64) =>
    (P_X0_leftBy p1 f_now_left).bind fun (z_22 : Int32) =>
      (P_J6_bitCount_0f7a4 z_22).bind fun (z_25 : Int32) =>
        some (z_14.1 + z_25, z_14.2)
def P_X10_clauseMark (p1 : Int32) (o_traced : Int64) (f_now_signs : (Nat → Int32)) : Option (Int32 × Int64) :=
  (P_X10_plainMark p1 (o_traced + 100) f_now_signs).bind fun (z_14 : Int32 × Int64) =>
    some (z_14.1 * 2, z_14.2)
def P_X10_vowMark (p1 : Int32) (o_traced : Int64) (speech_worlds : Int32) (now_sayings : Int32) (f_now_left : (Nat → Int32)) (f_now_signs : (Nat → Int32)) : Option (Int32 × Int64) :=
  (P_X10_clauseMark p1 (o_traced + 1000) f_now_signs).bind fun (z_14 : Int32 × Int64) =>
    (P_X10_lostWithout p1 speech_worlds now_sayings f_now_left).bind fun (z_19 : Int32) =>
      some (z_14.1 + z_19, z_14.2)
def P_X10_questionMark (p1 : Int32) (o_traced : Int64) (f_now_left : (Nat → Int32)) (f_now_signs : (Nat → Int32)) : Option (Int32 × Int64) :=
  (P_X10_offerMark p1 (o_traced + 10000) f_now_left f_now_signs).bind fun (z_14 : Int32 × Int64) =>
    some (z_14.1 - p1, z_14.2)
def P_X10_shrugMark (p1 : Int32) (o_measured : Int32) (o_traced : Int64) (speech_choices : Int32) (speech_worlds : Int32) (f_speech_values : (Nat → Int32)) (f_speech_left : (Nat → Int32)) (now_words : Int32) (f_now_left : (Nat → Int32)) (f_now_signs : (Nat → Int32)) (f_now_wordSets : (Nat → Int32)) (lengths_found : Int32) (f_lengths_length : (Nat → Int32)) (f_lengths_order : (Nat → Int32)) (f_lengths_start : (Nat → Int32)) : Option (Int32 × Int32 × Int64 × Int32 × (Nat → Int32) × (Nat → Int32) × (Nat → Int32)) :=
  (P_X10_plainMark p1 (o_traced + 100000) f_now_signs).bind fun (z_14 : Int32 × Int64) =>
    (P_X10_lengthsNow o_measured speech_choices speech_worlds f_speech_values f_speech_left now_words f_now_wordSets lengths_found f_lengths_length f_lengths_order f_lengths_start).bind fun (z_19 : Int32 × Int32 × (Nat → Int32) × (Nat → Int32) × (Nat → Int32)) =>
      (P_X0_leftBy p1 f_now_left).bind fun (z_27 : Int32) =>
        (P_X1_of z_27 z_19.2.2.1).bind fun (z_30 : Int32) =>
          some (z_14.1 + (if 0 < z_30 then z_30 else 0), z_19.1, z_14.2, z_19.2.1, z_19.2.2.1, z_19.2.2.2.1, z_19.2.2.2.2)
def P_X10_mark (p1 : Int32) (p2 : Int32) (o_measured : Int32) (o_traced : Int64) (speech_choices : Int32) (speech_worlds : Int32) (f_speech_values : (Nat → Int32)) (f_speech_left : (Nat → Int32)) (now_sayings : Int32) (now_words : Int32) (f_now_left : (Nat → Int32)) (f_now_signs : (Nat → Int32)) (f_now_wordSets : (Nat → Int32)) (lengths_found : Int32) (f_lengths_length : (Nat → Int32)) (f_lengths_order : (Nat → Int32)) (f_lengths_start : (Nat → Int32)) : Option (Int32 × Int32 × Int64 × Int32 × (Nat → Int32) × (Nat → Int32) × (Nat → Int32)) :=
  (P_X0_isSaying p2 now_sayings).bind fun (z_5 : Int32) =>
    if z_5 = 0 then (
      some ((-1000000), o_measured, o_traced, lengths_found, f_lengths_length, f_lengths_order, f_lengths_start)
    ) else (
      if p1 = 0 then (
        (P_X10_plainMark p2 o_traced f_now_signs).bind fun (z_58 : Int32 × Int64) =>
          some (z_58.1, o_measured, z_58.2, lengths_found, f_lengths_length, f_lengths_order, f_lengths_start)
      ) else (
      if p1 = 1 then (
        (P_X10_offerMark p2 o_traced f_now_left f_now_signs).bind fun (z_64 : Int32 × Int64) =>
          some (z_64.1, o_measured, z_64.2, lengths_found, f_lengths_length, f_lengths_order, f_lengths_start)
      ) else (
      if p1 = 2 then (
        (P_X10_clauseMark p2 o_traced f_now_signs).bind fun (z_70 : Int32 × Int64) =>
          some (z_70.1, o_measured, z_70.2, lengths_found, f_lengths_length, f_lengths_order, f_lengths_start)
      ) else (
      if p1 = 3 then (
        (P_X10_vowMark p2 o_traced speech_worlds now_sayings f_now_left f_now_signs).bind fun (z_76 : Int32 × Int64) =>
          some (z_76.1, o_measured, z_76.2, lengths_found, f_lengths_length, f_lengths_order, f_lengths_start)
      ) else (
      if p1 = 4 then (
        (P_X10_questionMark p2 o_traced f_now_left f_now_signs).bind fun (z_82 : Int32 × Int64) =>
          some (z_82.1, o_measured, z_82.2, lengths_found, f_lengths_length, f_lengths_order, f_lengths_start)
      ) else (
      if p1 = 5 then (
        (P_X10_shrugMark p2 o_measured o_traced speech_choices speech_worlds f_speech_values f_speech_left now_words f_now_left f_now_signs f_now_wordSets lengths_found f_lengths_length f_lengths_order f_lengths_start).bind fun (z_88 : Int32 × Int32 × Int64 × Int32 × (Nat → Int32) × (Nat → Int32) × (Nat → Int32)) =>
          some (z_88.1, z_88.2.1, z_88.2.2.1, z_88.2.2.2.1, z_88.2.2.2.2.1, z_88.2.2.2.2.2.1, z_88.2.2.2.2.2.2)
      ) else (
        some ((-1000000), o_measured, o_traced, lengths_found, f_lengths_length, f_lengths_order, f_lengths_start)
      ))))))
    )
def P_X0_copy_48 (f_p1_wordSets : (Nat → Int32)) (k75 : (Nat → Int32) → Option (Int32 × Int32 × Int32 × (Nat → Int32) × (Nat → Int32) × (Nat → Int32))) : Nat → Int32 → (Nat → Int32) → Option (Int32 × Int32 × Int32 × (Nat → Int32) × (Nat → Int32) × (Nat → Int32))
  | 0, _, _ => none
  | n + 1, x48_l2, x48_f_wordSets =>
    if 3 ≤ x48_l2 then (
      k75 x48_f_wordSets
    ) else (
      (P_X4_at 3 x48_l2 f_p1_wordSets).bind fun (z_63 : Int32) =>
        (P_X4_put 3 x48_l2 z_63 x48_f_wordSets).bind fun (z_66 : (Nat → Int32)) =>
          P_X0_copy_48 f_p1_wordSets k75 n (x48_l2 + 1) z_66
    )
def P_X0_copy_2 (f_p1_left : (Nat → Int32)) (f_p1_signs : (Nat → Int32)) (k46 : (Nat → Int32) → (Nat → Int32) → Option (Int32 × Int32 × Int32 × (Nat → Int32) × (Nat → Int32) × (Nat → Int32))) : Nat → Int32 → (Nat → Int32) → (Nat → Int32) → Option (Int32 × Int32 × Int32 × (Nat → Int32) × (Nat → Int32) × (Nat → Int32))
  | 0, _, _, _ => none
  | n + 1, x2_l2, x2_f_left, x2_f_signs =>
    if 8 ≤ x2_l2 then (
      k46 x2_f_left x2_f_signs
    ) else (
      (P_X4_at 8 x2_l2 f_p1_left).bind fun (z_18 : Int32) =>
        (P_X4_put 8 x2_l2 z_18 x2_f_left).bind fun (z_21 : (Nat → Int32)) =>
          (P_X4_at 8 x2_l2 f_p1_signs).bind fun (z_34 : Int32) =>
            (P_X4_put 8 x2_l2 z_34 x2_f_signs).bind fun (z_37 : (Nat → Int32)) =>
              P_X0_copy_2 f_p1_left f_p1_signs k46 n (x2_l2 + 1) z_21 z_37
    )
def P_X0_copy (o_sayings : Int32) (o_words : Int32) (o_filled : Int32) (f_left : (Nat → Int32)) (f_signs : (Nat → Int32)) (f_wordSets : (Nat → Int32)) (p1_sayings : Int32) (p1_words : Int32) (f_p1_left : (Nat → Int32)) (f_p1_signs : (Nat → Int32)) (f_p1_wordSets : (Nat → Int32)) : Option (Int32 × Int32 × Int32 × (Nat → Int32) × (Nat → Int32) × (Nat → Int32)) :=
  jn (fun (x46_f_left : (Nat → Int32)) (x46_f_signs : (Nat → Int32)) =>
    jn (fun (x75_f_wordSets : (Nat → Int32)) =>
      some (p1_sayings, p1_words, 1, x46_f_left, x46_f_signs, x75_f_wordSets)
    ) (fun (k75 : (Nat → Int32) → Option (Int32 × Int32 × Int32 × (Nat → Int32) × (Nat → Int32) × (Nat → Int32))) =>
      P_X0_copy_48 f_p1_wordSets k75 QF 0 f_wordSets
    )
  ) (fun (k46 : (Nat → Int32) → (Nat → Int32) → Option (Int32 × Int32 × Int32 × (Nat → Int32) × (Nat → Int32) × (Nat → Int32))) =>
    P_X0_copy_2 f_p1_left f_p1_signs k46 QF 0 f_left f_signs
  )
def P_X10_keep (p1 : Int32) (now_sayings : Int32) (now_words : Int32) (f_now_left : (Nat → Int32)) (f_now_signs : (Nat → Int32)) (f_now_wordSets : (Nat → Int32)) (image0_sayings : Int32) (image0_words : Int32) (image0_filled : Int32) (f_image0_left : (Nat → Int32)) (f_image0_signs : (Nat → Int32)) (f_image0_wordSets : (Nat → Int32)) (image1_sayings : Int32) (image1_words : Int32) (image1_filled : Int32) (f_image1_left : (Nat → Int32)) (f_image1_signs : (Nat → Int32)) (f_image1_wordSets : (Nat → Int32)) : Option (Int32 × Int32 × Int32 × Int32 × (Nat → Int32) × (Nat → Int32) × (Nat → Int32) × Int32 × Int32 × Int32 × (Nat → Int32) × (Nat → Int32) × (Nat → Int32)) :=
  if p1 < 0 then (
    some ((-1), image0_sayings, image0_words, image0_filled, f_image0_left, f_image0_signs, f_image0_wordSets, image1_sayings, image1_words, image1_filled, f_image1_left, f_image1_signs, f_image1_wordSets)
  ) else (
    if p1 ≤ 1 then (
      if p1 = 0 then (
        (P_X0_copy image0_sayings image0_words image0_filled f_image0_left f_image0_signs f_image0_wordSets now_sayings now_words f_now_left f_now_signs f_now_wordSets).bind fun (z_20 : Int32 × Int32 × Int32 × (Nat → Int32) × (Nat → Int32) × (Nat → Int32)) =>
          (P_X0_sayings now_sayings).bind fun (z_27 : Int32) =>
            some (z_27, z_20.1, z_20.2.1, z_20.2.2.1, z_20.2.2.2.1, z_20.2.2.2.2.1, z_20.2.2.2.2.2, image1_sayings, image1_words, image1_filled, f_image1_left, f_image1_signs, f_image1_wordSets)
      ) else (
        (P_X0_copy image1_sayings image1_words image1_filled f_image1_left f_image1_signs f_image1_wordSets now_sayings now_words f_now_left f_now_signs f_now_wordSets).bind fun (z_20 : Int32 × Int32 × Int32 × (Nat → Int32) × (Nat → Int32) × (Nat → Int32)) =>
          (P_X0_sayings now_sayings).bind fun (z_27 : Int32) =>
            some (z_27, image0_sayings, image0_words, image0_filled, f_image0_left, f_image0_signs, f_image0_wordSets, z_20.1, z_20.2.1, z_20.2.2.1, z_20.2.2.2.1, z_20.2.2.2.2.1, z_20.2.2.2.2.2)
      )
    ) else (
      some ((-1), image0_sayings, image0_words, image0_filled, f_image0_left, f_image0_signs, f_image0_wordSets, image1_sayings, image1_words, image1_filled, f_image1_left, f_image1_signs, f_image1_wordSets)
    )
  )
def P_X0_isFilled (o_filled : Int32) : Option (Int32) :=
  cz o_filled (some (o_filled))
def P_X10_back (p1 : Int32) (o_measured : Int32) (now_sayings : Int32) (now_words : Int32) (now_filled : Int32) (f_now_left : (Nat → Int32)) (f_now_signs : (Nat → Int32)) (f_now_wordSets : (Nat → Int32)) (image0_sayings : Int32) (image0_words : Int32) (image0_filled : Int32) (f_image0_left : (Nat → Int32)) (f_image0_signs : (Nat → Int32)) (f_image0_wordSets : (Nat → Int32)) (image1_sayings : Int32) (image1_words : Int32) (image1_filled : Int32) (f_image1_left : (Nat → Int32)) (f_image1_signs : (Nat → Int32)) (f_image1_wordSets : (Nat → Int32)) (refusals_known : Int32) : Option (Int32 × Int32 × Int32 × Int32 × Int32 × (Nat → Int32) × (Nat → Int32) × (Nat → Int32) × Int32) :=
  if p1 < 0 then (
    some ((-1), o_measured, now_sayings, now_words, now_filled, f_now_left, f_now_signs, f_now_wordSets, refusals_known)
  ) else (
    if p1 ≤ 1 then (
      if p1 = 0 then (
        (P_X0_isFilled image0_filled).bind fun (z_18 : Int32) =>
          if z_18 = 0 then (
            some ((-2), o_measured, now_sayings, now_words, now_filled, f_now_left, f_now_signs, f_now_wordSets, refusals_known)
          ) else (
            (P_X0_copy now_sayings now_words now_filled f_now_left f_now_signs f_now_wordSets image0_sayings image0_words f_image0_left f_image0_signs f_image0_wordSets).bind fun (z_32 : Int32 × Int32 × Int32 × (Nat → Int32) × (Nat → Int32) × (Nat → Int32)) =>
              (P_X10_signsChanged o_measured refusals_known).bind fun (z_36 : Int32 × Int32) =>
                (P_X0_sayings z_32.1).bind fun (z_43 : Int32) =>
                  some (z_43, z_36.1, z_32.1, z_32.2.1, z_32.2.2.1, z_32.2.2.2.1, z_32.2.2.2.2.1, z_32.2.2.2.2.2, z_36.2)
          )
      ) else (
        (P_X0_isFilled image1_filled).bind fun (z_18 : Int32) =>
          if z_18 = 0 then (
            some ((-2), o_measured, now_sayings, now_words, now_filled, f_now_left, f_now_signs, f_now_wordSets, refusals_known)
          ) else (
            (P_X0_copy now_sayings now_words now_filled f_now_left f_now_signs f_now_wordSets image1_sayings image1_words f_image1_left f_image1_signs f_image1_wordSets).bind fun (z_32 : Int32 × Int32 × Int32 × (Nat → Int32) × (Nat → Int32) × (Nat → Int32)) =>
              (P_X10_signsChanged o_measured refusals_known).bind fun (z_36 : Int32 × Int32) =>
                (P_X0_sayings z_32.1).bind fun (z_43 : Int32) =>
                  some (z_43, z_36.1, z_32.1, z_32.2.1, z_32.2.2.1, z_32.2.2.2.1, z_32.2.2.2.2.1, z_32.2.2.2.2.2, z_36.2)
          )
      )
    ) else (
      some ((-1), o_measured, now_sayings, now_words, now_filled, f_now_left, f_now_signs, f_now_wordSets, refusals_known)
    )
  )
def P_X10_count (p1 : Int32) (text_size : Int32) (speech_choices : Int32) (speech_worlds : Int32) (now_sayings : Int32) (now_words : Int32) : Option (Int32) :=
  if p1 = 0 then (
    (P_X8_choices speech_choices).bind fun (z_40 : Int32) =>
      some (z_40)
  ) else (
  if p1 = 1 then (
    (P_X8_worlds speech_worlds).bind fun (z_48 : Int32) =>
      some (z_48)
  ) else (
  if p1 = 2 then (
    (P_X0_sayings now_sayings).bind fun (z_56 : Int32) =>
      some (z_56)
  ) else (
  if p1 = 3 then (
    (P_X0_words now_words).bind fun (z_64 : Int32) =>
      some (z_64)
  ) else (
  if p1 = 4 then (
    (P_X6_size text_size).bind fun (z_72 : Int32) =>
      some (z_72)
  ) else (
    some ((-1))
  )))))
def P_X10_trace (o_traced : Int64) : Option (Int64) :=
  some (o_traced)
def P_X11_in (p0 : Int32) (p1 : Int32) (p2 : Int32) : Option (Int32) :=
  if p0 < p1 then (
    some (0)
  ) else (
    if p2 < p0 then (
      some (0)
    ) else (
      some (1)
    )
  )
def P_X11_type_32 (p1 : Int64) (k75 : Int32 → (Nat → Int32) → Option (Int32 × Int32 × (Nat → Int32))) : Nat → Int32 → Int32 → (Nat → Int32) → Option (Int32 × Int32 × (Nat → Int32))
  | 0, _, _, _ => none
  | n + 1, x32_l4, x32_o_typed, x32_f_text =>
    if x32_l4 < 0 then (
      k75 x32_o_typed x32_f_text
    ) else (
      ck x32_o_typed 200 (
        P_X11_type_32 p1 k75 n (x32_l4 + (-1)) (x32_o_typed + 1) (upd x32_f_text x32_o_typed.toNatClampNeg (vp_nar .byte ((((p1 >>> ((8 * x32_l4).toInt64 &&& 63)) &&& 255).toInt32).toInt8.toInt32)))
      )
    )
def P_X11_type (p1 : Int64) (p3 : Int32) (o_typed : Int32) (f_text : (Nat → Int32)) : Option (Int32 × Int32 × (Nat → Int32)) :=
  (P_X11_in p3 1 8).bind fun (z_4 : Int32) =>
    if z_4 = 0 then (
      some ((-1), o_typed, f_text)
    ) else (
      if (o_typed + p3) ≤ 200 then (
        jn (fun (x75_o_typed : Int32) (x75_f_text : (Nat → Int32)) =>
          some (x75_o_typed, x75_o_typed, x75_f_text)
        ) (fun (k75 : Int32 → (Nat → Int32) → Option (Int32 × Int32 × (Nat → Int32))) =>
          P_X11_type_32 p1 k75 QF (p3 - 1) o_typed f_text
        )
      ) else (
        some ((-3), o_typed, f_text)
      )
    )
def P_X11_clear (o_typed : Int32) : Option (Int32 × Int32) :=
  some (o_typed, 0)
def P_X11_here (o_typed : Int32) (o_at : Int32) (f_text : (Nat → Int32)) : Option (Int32) :=
  if o_typed ≤ o_at then (
    some ((-1))
  ) else (
    ck o_at 200 (
      some ((f_text o_at.toNatClampNeg) &&& 255)
    )
  )
def P_X11_signOf (p0 : Int32) : Option (Int32) :=
  if p0 = 59 then (
    some (4)
  ) else (
    if p0 = 124 then (
      some (5)
    ) else (
      if p0 = 38 then (
        some (6)
      ) else (
        if p0 = 40 then (
          some (7)
        ) else (
          if p0 = 41 then (
            some (8)
          ) else (
            some (10)
          )
        )
      )
    )
  )
def P_X11_next_204 (o_typed : Int32) (f_text : (Nat → Int32)) (k266 : Int32 → Int32 → Option (Int32 × Int32 × Int32 × Int32)) : Nat → Int32 → Int32 → Option (Int32 × Int32 × Int32 × Int32)
  | 0, _, _ => none
  | n + 1, x204_o_at, x204_o_value =>
    (P_X11_here o_typed x204_o_at f_text).bind fun (z_205 : Int32) =>
      (P_X11_in z_205 48 57).bind fun (z_212 : Int32) =>
        if z_212 = 0 then (
          k266 x204_o_at x204_o_value
        ) else (
          jn (fun (x250_s1 : Int32) =>
            P_X11_next_204 o_typed f_text k266 n (x204_o_at + 1) x250_s1
          ) (fun (j250 : Int32 → Option (Int32 × Int32 × Int32 × Int32)) =>
            if x204_o_value ≤ 99 then (
              (P_X11_here o_typed x204_o_at f_text).bind fun (z_243 : Int32) =>
                j250 (((10 * x204_o_value) + z_243) - 48)
            ) else (
              j250 x204_o_value
            )
          )
        )
def P_X11_next_66 (o_typed : Int32) (f_text : (Nat → Int32)) (x22_o_at : Int32) (k124 : Int32 → Int32 → Option (Int32 × Int32 × Int32 × Int32)) : Nat → Int32 → Int32 → Option (Int32 × Int32 × Int32 × Int32)
  | 0, _, _ => none
  | n + 1, x66_l2, x66_o_at =>
    (P_X11_here o_typed x66_o_at f_text).bind fun (z_67 : Int32) =>
      (P_X11_in z_67 97 122).bind fun (z_74 : Int32) =>
        if z_74 = 0 then (
          k124 x66_l2 x66_o_at
        ) else (
          jn (fun (x110_s0 : Int32) =>
            P_X11_next_66 o_typed f_text x22_o_at k124 n x110_s0 (x66_o_at + 1)
          ) (fun (j110 : Int32 → Option (Int32 × Int32 × Int32 × Int32)) =>
            if 6 ≤ (x66_o_at - x22_o_at) then (
              j110 0
            ) else (
              (P_X11_here o_typed x66_o_at f_text).bind fun (z_99 : Int32) =>
                j110 (((27 * x66_l2) + z_99) - 96)
            )
          )
        )
def P_X11_next_0 (o_typed : Int32) (f_text : (Nat → Int32)) (k22 : Int32 → Option (Int32 × Int32 × Int32 × Int32)) : Nat → Int32 → Option (Int32 × Int32 × Int32 × Int32)
  | 0, _ => none
  | n + 1, x0_o_at =>
    (P_X11_here o_typed x0_o_at f_text).bind fun (z_1 : Int32) =>
      if z_1 = 32 then (
        P_X11_next_0 o_typed f_text k22 n (x0_o_at + 1)
      ) else (
        k22 x0_o_at
      )
def P_X11_next (o_typed : Int32) (o_at : Int32) (o_start : Int32) (o_sort : Int32) (o_value : Int32) (f_text : (Nat → Int32)) : Option (Int32 × Int32 × Int32 × Int32) :=
  jn (fun (x22_o_at : Int32) =>
    (P_X11_here o_typed x22_o_at f_text).bind fun (z_36 : Int32) =>
      if 0 ≤ z_36 then (
        (P_X11_in z_36 97 122).bind fun (z_58 : Int32) =>
          if z_58 = 0 then (
            (P_X11_in z_36 48 57).bind fun (z_198 : Int32) =>
              if z_198 = 0 then (
                (P_X11_signOf z_36).bind fun (z_319 : Int32) =>
                  some (x22_o_at + 1, x22_o_at, z_319, 0)
              ) else (
                jn (fun (x266_o_at : Int32) (x266_o_value : Int32) =>
                  jn (fun (_ : Unit) =>
                    some (x266_o_at, x22_o_at, 10, x266_o_value)
                  ) (fun (j295 : Unit → Option (Int32 × Int32 × Int32 × Int32)) =>
                    jn (fun (x301_s1 : Int32) =>
                      some (x266_o_at, x22_o_at, x301_s1, x266_o_value)
                    ) (fun (j301 : Int32 → Option (Int32 × Int32 × Int32 × Int32)) =>
                      if 99 < x266_o_value then (
                        j295 ()
                      ) else (
                        jn (fun (_ : Unit) =>
                          j301 3
                        ) (fun (j300 : Unit → Option (Int32 × Int32 × Int32 × Int32)) =>
                          if z_36 = 48 then (
                            if (x266_o_at - x22_o_at) ≤ 1 then (
                              j300 ()
                            ) else (
                              j295 ()
                            )
                          ) else (
                            j300 ()
                          )
                        )
                      )
                    )
                  )
                ) (fun (k266 : Int32 → Int32 → Option (Int32 × Int32 × Int32 × Int32)) =>
                  P_X11_next_204 o_typed f_text k266 QF x22_o_at 0
                )
              )
          ) else (
            jn (fun (x124_l2 : Int32) (x124_o_at : Int32) =>
              jn (fun (x143_s0 : Int32) =>
                jn (fun (x180_s1 : Int32) =>
                  some (x124_o_at, x22_o_at, x180_s1, x143_s0 - 1)
                ) (fun (j180 : Int32 → Option (Int32 × Int32 × Int32 × Int32)) =>
                  if x143_s0 = 47600141 then (
                    j180 0
                  ) else (
                    if x143_s0 = 23 then (
                      j180 2
                    ) else (
                      (P_X11_in x143_s0 1 3).bind fun (z_168 : Int32) =>
                        if z_168 = 0 then (
                          j180 10
                        ) else (
                          j180 1
                        )
                    )
                  )
                )
              ) (fun (j143 : Int32 → Option (Int32 × Int32 × Int32 × Int32)) =>
                if (x124_o_at - x22_o_at) ≤ 6 then (
                  j143 x124_l2
                ) else (
                  j143 0
                )
              )
            ) (fun (k124 : Int32 → Int32 → Option (Int32 × Int32 × Int32 × Int32)) =>
              P_X11_next_66 o_typed f_text x22_o_at k124 QF 0 x22_o_at
            )
          )
      ) else (
        some (x22_o_at, x22_o_at, 9, 0)
      )
  ) (fun (k22 : Int32 → Option (Int32 × Int32 × Int32 × Int32)) =>
    P_X11_next_0 o_typed f_text k22 QF o_at
  )
def P_X11_due (p1 : Int32) (o_typed : Int32) (o_at : Int32) (o_start : Int32) (o_sort : Int32) (o_value : Int32) (o_fault : Int32) (f_text : (Nat → Int32)) : Option (Int32 × Int32 × Int32 × Int32 × Int32 × Int32) :=
  if o_fault = (-9) then (
    if p1 = 0 then (
      some (o_value, o_at, o_start, o_sort, o_value, o_start)
    ) else (
      (P_X11_next o_typed o_at o_start o_sort o_value f_text).bind fun (z_19 : Int32 × Int32 × Int32 × Int32) =>
        some (o_value, z_19.1, z_19.2.1, z_19.2.2.1, z_19.2.2.2, o_fault)
    )
  ) else (
    some (o_value, o_at, o_start, o_sort, o_value, o_fault)
  )
def P_X11_tongue_174 (x145_l1 : Int32) (x145_f_draft : (Nat → Int32)) (k206 : (Nat → Int32) → Option (Int32 × Int32 × Int32 × Int32 × Int32 × Int32 × Int32 × Int32 × Int32 × (Nat → Int32) × (Nat → Int32) × (Nat → Int32) × (Nat → Int32) × (Nat → Int32))) : Nat → Int32 → (Nat → Int32) → Option (Int32 × Int32 × Int32 × Int32 × Int32 × Int32 × Int32 × Int32 × Int32 × (Nat → Int32) × (Nat → Int32) × (Nat → Int32) × (Nat → Int32) × (Nat → Int32))
  | 0, _, _ => none
  | n + 1, x174_l3, x174_f_values =>
    if 3 ≤ x174_l3 then (
      k206 x174_f_values
    ) else (
      jn (fun (x199_s2 : Int32) =>
        ck x174_l3 3 (
          P_X11_tongue_174 x145_l1 x145_f_draft k206 n (x174_l3 + 1) (upd x174_f_values x174_l3.toNatClampNeg x199_s2)
        )
      ) (fun (j199 : Int32 → Option (Int32 × Int32 × Int32 × Int32 × Int32 × Int32 × Int32 × Int32 × Int32 × (Nat → Int32) × (Nat → Int32) × (Nat → Int32) × (Nat → Int32) × (Nat → Int32))) =>
        if x145_l1 ≤ x174_l3 then (
          j199 1
        ) else (
          ck x174_l3 3 (
            j199 (x145_f_draft x174_l3.toNatClampNeg)
          )
        )
      )
    )
def P_X11_tongue_19 (o_typed : Int32) (f_text : (Nat → Int32)) (k145 : Int32 → Int32 → Int32 → Int32 → Int32 → Int32 → Int32 → (Nat → Int32) → Option (Int32 × Int32 × Int32 × Int32 × Int32 × Int32 × Int32 × Int32 × Int32 × (Nat → Int32) × (Nat → Int32) × (Nat → Int32) × (Nat → Int32) × (Nat → Int32))) : Nat → Int32 → Int32 → Int32 → Int32 → Int32 → Int32 → Int32 → (Nat → Int32) → Option (Int32 × Int32 × Int32 × Int32 × Int32 × Int32 × Int32 × Int32 × Int32 × (Nat → Int32) × (Nat → Int32) × (Nat → Int32) × (Nat → Int32) × (Nat → Int32))
  | 0, _, _, _, _, _, _, _, _ => none
  | n + 1, x19_l1, x19_l2, x19_o_at, x19_o_start, x19_o_sort, x19_o_value, x19_o_fault, x19_f_draft =>
    if x19_o_fault = (-9) then (
      if x19_o_sort = 9 then (
        k145 x19_l1 x19_l2 x19_o_at x19_o_start x19_o_sort x19_o_value x19_o_fault x19_f_draft
      ) else (
        jn (fun (_ : Unit) =>
          (P_X11_due 0 o_typed x19_o_at x19_o_start x19_o_sort x19_o_value x19_o_fault f_text).bind fun (z_55 : Int32 × Int32 × Int32 × Int32 × Int32 × Int32) =>
            jn (fun (_ : Unit) =>
              (P_X11_due 0 o_typed z_55.2.1 z_55.2.2.1 z_55.2.2.2.1 z_55.2.2.2.2.1 z_55.2.2.2.2.2 f_text).bind fun (z_97 : Int32 × Int32 × Int32 × Int32 × Int32 × Int32) =>
                jn (fun (x115_s1 : Int32) =>
                  (P_X11_due x115_s1 o_typed z_97.2.1 z_97.2.2.1 z_97.2.2.2.1 z_97.2.2.2.2.1 z_97.2.2.2.2.2 f_text).bind fun (z_115 : Int32 × Int32 × Int32 × Int32 × Int32 × Int32) =>
                    jn (fun (x142_l1 : Int32) (x142_l2 : Int32) (x142_f_draft : (Nat → Int32)) =>
                      P_X11_tongue_19 o_typed f_text k145 n x142_l1 x142_l2 z_115.2.1 z_115.2.2.1 z_115.2.2.2.1 z_115.2.2.2.2.1 z_115.2.2.2.2.2 x142_f_draft
                    ) (fun (j142 : Int32 → Int32 → (Nat → Int32) → Option (Int32 × Int32 × Int32 × Int32 × Int32 × Int32 × Int32 × Int32 × Int32 × (Nat → Int32) × (Nat → Int32) × (Nat → Int32) × (Nat → Int32) × (Nat → Int32))) =>
                      if z_115.2.2.2.2.2 = (-9) then (
                        ck x19_l1 3 (
                          j142 (x19_l1 + 1) (x19_l2 * z_97.1) (upd x19_f_draft x19_l1.toNatClampNeg z_97.1)
                        )
                      ) else (
                        j142 x19_l1 x19_l2 x19_f_draft
                      )
                    )
                ) (fun (j115 : Int32 → Option (Int32 × Int32 × Int32 × Int32 × Int32 × Int32 × Int32 × Int32 × Int32 × (Nat → Int32) × (Nat → Int32) × (Nat → Int32) × (Nat → Int32) × (Nat → Int32))) =>
                  if z_97.2.2.2.1 = 4 then (
                    j115 1
                  ) else (
                    j115 0
                  )
                )
            ) (fun (j96 : Unit → Option (Int32 × Int32 × Int32 × Int32 × Int32 × Int32 × Int32 × Int32 × Int32 × (Nat → Int32) × (Nat → Int32) × (Nat → Int32) × (Nat → Int32) × (Nat → Int32))) =>
              jn (fun (x97_s1 : Int32) =>
                (P_X11_due x97_s1 o_typed z_55.2.1 z_55.2.2.1 z_55.2.2.2.1 z_55.2.2.2.2.1 z_55.2.2.2.2.2 f_text).bind fun (z_97 : Int32 × Int32 × Int32 × Int32 × Int32 × Int32) =>
                  jn (fun (x115_s1 : Int32) =>
                    (P_X11_due x115_s1 o_typed z_97.2.1 z_97.2.2.1 z_97.2.2.2.1 z_97.2.2.2.2.1 z_97.2.2.2.2.2 f_text).bind fun (z_115 : Int32 × Int32 × Int32 × Int32 × Int32 × Int32) =>
                      jn (fun (x142_l1 : Int32) (x142_l2 : Int32) (x142_f_draft : (Nat → Int32)) =>
                        P_X11_tongue_19 o_typed f_text k145 n x142_l1 x142_l2 z_115.2.1 z_115.2.2.1 z_115.2.2.2.1 z_115.2.2.2.2.1 z_115.2.2.2.2.2 x142_f_draft
                      ) (fun (j142 : Int32 → Int32 → (Nat → Int32) → Option (Int32 × Int32 × Int32 × Int32 × Int32 × Int32 × Int32 × Int32 × Int32 × (Nat → Int32) × (Nat → Int32) × (Nat → Int32) × (Nat → Int32) × (Nat → Int32))) =>
                        if z_115.2.2.2.2.2 = (-9) then (
                          ck x19_l1 3 (
                            j142 (x19_l1 + 1) (x19_l2 * z_97.1) (upd x19_f_draft x19_l1.toNatClampNeg z_97.1)
                          )
                        ) else (
                          j142 x19_l1 x19_l2 x19_f_draft
                        )
                      )
                  ) (fun (j115 : Int32 → Option (Int32 × Int32 × Int32 × Int32 × Int32 × Int32 × Int32 × Int32 × Int32 × (Nat → Int32) × (Nat → Int32) × (Nat → Int32) × (Nat → Int32) × (Nat → Int32))) =>
                    if z_97.2.2.2.1 = 4 then (
                      j115 1
                    ) else (
                      j115 0
                    )
                  )
              ) (fun (j97 : Int32 → Option (Int32 × Int32 × Int32 × Int32 × Int32 × Int32 × Int32 × Int32 × Int32 × (Nat → Int32) × (Nat → Int32) × (Nat → Int32) × (Nat → Int32) × (Nat → Int32))) =>
                if z_55.2.2.2.1 = 3 then (
                  (P_X11_in z_55.2.2.2.2.1 2 9).bind fun (z_75 : Int32) =>
                    if z_75 = 0 then (
                      j96 ()
                    ) else (
                      if 9 < (x19_l2 * z_55.2.2.2.2.1) then (
                        j96 ()
                      ) else (
                        j97 1
                      )
                    )
                ) else (
                  j96 ()
                )
              )
            )
        ) (fun (j54 : Unit → Option (Int32 × Int32 × Int32 × Int32 × Int32 × Int32 × Int32 × Int32 × Int32 × (Nat → Int32) × (Nat → Int32) × (Nat → Int32) × (Nat → Int32) × (Nat → Int32))) =>
          jn (fun (x55_s1 : Int32) =>
            (P_X11_due x55_s1 o_typed x19_o_at x19_o_start x19_o_sort x19_o_value x19_o_fault f_text).bind fun (z_55 : Int32 × Int32 × Int32 × Int32 × Int32 × Int32) =>
              jn (fun (_ : Unit) =>
                (P_X11_due 0 o_typed z_55.2.1 z_55.2.2.1 z_55.2.2.2.1 z_55.2.2.2.2.1 z_55.2.2.2.2.2 f_text).bind fun (z_97 : Int32 × Int32 × Int32 × Int32 × Int32 × Int32) =>
                  jn (fun (x115_s1 : Int32) =>
                    (P_X11_due x115_s1 o_typed z_97.2.1 z_97.2.2.1 z_97.2.2.2.1 z_97.2.2.2.2.1 z_97.2.2.2.2.2 f_text).bind fun (z_115 : Int32 × Int32 × Int32 × Int32 × Int32 × Int32) =>
                      jn (fun (x142_l1 : Int32) (x142_l2 : Int32) (x142_f_draft : (Nat → Int32)) =>
                        P_X11_tongue_19 o_typed f_text k145 n x142_l1 x142_l2 z_115.2.1 z_115.2.2.1 z_115.2.2.2.1 z_115.2.2.2.2.1 z_115.2.2.2.2.2 x142_f_draft
                      ) (fun (j142 : Int32 → Int32 → (Nat → Int32) → Option (Int32 × Int32 × Int32 × Int32 × Int32 × Int32 × Int32 × Int32 × Int32 × (Nat → Int32) × (Nat → Int32) × (Nat → Int32) × (Nat → Int32) × (Nat → Int32))) =>
                        if z_115.2.2.2.2.2 = (-9) then (
                          ck x19_l1 3 (
                            j142 (x19_l1 + 1) (x19_l2 * z_97.1) (upd x19_f_draft x19_l1.toNatClampNeg z_97.1)
                          )
                        ) else (
                          j142 x19_l1 x19_l2 x19_f_draft
                        )
                      )
                  ) (fun (j115 : Int32 → Option (Int32 × Int32 × Int32 × Int32 × Int32 × Int32 × Int32 × Int32 × Int32 × (Nat → Int32) × (Nat → Int32) × (Nat → Int32) × (Nat → Int32) × (Nat → Int32))) =>
                    if z_97.2.2.2.1 = 4 then (
                      j115 1
                    ) else (
                      j115 0
                    )
                  )
              ) (fun (j96 : Unit → Option (Int32 × Int32 × Int32 × Int32 × Int32 × Int32 × Int32 × Int32 × Int32 × (Nat → Int32) × (Nat → Int32) × (Nat → Int32) × (Nat → Int32) × (Nat → Int32))) =>
                jn (fun (x97_s1 : Int32) =>
                  (P_X11_due x97_s1 o_typed z_55.2.1 z_55.2.2.1 z_55.2.2.2.1 z_55.2.2.2.2.1 z_55.2.2.2.2.2 f_text).bind fun (z_97 : Int32 × Int32 × Int32 × Int32 × Int32 × Int32) =>
                    jn (fun (x115_s1 : Int32) =>
                      (P_X11_due x115_s1 o_typed z_97.2.1 z_97.2.2.1 z_97.2.2.2.1 z_97.2.2.2.2.1 z_97.2.2.2.2.2 f_text).bind fun (z_115 : Int32 × Int32 × Int32 × Int32 × Int32 × Int32) =>
                        jn (fun (x142_l1 : Int32) (x142_l2 : Int32) (x142_f_draft : (Nat → Int32)) =>
                          P_X11_tongue_19 o_typed f_text k145 n x142_l1 x142_l2 z_115.2.1 z_115.2.2.1 z_115.2.2.2.1 z_115.2.2.2.2.1 z_115.2.2.2.2.2 x142_f_draft
                        ) (fun (j142 : Int32 → Int32 → (Nat → Int32) → Option (Int32 × Int32 × Int32 × Int32 × Int32 × Int32 × Int32 × Int32 × Int32 × (Nat → Int32) × (Nat → Int32) × (Nat → Int32) × (Nat → Int32) × (Nat → Int32))) =>
                          if z_115.2.2.2.2.2 = (-9) then (
                            ck x19_l1 3 (
                              j142 (x19_l1 + 1) (x19_l2 * z_97.1) (upd x19_f_draft x19_l1.toNatClampNeg z_97.1)
                            )
                          ) else (
                            j142 x19_l1 x19_l2 x19_f_draft
                          )
                        )
                    ) (fun (j115 : Int32 → Option (Int32 × Int32 × Int32 × Int32 × Int32 × Int32 × Int32 × Int32 × Int32 × (Nat → Int32) × (Nat → Int32) × (Nat → Int32) × (Nat → Int32) × (Nat → Int32))) =>
                      if z_97.2.2.2.1 = 4 then (
                        j115 1
                      ) else (
                        j115 0
                      )
                    )
                ) (fun (j97 : Int32 → Option (Int32 × Int32 × Int32 × Int32 × Int32 × Int32 × Int32 × Int32 × Int32 × (Nat → Int32) × (Nat → Int32) × (Nat → Int32) × (Nat → Int32) × (Nat → Int32))) =>
                  if z_55.2.2.2.1 = 3 then (
                    (P_X11_in z_55.2.2.2.2.1 2 9).bind fun (z_75 : Int32) =>
                      if z_75 = 0 then (
                        j96 ()
                      ) else (
                        if 9 < (x19_l2 * z_55.2.2.2.2.1) then (
                          j96 ()
                        ) else (
                          j97 1
                        )
                      )
                  ) else (
                    j96 ()
                  )
                )
              )
          ) (fun (j55 : Int32 → Option (Int32 × Int32 × Int32 × Int32 × Int32 × Int32 × Int32 × Int32 × Int32 × (Nat → Int32) × (Nat → Int32) × (Nat → Int32) × (Nat → Int32) × (Nat → Int32))) =>
            if x19_o_sort = 0 then (
              if 3 ≤ x19_l1 then (
                j54 ()
              ) else (
                j55 1
              )
            ) else (
              j54 ()
            )
          )
        )
      )
    ) else (
      k145 x19_l1 x19_l2 x19_o_at x19_o_start x19_o_sort x19_o_value x19_o_fault x19_f_draft
    )
def P_X11_tongue (o_typed : Int32) (o_choices : Int32) (o_worlds : Int32) (o_at : Int32) (o_start : Int32) (o_sort : Int32) (o_value : Int32) (o_fault : Int32) (f_text : (Nat → Int32)) (f_values : (Nat → Int32)) (f_draft : (Nat → Int32)) (f_sayings : (Nat → Int32)) (f_words : (Nat → Int32)) (f_isKept : (Nat → Int32)) : Option (Int32 × Int32 × Int32 × Int32 × Int32 × Int32 × Int32 × Int32 × Int32 × (Nat → Int32) × (Nat → Int32) × (Nat → Int32) × (Nat → Int32) × (Nat → Int32)) :=
  (P_X11_next o_typed 0 o_start o_sort o_value f_text).bind fun (z_16 : Int32 × Int32 × Int32 × Int32) =>
    jn (fun (x145_l1 : Int32) (x145_l2 : Int32) (x145_o_at : Int32) (x145_o_start : Int32) (x145_o_sort : Int32) (x145_o_value : Int32) (x145_o_fault : Int32) (x145_f_draft : (Nat → Int32)) =>
      if x145_o_fault = (-9) then (
        jn (fun (x206_f_values : (Nat → Int32)) =>
          ck 0 3 (
            ck 0 3 (
              ck 0 2 (
                ck 1 2 (
                  some (x145_l1, 0, x145_l1, x145_l2, x145_o_at, x145_o_start, x145_o_sort, x145_o_value, x145_o_fault, x206_f_values, x145_f_draft, upd f_sayings (0 : Int32).toNatClampNeg 0, upd f_words (0 : Int32).toNatClampNeg 0, upd (upd f_isKept (0 : Int32).toNatClampNeg (vp_nar .boolean 0)) (1 : Int32).toNatClampNeg (vp_nar .boolean 0))
                )
              )
            )
          )
        ) (fun (k206 : (Nat → Int32) → Option (Int32 × Int32 × Int32 × Int32 × Int32 × Int32 × Int32 × Int32 × Int32 × (Nat → Int32) × (Nat → Int32) × (Nat → Int32) × (Nat → Int32) × (Nat → Int32))) =>
          P_X11_tongue_174 x145_l1 x145_f_draft k206 QF 0 f_values
        )
      ) else (
        some ((-10) - x145_o_fault, o_typed, o_choices, o_worlds, x145_o_at, x145_o_start, x145_o_sort, x145_o_value, x145_o_fault, f_values, x145_f_draft, f_sayings, f_words, f_isKept)
      )
    ) (fun (k145 : Int32 → Int32 → Int32 → Int32 → Int32 → Int32 → Int32 → (Nat → Int32) → Option (Int32 × Int32 × Int32 × Int32 × Int32 × Int32 × Int32 × Int32 × Int32 × (Nat → Int32) × (Nat → Int32) × (Nat → Int32) × (Nat → Int32) × (Nat → Int32))) =>
      P_X11_tongue_19 o_typed f_text k145 QF 0 1 z_16.1 z_16.2.1 z_16.2.2.1 z_16.2.2.2 (-9) f_draft
    )
def P_X11_allSets (o_worlds : Int32) : Option (Int32) :=
  some ((1 <<< (o_worlds &&& 31)) - 1)
def P_X11_valueOf_5 (p2 : Int32) (f_values : (Nat → Int32)) (k27 : Int32 → Option (Int32)) : Nat → Int32 → Int32 → Option (Int32)
  | 0, _, _ => none
  | n + 1, x5_l3, x5_l4 =>
    if p2 ≤ x5_l4 then (
      k27 x5_l3
    ) else (
      ck x5_l4 3 (
        dz (f_values x5_l4.toNatClampNeg) (
          P_X11_valueOf_5 p2 f_values k27 n (x5_l3 / (f_values x5_l4.toNatClampNeg)) (x5_l4 + 1)
        )
      )
    )
def P_X11_valueOf (p1 : Int32) (p2 : Int32) (f_values : (Nat → Int32)) : Option (Int32) :=
  jn (fun (x27_l3 : Int32) =>
    ck p2 3 (
      dz (f_values p2.toNatClampNeg) (
        some (x27_l3 - x27_l3 / (f_values p2.toNatClampNeg) * (f_values p2.toNatClampNeg))
      )
    )
  ) (fun (k27 : Int32 → Option (Int32)) =>
    P_X11_valueOf_5 p2 f_values k27 QF p1 0
  )
def P_X11_worldsOf_5 (p1 : Int32) (p2 : Int32) (o_worlds : Int32) (f_values : (Nat → Int32)) : Nat → Int32 → Int32 → Option (Int32)
  | 0, _, _ => none
  | n + 1, x5_l3, x5_l4 =>
    if o_worlds ≤ x5_l4 then (
      some (x5_l3)
    ) else (
      (P_X11_valueOf x5_l4 p1 f_values).bind fun (z_19 : Int32) =>
        jn (fun (x34_s1 : Int32) =>
          P_X11_worldsOf_5 p1 p2 o_worlds f_values n (x5_l3 ||| x34_s1) (x5_l4 + 1)
        ) (fun (j34 : Int32 → Option (Int32)) =>
          if z_19 = p2 then (
            j34 (1 <<< (x5_l4 &&& 31))
          ) else (
            j34 0
          )
        )
    )
def P_X11_worldsOf (p1 : Int32) (p2 : Int32) (o_worlds : Int32) (f_values : (Nat → Int32)) : Option (Int32) :=
  P_X11_worldsOf_5 p1 p2 o_worlds f_values QF 0 0
def P_X11_value (p1 : Int32) (p2 : Int32) (o_choices : Int32) (o_worlds : Int32) (f_values : (Nat → Int32)) : Option (Int32) :=
  (P_X11_in p1 0 (o_worlds - 1)).bind fun (z_8 : Int32) =>
    if z_8 = 0 then (
      some ((-1))
    ) else (
      (P_X11_in p2 0 (o_choices - 1)).bind fun (z_22 : Int32) =>
        if z_22 = 0 then (
          some ((-1))
        ) else (
          (P_X11_valueOf p1 p2 f_values).bind fun (z_31 : Int32) =>
            some (z_31)
        )
    )
def P_X11_open (p1 : Int32) (o_worlds : Int32) (o_deep : Int32) (f_some : (Nat → Int32)) (f_every : (Nat → Int32)) : Option (Int32 × (Nat → Int32) × (Nat → Int32)) :=
  ck p1 10 (
    (P_X11_allSets o_worlds).bind fun (z_18 : Int32) =>
      ck p1 10 (
        some (p1, upd f_some p1.toNatClampNeg 0, upd f_every p1.toNatClampNeg z_18)
      )
  )
def P_X11_close_0 (o_typed : Int32) (o_fault : Int32) (f_text : (Nat → Int32)) (f_some : (Nat → Int32)) : Nat → Int32 → Int32 → Int32 → Int32 → Int32 → (Nat → Int32) → Option (Int32 × Int32 × Int32 × Int32 × Int32 × (Nat → Int32))
  | 0, _, _, _, _, _, _ => none
  | n + 1, x0_o_at, x0_o_start, x0_o_sort, x0_o_value, x0_o_deep, x0_f_every =>
    if o_fault = (-9) then (
      if x0_o_sort = 8 then (
        if x0_o_deep ≤ 0 then (
          some (x0_o_at, x0_o_start, x0_o_sort, x0_o_value, x0_o_deep, x0_f_every)
        ) else (
          ck x0_o_deep 10 (
            ck x0_o_deep 10 (
              ck (x0_o_deep - 1) 10 (
                ck (x0_o_deep - 1) 10 (
                  (P_X11_next o_typed x0_o_at x0_o_start x0_o_sort x0_o_value f_text).bind fun (z_69 : Int32 × Int32 × Int32 × Int32) =>
                    P_X11_close_0 o_typed o_fault f_text f_some n z_69.1 z_69.2.1 z_69.2.2.1 z_69.2.2.2 (x0_o_deep - 1) (upd x0_f_every (x0_o_deep - 1).toNatClampNeg ((x0_f_every (x0_o_deep - 1).toNatClampNeg) &&& ((f_some x0_o_deep.toNatClampNeg) ||| (x0_f_every x0_o_deep.toNatClampNeg))))
                )
              )
            )
          )
        )
      ) else (
        some (x0_o_at, x0_o_start, x0_o_sort, x0_o_value, x0_o_deep, x0_f_every)
      )
    ) else (
      some (x0_o_at, x0_o_start, x0_o_sort, x0_o_value, x0_o_deep, x0_f_every)
    )
def P_X11_close (o_typed : Int32) (o_at : Int32) (o_start : Int32) (o_sort : Int32) (o_value : Int32) (o_fault : Int32) (o_deep : Int32) (f_text : (Nat → Int32)) (f_some : (Nat → Int32)) (f_every : (Nat → Int32)) : Option (Int32 × Int32 × Int32 × Int32 × Int32 × (Nat → Int32)) :=
  P_X11_close_0 o_typed o_fault f_text f_some QF o_at o_start o_sort o_value o_deep f_every
def P_X11_readFactor (o_typed : Int32) (o_choices : Int32) (o_worlds : Int32) (o_at : Int32) (o_start : Int32) (o_sort : Int32) (o_value : Int32) (o_fault : Int32) (o_deep : Int32) (o_many : Int32) (f_text : (Nat → Int32)) (f_values : (Nat → Int32)) (f_words : (Nat → Int32)) (f_word : (Nat → Int32)) (f_some : (Nat → Int32)) (f_every : (Nat → Int32)) : Option (Int32 × Int32 × Int32 × Int32 × Int32 × Int32 × Int32 × (Nat → Int32) × (Nat → Int32)) :=
  if o_sort = 7 then (
    jn (fun (x24_s1 : Int32) =>
      (P_X11_due x24_s1 o_typed o_at o_start o_sort o_value o_fault f_text).bind fun (z_24 : Int32 × Int32 × Int32 × Int32 × Int32 × Int32) =>
        if z_24.2.2.2.2.2 = (-9) then (
          (P_X11_open (o_deep + 1) o_worlds o_deep f_some f_every).bind fun (z_44 : Int32 × (Nat → Int32) × (Nat → Int32)) =>
            some (z_24.2.1, z_24.2.2.1, z_24.2.2.2.1, z_24.2.2.2.2.1, z_24.2.2.2.2.2, z_44.1, o_many, z_44.2.1, z_44.2.2)
        ) else (
          some (z_24.2.1, z_24.2.2.1, z_24.2.2.2.1, z_24.2.2.2.2.1, z_24.2.2.2.2.2, o_deep, o_many, f_some, f_every)
        )
    ) (fun (j24 : Int32 → Option (Int32 × Int32 × Int32 × Int32 × Int32 × Int32 × Int32 × (Nat → Int32) × (Nat → Int32))) =>
      if 9 ≤ o_deep then (
        j24 0
      ) else (
        j24 1
      )
    )
  ) else (
    jn (fun (x66_s0 : Int32) =>
      jn (fun (_ : Unit) =>
        (P_X11_due 1 o_typed o_at o_start o_sort o_value o_fault f_text).bind fun (z_93 : Int32 × Int32 × Int32 × Int32 × Int32 × Int32) =>
          jn (fun (_ : Unit) =>
            (P_X11_due 0 o_typed z_93.2.1 z_93.2.2.1 z_93.2.2.2.1 z_93.2.2.2.2.1 z_93.2.2.2.2.2 f_text).bind fun (z_148 : Int32 × Int32 × Int32 × Int32 × Int32 × Int32) =>
              if z_148.2.2.2.2.2 = (-9) then (
                ck o_deep 10 (
                  jn (fun (x193_s3 : Int32) =>
                    ck o_deep 10 (
                      (P_X11_close o_typed z_148.2.1 z_148.2.2.1 z_148.2.2.2.1 z_148.2.2.2.2.1 z_148.2.2.2.2.2 o_deep f_text f_some (upd f_every o_deep.toNatClampNeg ((f_every o_deep.toNatClampNeg) &&& x193_s3))).bind fun (z_206 : Int32 × Int32 × Int32 × Int32 × Int32 × (Nat → Int32)) =>
                        some (z_206.1, z_206.2.1, z_206.2.2.1, z_206.2.2.2.1, z_148.2.2.2.2.2, z_206.2.2.2.2.1, o_many + 1, f_some, z_206.2.2.2.2.2)
                    )
                  ) (fun (j193 : Int32 → Option (Int32 × Int32 × Int32 × Int32 × Int32 × Int32 × Int32 × (Nat → Int32) × (Nat → Int32))) =>
                    if x66_s0 = 0 then (
                      (P_X11_worldsOf o_value z_148.1 o_worlds f_values).bind fun (z_190 : Int32) =>
                        j193 z_190
                    ) else (
                      ck z_148.1 9 (
                        j193 (f_word z_148.1.toNatClampNeg)
                      )
                    )
                  )
                )
              ) else (
                some (z_148.2.1, z_148.2.2.1, z_148.2.2.2.1, z_148.2.2.2.2.1, z_148.2.2.2.2.2, o_deep, o_many, f_some, f_every)
              )
          ) (fun (j144 : Unit → Option (Int32 × Int32 × Int32 × Int32 × Int32 × Int32 × Int32 × (Nat → Int32) × (Nat → Int32))) =>
            jn (fun (x145_s0 : Int32) =>
              (P_X11_due x145_s0 o_typed z_93.2.1 z_93.2.2.1 z_93.2.2.2.1 z_93.2.2.2.2.1 z_93.2.2.2.2.2 f_text).bind fun (z_148 : Int32 × Int32 × Int32 × Int32 × Int32 × Int32) =>
                if z_148.2.2.2.2.2 = (-9) then (
                  ck o_deep 10 (
                    jn (fun (x193_s3 : Int32) =>
                      ck o_deep 10 (
                        (P_X11_close o_typed z_148.2.1 z_148.2.2.1 z_148.2.2.2.1 z_148.2.2.2.2.1 z_148.2.2.2.2.2 o_deep f_text f_some (upd f_every o_deep.toNatClampNeg ((f_every o_deep.toNatClampNeg) &&& x193_s3))).bind fun (z_206 : Int32 × Int32 × Int32 × Int32 × Int32 × (Nat → Int32)) =>
                          some (z_206.1, z_206.2.1, z_206.2.2.1, z_206.2.2.2.1, z_148.2.2.2.2.2, z_206.2.2.2.2.1, o_many + 1, f_some, z_206.2.2.2.2.2)
                      )
                    ) (fun (j193 : Int32 → Option (Int32 × Int32 × Int32 × Int32 × Int32 × Int32 × Int32 × (Nat → Int32) × (Nat → Int32))) =>
                      if x66_s0 = 0 then (
                        (P_X11_worldsOf o_value z_148.1 o_worlds f_values).bind fun (z_190 : Int32) =>
                          j193 z_190
                      ) else (
                        ck z_148.1 9 (
                          j193 (f_word z_148.1.toNatClampNeg)
                        )
                      )
                    )
                  )
                ) else (
                  some (z_148.2.1, z_148.2.2.1, z_148.2.2.2.1, z_148.2.2.2.2.1, z_148.2.2.2.2.2, o_deep, o_many, f_some, f_every)
                )
            ) (fun (j145 : Int32 → Option (Int32 × Int32 × Int32 × Int32 × Int32 × Int32 × Int32 × (Nat → Int32) × (Nat → Int32))) =>
              if z_93.2.2.2.2.2 = (-9) then (
                if z_93.2.2.2.1 = 3 then (
                  jn (fun (x137_s1 : Int32) =>
                    if x137_s1 ≤ z_93.2.2.2.2.1 then (
                      j144 ()
                    ) else (
                      j145 1
                    )
                  ) (fun (j137 : Int32 → Option (Int32 × Int32 × Int32 × Int32 × Int32 × Int32 × Int32 × (Nat → Int32) × (Nat → Int32))) =>
                    if x66_s0 = 0 then (
                      ck o_value 3 (
                        j137 (f_values o_value.toNatClampNeg)
                      )
                    ) else (
                      ck 0 3 (
                        j137 (f_words (0 : Int32).toNatClampNeg)
                      )
                    )
                  )
                ) else (
                  j144 ()
                )
              ) else (
                j144 ()
              )
            )
          )
      ) (fun (j88 : Unit → Option (Int32 × Int32 × Int32 × Int32 × Int32 × Int32 × Int32 × (Nat → Int32) × (Nat → Int32))) =>
        jn (fun (x93_s1 : Int32) =>
          (P_X11_due x93_s1 o_typed o_at o_start o_sort o_value o_fault f_text).bind fun (z_93 : Int32 × Int32 × Int32 × Int32 × Int32 × Int32) =>
            jn (fun (_ : Unit) =>
              (P_X11_due 0 o_typed z_93.2.1 z_93.2.2.1 z_93.2.2.2.1 z_93.2.2.2.2.1 z_93.2.2.2.2.2 f_text).bind fun (z_148 : Int32 × Int32 × Int32 × Int32 × Int32 × Int32) =>
                if z_148.2.2.2.2.2 = (-9) then (
                  ck o_deep 10 (
                    jn (fun (x193_s3 : Int32) =>
                      ck o_deep 10 (
                        (P_X11_close o_typed z_148.2.1 z_148.2.2.1 z_148.2.2.2.1 z_148.2.2.2.2.1 z_148.2.2.2.2.2 o_deep f_text f_some (upd f_every o_deep.toNatClampNeg ((f_every o_deep.toNatClampNeg) &&& x193_s3))).bind fun (z_206 : Int32 × Int32 × Int32 × Int32 × Int32 × (Nat → Int32)) =>
                          some (z_206.1, z_206.2.1, z_206.2.2.1, z_206.2.2.2.1, z_148.2.2.2.2.2, z_206.2.2.2.2.1, o_many + 1, f_some, z_206.2.2.2.2.2)
                      )
                    ) (fun (j193 : Int32 → Option (Int32 × Int32 × Int32 × Int32 × Int32 × Int32 × Int32 × (Nat → Int32) × (Nat → Int32))) =>
                      if x66_s0 = 0 then (
                        (P_X11_worldsOf o_value z_148.1 o_worlds f_values).bind fun (z_190 : Int32) =>
                          j193 z_190
                      ) else (
                        ck z_148.1 9 (
                          j193 (f_word z_148.1.toNatClampNeg)
                        )
                      )
                    )
                  )
                ) else (
                  some (z_148.2.1, z_148.2.2.1, z_148.2.2.2.1, z_148.2.2.2.2.1, z_148.2.2.2.2.2, o_deep, o_many, f_some, f_every)
                )
            ) (fun (j144 : Unit → Option (Int32 × Int32 × Int32 × Int32 × Int32 × Int32 × Int32 × (Nat → Int32) × (Nat → Int32))) =>
              jn (fun (x145_s0 : Int32) =>
                (P_X11_due x145_s0 o_typed z_93.2.1 z_93.2.2.1 z_93.2.2.2.1 z_93.2.2.2.2.1 z_93.2.2.2.2.2 f_text).bind fun (z_148 : Int32 × Int32 × Int32 × Int32 × Int32 × Int32) =>
                  if z_148.2.2.2.2.2 = (-9) then (
                    ck o_deep 10 (
                      jn (fun (x193_s3 : Int32) =>
                        ck o_deep 10 (
                          (P_X11_close o_typed z_148.2.1 z_148.2.2.1 z_148.2.2.2.1 z_148.2.2.2.2.1 z_148.2.2.2.2.2 o_deep f_text f_some (upd f_every o_deep.toNatClampNeg ((f_every o_deep.toNatClampNeg) &&& x193_s3))).bind fun (z_206 : Int32 × Int32 × Int32 × Int32 × Int32 × (Nat → Int32)) =>
                            some (z_206.1, z_206.2.1, z_206.2.2.1, z_206.2.2.2.1, z_148.2.2.2.2.2, z_206.2.2.2.2.1, o_many + 1, f_some, z_206.2.2.2.2.2)
                        )
                      ) (fun (j193 : Int32 → Option (Int32 × Int32 × Int32 × Int32 × Int32 × Int32 × Int32 × (Nat → Int32) × (Nat → Int32))) =>
                        if x66_s0 = 0 then (
                          (P_X11_worldsOf o_value z_148.1 o_worlds f_values).bind fun (z_190 : Int32) =>
                            j193 z_190
                        ) else (
                          ck z_148.1 9 (
                            j193 (f_word z_148.1.toNatClampNeg)
                          )
                        )
                      )
                    )
                  ) else (
                    some (z_148.2.1, z_148.2.2.1, z_148.2.2.2.1, z_148.2.2.2.2.1, z_148.2.2.2.2.2, o_deep, o_many, f_some, f_every)
                  )
              ) (fun (j145 : Int32 → Option (Int32 × Int32 × Int32 × Int32 × Int32 × Int32 × Int32 × (Nat → Int32) × (Nat → Int32))) =>
                if z_93.2.2.2.2.2 = (-9) then (
                  if z_93.2.2.2.1 = 3 then (
                    jn (fun (x137_s1 : Int32) =>
                      if x137_s1 ≤ z_93.2.2.2.2.1 then (
                        j144 ()
                      ) else (
                        j145 1
                      )
                    ) (fun (j137 : Int32 → Option (Int32 × Int32 × Int32 × Int32 × Int32 × Int32 × Int32 × (Nat → Int32) × (Nat → Int32))) =>
                      if x66_s0 = 0 then (
                        ck o_value 3 (
                          j137 (f_values o_value.toNatClampNeg)
                        )
                      ) else (
                        ck 0 3 (
                          j137 (f_words (0 : Int32).toNatClampNeg)
                        )
                      )
                    )
                  ) else (
                    j144 ()
                  )
                ) else (
                  j144 ()
                )
              )
            )
        ) (fun (j93 : Int32 → Option (Int32 × Int32 × Int32 × Int32 × Int32 × Int32 × Int32 × (Nat → Int32) × (Nat → Int32))) =>
          if x66_s0 = 0 then (
            jn (fun (_ : Unit) =>
              j93 0
            ) (fun (j92 : Unit → Option (Int32 × Int32 × Int32 × Int32 × Int32 × Int32 × Int32 × (Nat → Int32) × (Nat → Int32))) =>
              if o_sort = 1 then (
                if o_choices ≤ o_value then (
                  j92 ()
                ) else (
                  j88 ()
                )
              ) else (
                j92 ()
              )
            )
          ) else (
            j88 ()
          )
        )
      )
    ) (fun (j66 : Int32 → Option (Int32 × Int32 × Int32 × Int32 × Int32 × Int32 × Int32 × (Nat → Int32) × (Nat → Int32))) =>
      if o_sort = 2 then (
        j66 1
      ) else (
        j66 0
      )
    )
  )
def P_X11_say_41 (o_typed : Int32) (o_choices : Int32) (o_worlds : Int32) (f_text : (Nat → Int32)) (f_values : (Nat → Int32)) (f_words : (Nat → Int32)) (f_word : (Nat → Int32)) (k199 : Int32 → Int32 → Int32 → Int32 → Int32 → Int32 → Int32 → (Nat → Int32) → (Nat → Int32) → Option (Int32 × Int32 × Int32 × Int32 × Int32 × Int32 × Int32 × Int32 × Int32 × (Nat → Int32) × (Nat → Int32) × (Nat → Int32) × (Nat → Int32) × (Nat → Int32))) : Nat → Int32 → Int32 → Int32 → Int32 → Int32 → Int32 → Int32 → Int32 → (Nat → Int32) → (Nat → Int32) → Option (Int32 × Int32 × Int32 × Int32 × Int32 × Int32 × Int32 × Int32 × Int32 × (Nat → Int32) × (Nat → Int32) × (Nat → Int32) × (Nat → Int32) × (Nat → Int32))
  | 0, _, _, _, _, _, _, _, _, _, _ => none
  | n + 1, x41_l1, x41_o_at, x41_o_start, x41_o_sort, x41_o_value, x41_o_fault, x41_o_deep, x41_o_many, x41_f_some, x41_f_every =>
    if x41_o_fault = (-9) then (
      if x41_l1 = 0 then (
        k199 x41_o_at x41_o_start x41_o_sort x41_o_value x41_o_fault x41_o_deep x41_o_many x41_f_some x41_f_every
      ) else (
        jn (fun (x68_s0 : Int32) =>
          (P_X11_readFactor o_typed o_choices o_worlds x41_o_at x41_o_start x41_o_sort x41_o_value x41_o_fault x41_o_deep x41_o_many f_text f_values f_words f_word x41_f_some x41_f_every).bind fun (z_70 : Int32 × Int32 × Int32 × Int32 × Int32 × Int32 × Int32 × (Nat → Int32) × (Nat → Int32)) =>
            jn (fun (x196_l1 : Int32) (x196_o_at : Int32) (x196_o_start : Int32) (x196_o_sort : Int32) (x196_o_value : Int32) (x196_o_fault : Int32) (x196_f_some : (Nat → Int32)) (x196_f_every : (Nat → Int32)) =>
              P_X11_say_41 o_typed o_choices o_worlds f_text f_values f_words f_word k199 n x196_l1 x196_o_at x196_o_start x196_o_sort x196_o_value x196_o_fault z_70.2.2.2.2.2.1 z_70.2.2.2.2.2.2.1 x196_f_some x196_f_every
            ) (fun (j196 : Int32 → Int32 → Int32 → Int32 → Int32 → Int32 → (Nat → Int32) → (Nat → Int32) → Option (Int32 × Int32 × Int32 × Int32 × Int32 × Int32 × Int32 × Int32 × Int32 × (Nat → Int32) × (Nat → Int32) × (Nat → Int32) × (Nat → Int32) × (Nat → Int32))) =>
              if z_70.2.2.2.2.1 = (-9) then (
                if x68_s0 = 0 then (
                  jn (fun (_ : Unit) =>
                    if (1 : Int32) = 0 then (
                      j196 1 z_70.1 z_70.2.1 z_70.2.2.1 z_70.2.2.2.1 z_70.2.2.2.2.1 z_70.2.2.2.2.2.2.2.1 z_70.2.2.2.2.2.2.2.2
                    ) else (
                      jn (fun (x125_s0 : Int32) =>
                        jn (fun (_ : Unit) =>
                          (P_X11_due 1 o_typed z_70.1 z_70.2.1 z_70.2.2.1 z_70.2.2.2.1 z_70.2.2.2.2.1 f_text).bind fun (z_145 : Int32 × Int32 × Int32 × Int32 × Int32 × Int32) =>
                            if z_145.2.2.2.2.2 = (-9) then (
                              if x125_s0 = 0 then (
                                j196 1 z_145.2.1 z_145.2.2.1 z_145.2.2.2.1 z_145.2.2.2.2.1 z_145.2.2.2.2.2 z_70.2.2.2.2.2.2.2.1 z_70.2.2.2.2.2.2.2.2
                              ) else (
                                ck z_70.2.2.2.2.2.1 10 (
                                  ck z_70.2.2.2.2.2.1 10 (
                                    ck z_70.2.2.2.2.2.1 10 (
                                      (P_X11_allSets o_worlds).bind fun (z_192 : Int32) =>
                                        ck z_70.2.2.2.2.2.1 10 (
                                          j196 1 z_145.2.1 z_145.2.2.1 z_145.2.2.2.1 z_145.2.2.2.2.1 z_145.2.2.2.2.2 (upd z_70.2.2.2.2.2.2.2.1 z_70.2.2.2.2.2.1.toNatClampNeg ((z_70.2.2.2.2.2.2.2.1 z_70.2.2.2.2.2.1.toNatClampNeg) ||| (z_70.2.2.2.2.2.2.2.2 z_70.2.2.2.2.2.1.toNatClampNeg))) (upd z_70.2.2.2.2.2.2.2.2 z_70.2.2.2.2.2.1.toNatClampNeg z_192)
                                        )
                                    )
                                  )
                                )
                              )
                            ) else (
                              j196 1 z_145.2.1 z_145.2.2.1 z_145.2.2.2.1 z_145.2.2.2.2.1 z_145.2.2.2.2.2 z_70.2.2.2.2.2.2.2.1 z_70.2.2.2.2.2.2.2.2
                            )
                        ) (fun (j140 : Unit → Option (Int32 × Int32 × Int32 × Int32 × Int32 × Int32 × Int32 × Int32 × Int32 × (Nat → Int32) × (Nat → Int32) × (Nat → Int32) × (Nat → Int32) × (Nat → Int32))) =>
                          jn (fun (x145_s1 : Int32) =>
                            (P_X11_due x145_s1 o_typed z_70.1 z_70.2.1 z_70.2.2.1 z_70.2.2.2.1 z_70.2.2.2.2.1 f_text).bind fun (z_145 : Int32 × Int32 × Int32 × Int32 × Int32 × Int32) =>
                              if z_145.2.2.2.2.2 = (-9) then (
                                if x125_s0 = 0 then (
                                  j196 1 z_145.2.1 z_145.2.2.1 z_145.2.2.2.1 z_145.2.2.2.2.1 z_145.2.2.2.2.2 z_70.2.2.2.2.2.2.2.1 z_70.2.2.2.2.2.2.2.2
                                ) else (
                                  ck z_70.2.2.2.2.2.1 10 (
                                    ck z_70.2.2.2.2.2.1 10 (
                                      ck z_70.2.2.2.2.2.1 10 (
                                        (P_X11_allSets o_worlds).bind fun (z_192 : Int32) =>
                                          ck z_70.2.2.2.2.2.1 10 (
                                            j196 1 z_145.2.1 z_145.2.2.1 z_145.2.2.2.1 z_145.2.2.2.2.1 z_145.2.2.2.2.2 (upd z_70.2.2.2.2.2.2.2.1 z_70.2.2.2.2.2.1.toNatClampNeg ((z_70.2.2.2.2.2.2.2.1 z_70.2.2.2.2.2.1.toNatClampNeg) ||| (z_70.2.2.2.2.2.2.2.2 z_70.2.2.2.2.2.1.toNatClampNeg))) (upd z_70.2.2.2.2.2.2.2.2 z_70.2.2.2.2.2.1.toNatClampNeg z_192)
                                          )
                                      )
                                    )
                                  )
                                )
                              ) else (
                                j196 1 z_145.2.1 z_145.2.2.1 z_145.2.2.2.1 z_145.2.2.2.2.1 z_145.2.2.2.2.2 z_70.2.2.2.2.2.2.2.1 z_70.2.2.2.2.2.2.2.2
                              )
                          ) (fun (j145 : Int32 → Option (Int32 × Int32 × Int32 × Int32 × Int32 × Int32 × Int32 × Int32 × Int32 × (Nat → Int32) × (Nat → Int32) × (Nat → Int32) × (Nat → Int32) × (Nat → Int32))) =>
                            if x125_s0 = 0 then (
                              if z_70.2.2.1 = 6 then (
                                j140 ()
                              ) else (
                                j145 0
                              )
                            ) else (
                              j140 ()
                            )
                          )
                        )
                      ) (fun (j125 : Int32 → Option (Int32 × Int32 × Int32 × Int32 × Int32 × Int32 × Int32 × Int32 × Int32 × (Nat → Int32) × (Nat → Int32) × (Nat → Int32) × (Nat → Int32) × (Nat → Int32))) =>
                        if z_70.2.2.1 = 5 then (
                          j125 1
                        ) else (
                          j125 0
                        )
                      )
                    )
                  ) (fun (j102 : Unit → Option (Int32 × Int32 × Int32 × Int32 × Int32 × Int32 × Int32 × Int32 × Int32 × (Nat → Int32) × (Nat → Int32) × (Nat → Int32) × (Nat → Int32) × (Nat → Int32))) =>
                    jn (fun (x107_s0 : Int32) =>
                      if x107_s0 = 0 then (
                        j196 x107_s0 z_70.1 z_70.2.1 z_70.2.2.1 z_70.2.2.2.1 z_70.2.2.2.2.1 z_70.2.2.2.2.2.2.2.1 z_70.2.2.2.2.2.2.2.2
                      ) else (
                        jn (fun (x125_s0 : Int32) =>
                          jn (fun (_ : Unit) =>
                            (P_X11_due 1 o_typed z_70.1 z_70.2.1 z_70.2.2.1 z_70.2.2.2.1 z_70.2.2.2.2.1 f_text).bind fun (z_145 : Int32 × Int32 × Int32 × Int32 × Int32 × Int32) =>
                              if z_145.2.2.2.2.2 = (-9) then (
                                if x125_s0 = 0 then (
                                  j196 x107_s0 z_145.2.1 z_145.2.2.1 z_145.2.2.2.1 z_145.2.2.2.2.1 z_145.2.2.2.2.2 z_70.2.2.2.2.2.2.2.1 z_70.2.2.2.2.2.2.2.2
                                ) else (
                                  ck z_70.2.2.2.2.2.1 10 (
                                    ck z_70.2.2.2.2.2.1 10 (
                                      ck z_70.2.2.2.2.2.1 10 (
                                        (P_X11_allSets o_worlds).bind fun (z_192 : Int32) =>
                                          ck z_70.2.2.2.2.2.1 10 (
                                            j196 x107_s0 z_145.2.1 z_145.2.2.1 z_145.2.2.2.1 z_145.2.2.2.2.1 z_145.2.2.2.2.2 (upd z_70.2.2.2.2.2.2.2.1 z_70.2.2.2.2.2.1.toNatClampNeg ((z_70.2.2.2.2.2.2.2.1 z_70.2.2.2.2.2.1.toNatClampNeg) ||| (z_70.2.2.2.2.2.2.2.2 z_70.2.2.2.2.2.1.toNatClampNeg))) (upd z_70.2.2.2.2.2.2.2.2 z_70.2.2.2.2.2.1.toNatClampNeg z_192)
                                          )
                                      )
                                    )
                                  )
                                )
                              ) else (
                                j196 x107_s0 z_145.2.1 z_145.2.2.1 z_145.2.2.2.1 z_145.2.2.2.2.1 z_145.2.2.2.2.2 z_70.2.2.2.2.2.2.2.1 z_70.2.2.2.2.2.2.2.2
                              )
                          ) (fun (j140 : Unit → Option (Int32 × Int32 × Int32 × Int32 × Int32 × Int32 × Int32 × Int32 × Int32 × (Nat → Int32) × (Nat → Int32) × (Nat → Int32) × (Nat → Int32) × (Nat → Int32))) =>
                            jn (fun (x145_s1 : Int32) =>
                              (P_X11_due x145_s1 o_typed z_70.1 z_70.2.1 z_70.2.2.1 z_70.2.2.2.1 z_70.2.2.2.2.1 f_text).bind fun (z_145 : Int32 × Int32 × Int32 × Int32 × Int32 × Int32) =>
                                if z_145.2.2.2.2.2 = (-9) then (
                                  if x125_s0 = 0 then (
                                    j196 x107_s0 z_145.2.1 z_145.2.2.1 z_145.2.2.2.1 z_145.2.2.2.2.1 z_145.2.2.2.2.2 z_70.2.2.2.2.2.2.2.1 z_70.2.2.2.2.2.2.2.2
                                  ) else (
                                    ck z_70.2.2.2.2.2.1 10 (
                                      ck z_70.2.2.2.2.2.1 10 (
                                        ck z_70.2.2.2.2.2.1 10 (
                                          (P_X11_allSets o_worlds).bind fun (z_192 : Int32) =>
                                            ck z_70.2.2.2.2.2.1 10 (
                                              j196 x107_s0 z_145.2.1 z_145.2.2.1 z_145.2.2.2.1 z_145.2.2.2.2.1 z_145.2.2.2.2.2 (upd z_70.2.2.2.2.2.2.2.1 z_70.2.2.2.2.2.1.toNatClampNeg ((z_70.2.2.2.2.2.2.2.1 z_70.2.2.2.2.2.1.toNatClampNeg) ||| (z_70.2.2.2.2.2.2.2.2 z_70.2.2.2.2.2.1.toNatClampNeg))) (upd z_70.2.2.2.2.2.2.2.2 z_70.2.2.2.2.2.1.toNatClampNeg z_192)
                                            )
                                        )
                                      )
                                    )
                                  )
                                ) else (
                                  j196 x107_s0 z_145.2.1 z_145.2.2.1 z_145.2.2.2.1 z_145.2.2.2.2.1 z_145.2.2.2.2.2 z_70.2.2.2.2.2.2.2.1 z_70.2.2.2.2.2.2.2.2
                                )
                            ) (fun (j145 : Int32 → Option (Int32 × Int32 × Int32 × Int32 × Int32 × Int32 × Int32 × Int32 × Int32 × (Nat → Int32) × (Nat → Int32) × (Nat → Int32) × (Nat → Int32) × (Nat → Int32))) =>
                              if x125_s0 = 0 then (
                                if z_70.2.2.1 = 6 then (
                                  j140 ()
                                ) else (
                                  j145 0
                                )
                              ) else (
                                j140 ()
                              )
                            )
                          )
                        ) (fun (j125 : Int32 → Option (Int32 × Int32 × Int32 × Int32 × Int32 × Int32 × Int32 × Int32 × Int32 × (Nat → Int32) × (Nat → Int32) × (Nat → Int32) × (Nat → Int32) × (Nat → Int32))) =>
                          if z_70.2.2.1 = 5 then (
                            j125 1
                          ) else (
                            j125 0
                          )
                        )
                      )
                    ) (fun (j107 : Int32 → Option (Int32 × Int32 × Int32 × Int32 × Int32 × Int32 × Int32 × Int32 × Int32 × (Nat → Int32) × (Nat → Int32) × (Nat → Int32) × (Nat → Int32) × (Nat → Int32))) =>
                      if z_70.2.2.1 = 9 then (
                        if z_70.2.2.2.2.2.1 ≤ 0 then (
                          j107 0
                        ) else (
                          j102 ()
                        )
                      ) else (
                        j102 ()
                      )
                    )
                  )
                ) else (
                  j196 x41_l1 z_70.1 z_70.2.1 z_70.2.2.1 z_70.2.2.2.1 z_70.2.2.2.2.1 z_70.2.2.2.2.2.2.2.1 z_70.2.2.2.2.2.2.2.2
                )
              ) else (
                j196 x41_l1 z_70.1 z_70.2.1 z_70.2.2.1 z_70.2.2.2.1 z_70.2.2.2.2.1 z_70.2.2.2.2.2.2.2.1 z_70.2.2.2.2.2.2.2.2
              )
            )
        ) (fun (j68 : Int32 → Option (Int32 × Int32 × Int32 × Int32 × Int32 × Int32 × Int32 × Int32 × Int32 × (Nat → Int32) × (Nat → Int32) × (Nat → Int32) × (Nat → Int32) × (Nat → Int32))) =>
          if x41_o_sort = 7 then (
            j68 1
          ) else (
            j68 0
          )
        )
      )
    ) else (
      k199 x41_o_at x41_o_start x41_o_sort x41_o_value x41_o_fault x41_o_deep x41_o_many x41_f_some x41_f_every
    )
def P_X11_say (o_typed : Int32) (o_choices : Int32) (o_worlds : Int32) (o_at : Int32) (o_start : Int32) (o_sort : Int32) (o_value : Int32) (o_fault : Int32) (o_deep : Int32) (o_many : Int32) (f_text : (Nat → Int32)) (f_values : (Nat → Int32)) (f_sayings : (Nat → Int32)) (f_leaves : (Nat → Int32)) (f_signs : (Nat → Int32)) (f_words : (Nat → Int32)) (f_word : (Nat → Int32)) (f_some : (Nat → Int32)) (f_every : (Nat → Int32)) : Option (Int32 × Int32 × Int32 × Int32 × Int32 × Int32 × Int32 × Int32 × Int32 × (Nat → Int32) × (Nat → Int32) × (Nat → Int32) × (Nat → Int32) × (Nat → Int32)) :=
  ck 0 3 (
    if (f_sayings (0 : Int32).toNatClampNeg) = 8 then (
      some ((-3), o_typed, o_at, o_start, o_sort, o_value, o_fault, o_deep, o_many, f_sayings, f_leaves, f_signs, f_some, f_every)
    ) else (
      (P_X11_open 0 o_worlds o_deep f_some f_every).bind fun (z_32 : Int32 × (Nat → Int32) × (Nat → Int32)) =>
        (P_X11_next o_typed 0 o_start o_sort o_value f_text).bind fun (z_36 : Int32 × Int32 × Int32 × Int32) =>
          jn (fun (x199_o_at : Int32) (x199_o_start : Int32) (x199_o_sort : Int32) (x199_o_value : Int32) (x199_o_fault : Int32) (x199_o_deep : Int32) (x199_o_many : Int32) (x199_f_some : (Nat → Int32)) (x199_f_every : (Nat → Int32)) =>
            if x199_o_fault = (-9) then (
              ck 0 3 (
                ck 0 10 (
                  ck 0 10 (
                    ck (f_sayings (0 : Int32).toNatClampNeg) 24 (
                      ck 0 3 (
                        ck (f_sayings (0 : Int32).toNatClampNeg) 24 (
                          ck 0 3 (
                            ck 0 3 (
                              ck 0 3 (
                                some ((upd f_sayings (0 : Int32).toNatClampNeg ((f_sayings (0 : Int32).toNatClampNeg) + 1)) (0 : Int32).toNatClampNeg, 0, x199_o_at, x199_o_start, x199_o_sort, x199_o_value, x199_o_fault, x199_o_deep, x199_o_many, upd f_sayings (0 : Int32).toNatClampNeg ((f_sayings (0 : Int32).toNatClampNeg) + 1), upd f_leaves (f_sayings (0 : Int32).toNatClampNeg).toNatClampNeg ((x199_f_some (0 : Int32).toNatClampNeg) ||| (x199_f_every (0 : Int32).toNatClampNeg)), upd f_signs (f_sayings (0 : Int32).toNatClampNeg).toNatClampNeg x199_o_many, x199_f_some, x199_f_every)
                              )
                            )
                          )
                        )
                      )
                    )
                  )
                )
              )
            ) else (
              some ((-10) - x199_o_fault, o_typed, x199_o_at, x199_o_start, x199_o_sort, x199_o_value, x199_o_fault, x199_o_deep, x199_o_many, f_sayings, f_leaves, f_signs, x199_f_some, x199_f_every)
            )
          ) (fun (k199 : Int32 → Int32 → Int32 → Int32 → Int32 → Int32 → Int32 → (Nat → Int32) → (Nat → Int32) → Option (Int32 × Int32 × Int32 × Int32 × Int32 × Int32 × Int32 × Int32 × Int32 × (Nat → Int32) × (Nat → Int32) × (Nat → Int32) × (Nat → Int32) × (Nat → Int32))) =>
            P_X11_say_41 o_typed o_choices o_worlds f_text f_values f_words f_word k199 QF 1 z_36.1 z_36.2.1 z_36.2.2.1 z_36.2.2.2 (-9) z_32.1 0 z_32.2.1 z_32.2.2
          )
    )
  )
def P_X11_unsay (f_sayings : (Nat → Int32)) : Option (Int32 × (Nat → Int32)) :=
  ck 0 3 (
    if (f_sayings (0 : Int32).toNatClampNeg) = 0 then (
      some ((-2), f_sayings)
    ) else (
      ck 0 3 (
        ck 0 3 (
          ck 0 3 (
            some ((upd f_sayings (0 : Int32).toNatClampNeg ((f_sayings (0 : Int32).toNatClampNeg) - 1)) (0 : Int32).toNatClampNeg, upd f_sayings (0 : Int32).toNatClampNeg ((f_sayings (0 : Int32).toNatClampNeg) - 1))
          )
        )
      )
    )
  )
def P_X11_isSet (p1 : Int32) (o_worlds : Int32) : Option (Int32) :=
  (P_X11_allSets o_worlds).bind fun (z_3 : Int32) =>
    (P_X11_in p1 0 z_3).bind fun (z_6 : Int32) =>
      cz z_6 (some (z_6))
def P_X11_word (p1 : Int32) (o_worlds : Int32) (f_words : (Nat → Int32)) (f_word : (Nat → Int32)) : Option (Int32 × (Nat → Int32) × (Nat → Int32)) :=
  (P_X11_isSet p1 o_worlds).bind fun (z_2 : Int32) =>
    if z_2 = 0 then (
      some ((-1), f_words, f_word)
    ) else (
      ck 0 3 (
        if (f_words (0 : Int32).toNatClampNeg) = 3 then (
          some ((-3), f_words, f_word)
        ) else (
          ck 0 3 (
            ck (f_words (0 : Int32).toNatClampNeg) 9 (
              ck 0 3 (
                ck 0 3 (
                  ck 0 3 (
                    some ((upd f_words (0 : Int32).toNatClampNeg ((f_words (0 : Int32).toNatClampNeg) + 1)) (0 : Int32).toNatClampNeg, upd f_words (0 : Int32).toNatClampNeg ((f_words (0 : Int32).toNatClampNeg) + 1), upd f_word (f_words (0 : Int32).toNatClampNeg).toNatClampNeg p1)
                  )
                )
              )
            )
          )
        )
      )
    )
def P_X11_unword (f_words : (Nat → Int32)) : Option (Int32 × (Nat → Int32)) :=
  ck 0 3 (
    ck 0 3 (
      some (f_words (0 : Int32).toNatClampNeg, upd f_words (0 : Int32).toNatClampNeg 0)
    )
  )
def P_X11_isSaying (p1 : Int32) (f_sayings : (Nat → Int32)) : Option (Int32) :=
  ck 0 3 (
    (P_X11_in p1 0 ((f_sayings (0 : Int32).toNatClampNeg) - 1)).bind fun (z_10 : Int32) =>
      cz z_10 (some (z_10))
  )
def P_X11_saying (p1 : Int32) (p2 : Int32) (f_sayings : (Nat → Int32)) (f_leaves : (Nat → Int32)) (f_signs : (Nat → Int32)) : Option (Int32) :=
  (P_X11_isSaying p1 f_sayings).bind fun (z_2 : Int32) =>
    if z_2 = 0 then (
      some ((-1))
    ) else (
      (P_X11_in p2 0 1).bind fun (z_11 : Int32) =>
        if z_11 = 0 then (
          some ((-1))
        ) else (
          if p2 = 0 then (
            ck p1 24 (
              some (f_leaves p1.toNatClampNeg)
            )
          ) else (
            ck p1 24 (
              some (f_signs p1.toNatClampNeg)
            )
          )
        )
    )
def P_X11_alike (p1 : Int32) (p2 : Int32) (f_sayings : (Nat → Int32)) (f_leaves : (Nat → Int32)) : Option (Int32) :=
  (P_X11_isSaying p1 f_sayings).bind fun (z_2 : Int32) =>
    if z_2 = 0 then (
      some ((-1))
    ) else (
      (P_X11_isSaying p2 f_sayings).bind fun (z_10 : Int32) =>
        if z_10 = 0 then (
          some ((-1))
        ) else (
          ck p1 24 (
            ck p2 24 (
              if (f_leaves p1.toNatClampNeg) = (f_leaves p2.toNatClampNeg) then (
                some (1)
              ) else (
                some (0)
              )
            )
          )
        )
    )
def P_X11_find (p1 : Int32) (p2 : Int32) (o_foundMany : Int32) (f_length : (Nat → Int32)) (f_found : (Nat → Int32)) : Option (Int32 × (Nat → Int32) × (Nat → Int32)) :=
  ck p1 512 (
    if (f_length p1.toNatClampNeg) = 0 then (
      ck p1 512 (
        ck o_foundMany 512 (
          some (o_foundMany + 1, upd f_length p1.toNatClampNeg p2, upd f_found o_foundMany.toNatClampNeg p1)
        )
      )
    ) else (
      some (o_foundMany, f_length, f_found)
    )
  )
def P_X11_findAll_159 (x113_l2 : Int32) (x150_l4 : Int32) (k241 : Int32 → (Nat → Int32) → (Nat → Int32) → Option (Int32 × (Nat → Int32) × (Nat → Int32))) : Nat → Int32 → Int32 → (Nat → Int32) → (Nat → Int32) → Option (Int32 × (Nat → Int32) × (Nat → Int32))
  | 0, _, _, _, _ => none
  | n + 1, x159_l5, x159_o_foundMany, x159_f_length, x159_f_found =>
    if x150_l4 < x159_l5 then (
      k241 x159_o_foundMany x159_f_length x159_f_found
    ) else (
      ck x150_l4 512 (
        ck (x159_f_found x150_l4.toNatClampNeg) 512 (
          ck x159_l5 512 (
            ck (x159_f_found x159_l5.toNatClampNeg) 512 (
              jn (fun (x235_o_foundMany : Int32) (x235_f_length : (Nat → Int32)) (x235_f_found : (Nat → Int32)) =>
                P_X11_findAll_159 x113_l2 x150_l4 k241 n (x159_l5 + 1) x235_o_foundMany x235_f_length x235_f_found
              ) (fun (j235 : Int32 → (Nat → Int32) → (Nat → Int32) → Option (Int32 × (Nat → Int32) × (Nat → Int32))) =>
                if ((x159_f_length (x159_f_found x150_l4.toNatClampNeg).toNatClampNeg) + (x159_f_length (x159_f_found x159_l5.toNatClampNeg).toNatClampNeg)) = x113_l2 then (
                  ck x150_l4 512 (
                    ck x159_l5 512 (
                      (P_X11_find ((x159_f_found x150_l4.toNatClampNeg) &&& (x159_f_found x159_l5.toNatClampNeg)) x113_l2 x159_o_foundMany x159_f_length x159_f_found).bind fun (z_212 : Int32 × (Nat → Int32) × (Nat → Int32)) =>
                        ck x150_l4 512 (
                          ck x159_l5 512 (
                            (P_X11_find ((z_212.2.2 x150_l4.toNatClampNeg) ||| (z_212.2.2 x159_l5.toNatClampNeg)) x113_l2 z_212.1 z_212.2.1 z_212.2.2).bind fun (z_232 : Int32 × (Nat → Int32) × (Nat → Int32)) =>
                              j235 z_232.1 z_232.2.1 z_232.2.2
                          )
                        )
                    )
                  )
                ) else (
                  j235 x159_o_foundMany x159_f_length x159_f_found
                )
              )
            )
          )
        )
      )
    )
def P_X11_findAll_150 (x113_l2 : Int32) (x113_o_foundMany : Int32) (k247 : Int32 → (Nat → Int32) → (Nat → Int32) → Option (Int32 × (Nat → Int32) × (Nat → Int32))) : Nat → Int32 → Int32 → (Nat → Int32) → (Nat → Int32) → Option (Int32 × (Nat → Int32) × (Nat → Int32))
  | 0, _, _, _, _ => none
  | n + 1, x150_l4, x150_o_foundMany, x150_f_length, x150_f_found =>
    if x113_o_foundMany ≤ x150_l4 then (
      k247 x150_o_foundMany x150_f_length x150_f_found
    ) else (
      jn (fun (x241_o_foundMany : Int32) (x241_f_length : (Nat → Int32)) (x241_f_found : (Nat → Int32)) =>
        P_X11_findAll_150 x113_l2 x113_o_foundMany k247 n (x150_l4 + 1) x241_o_foundMany x241_f_length x241_f_found
      ) (fun (k241 : Int32 → (Nat → Int32) → (Nat → Int32) → Option (Int32 × (Nat → Int32) × (Nat → Int32))) =>
        P_X11_findAll_159 x113_l2 x150_l4 k241 QF 0 x150_o_foundMany x150_f_length x150_f_found
      )
    )
def P_X11_findAll_113 : Nat → Int32 → Int32 → (Nat → Int32) → (Nat → Int32) → Option (Int32 × (Nat → Int32) × (Nat → Int32))
  | 0, _, _, _, _ => none
  | n + 1, x113_l2, x113_o_foundMany, x113_f_length, x113_f_found =>
    if x113_o_foundMany ≤ 0 then (
      some (x113_o_foundMany, x113_f_length, x113_f_found)
    ) else (
      ck (x113_o_foundMany - 1) 512 (
        ck (x113_f_found (x113_o_foundMany - 1).toNatClampNeg) 512 (
          if (2 * (x113_f_length (x113_f_found (x113_o_foundMany - 1).toNatClampNeg).toNatClampNeg)) < x113_l2 then (
            some (x113_o_foundMany, x113_f_length, x113_f_found)
          ) else (
            jn (fun (x247_o_foundMany : Int32) (x247_f_length : (Nat → Int32)) (x247_f_found : (Nat → Int32)) =>
              P_X11_findAll_113  n (x113_l2 + 1) x247_o_foundMany x247_f_length x247_f_found
            ) (fun (k247 : Int32 → (Nat → Int32) → (Nat → Int32) → Option (Int32 × (Nat → Int32) × (Nat → Int32))) =>
              P_X11_findAll_150 x113_l2 x113_o_foundMany k247 QF 0 x113_o_foundMany x113_f_length x113_f_found
            )
          )
        )
      )
    )
def P_X11_findAll_74 (f_words : (Nat → Int32)) (f_word : (Nat → Int32)) (k101 : Int32 → (Nat → Int32) → (Nat → Int32) → Option (Int32 × (Nat → Int32) × (Nat → Int32))) : Nat → Int32 → Int32 → (Nat → Int32) → (Nat → Int32) → Option (Int32 × (Nat → Int32) × (Nat → Int32))
  | 0, _, _, _, _ => none
  | n + 1, x74_l2, x74_o_foundMany, x74_f_length, x74_f_found =>
    ck 0 3 (
      if (f_words (0 : Int32).toNatClampNeg) ≤ x74_l2 then (
        k101 x74_o_foundMany x74_f_length x74_f_found
      ) else (
        ck x74_l2 9 (
          (P_X11_find (f_word x74_l2.toNatClampNeg) 1 x74_o_foundMany x74_f_length x74_f_found).bind fun (z_92 : Int32 × (Nat → Int32) × (Nat → Int32)) =>
            P_X11_findAll_74 f_words f_word k101 n (x74_l2 + 1) z_92.1 z_92.2.1 z_92.2.2
        )
      )
    )
def P_X11_findAll_39 (o_worlds : Int32) (f_values : (Nat → Int32)) (x29_l2 : Int32) (k66 : Int32 → (Nat → Int32) → (Nat → Int32) → Option (Int32 × (Nat → Int32) × (Nat → Int32))) : Nat → Int32 → Int32 → (Nat → Int32) → (Nat → Int32) → Option (Int32 × (Nat → Int32) × (Nat → Int32))
  | 0, _, _, _, _ => none
  | n + 1, x39_l3, x39_o_foundMany, x39_f_length, x39_f_found =>
    ck x29_l2 3 (
      if (f_values x29_l2.toNatClampNeg) ≤ x39_l3 then (
        k66 x39_o_foundMany x39_f_length x39_f_found
      ) else (
        (P_X11_worldsOf x29_l2 x39_l3 o_worlds f_values).bind fun (z_53 : Int32) =>
          (P_X11_find z_53 1 x39_o_foundMany x39_f_length x39_f_found).bind fun (z_57 : Int32 × (Nat → Int32) × (Nat → Int32)) =>
            P_X11_findAll_39 o_worlds f_values x29_l2 k66 n (x39_l3 + 1) z_57.1 z_57.2.1 z_57.2.2
      )
    )
def P_X11_findAll_29 (o_choices : Int32) (o_worlds : Int32) (f_values : (Nat → Int32)) (k72 : Int32 → (Nat → Int32) → (Nat → Int32) → Option (Int32 × (Nat → Int32) × (Nat → Int32))) : Nat → Int32 → Int32 → (Nat → Int32) → (Nat → Int32) → Option (Int32 × (Nat → Int32) × (Nat → Int32))
  | 0, _, _, _, _ => none
  | n + 1, x29_l2, x29_o_foundMany, x29_f_length, x29_f_found =>
    if o_choices ≤ x29_l2 then (
      k72 x29_o_foundMany x29_f_length x29_f_found
    ) else (
      jn (fun (x66_o_foundMany : Int32) (x66_f_length : (Nat → Int32)) (x66_f_found : (Nat → Int32)) =>
        P_X11_findAll_29 o_choices o_worlds f_values k72 n (x29_l2 + 1) x66_o_foundMany x66_f_length x66_f_found
      ) (fun (k66 : Int32 → (Nat → Int32) → (Nat → Int32) → Option (Int32 × (Nat → Int32) × (Nat → Int32))) =>
        P_X11_findAll_39 o_worlds f_values x29_l2 k66 QF 0 x29_o_foundMany x29_f_length x29_f_found
      )
    )
def P_X11_findAll_2 (k22 : (Nat → Int32) → Option (Int32 × (Nat → Int32) × (Nat → Int32))) : Nat → Int32 → (Nat → Int32) → Option (Int32 × (Nat → Int32) × (Nat → Int32))
  | 0, _, _ => none
  | n + 1, x2_l2, x2_f_length =>
    if 512 ≤ x2_l2 then (
      k22 x2_f_length
    ) else (
      ck x2_l2 512 (
        P_X11_findAll_2 k22 n (x2_l2 + 1) (upd x2_f_length x2_l2.toNatClampNeg 0)
      )
    )
def P_X11_findAll (p1 : Int32) (o_choices : Int32) (o_worlds : Int32) (o_foundMany : Int32) (f_values : (Nat → Int32)) (f_words : (Nat → Int32)) (f_word : (Nat → Int32)) (f_length : (Nat → Int32)) (f_found : (Nat → Int32)) : Option (Int32 × (Nat → Int32) × (Nat → Int32)) :=
  jn (fun (x22_f_length : (Nat → Int32)) =>
    jn (fun (x72_o_foundMany : Int32) (x72_f_length : (Nat → Int32)) (x72_f_found : (Nat → Int32)) =>
      jn (fun (x101_o_foundMany : Int32) (x101_f_length : (Nat → Int32)) (x101_f_found : (Nat → Int32)) =>
        jn (fun (x111_o_foundMany : Int32) (x111_f_length : (Nat → Int32)) (x111_f_found : (Nat → Int32)) =>
          P_X11_findAll_113  QF 2 x111_o_foundMany x111_f_length x111_f_found
        ) (fun (j111 : Int32 → (Nat → Int32) → (Nat → Int32) → Option (Int32 × (Nat → Int32) × (Nat → Int32))) =>
          if p1 < 0 then (
            j111 x101_o_foundMany x101_f_length x101_f_found
          ) else (
            (P_X11_find p1 1 x101_o_foundMany x101_f_length x101_f_found).bind fun (z_108 : Int32 × (Nat → Int32) × (Nat → Int32)) =>
              j111 z_108.1 z_108.2.1 z_108.2.2
          )
        )
      ) (fun (k101 : Int32 → (Nat → Int32) → (Nat → Int32) → Option (Int32 × (Nat → Int32) × (Nat → Int32))) =>
        P_X11_findAll_74 f_words f_word k101 QF 0 x72_o_foundMany x72_f_length x72_f_found
      )
    ) (fun (k72 : Int32 → (Nat → Int32) → (Nat → Int32) → Option (Int32 × (Nat → Int32) × (Nat → Int32))) =>
      P_X11_findAll_29 o_choices o_worlds f_values k72 QF 0 0 x22_f_length f_found
    )
  ) (fun (k22 : (Nat → Int32) → Option (Int32 × (Nat → Int32) × (Nat → Int32))) =>
    P_X11_findAll_2 k22 QF 0 f_length
  )
def P_X11_lengthOf (p1 : Int32) (f_length : (Nat → Int32)) : Option (Int32) :=
  ck p1 512 (
    if (f_length p1.toNatClampNeg) = 0 then (
      some ((-9))
    ) else (
      ck p1 512 (
        some (f_length p1.toNatClampNeg)
      )
    )
  )
def P_X11_shortest (p1 : Int32) (o_choices : Int32) (o_worlds : Int32) (o_foundMany : Int32) (f_values : (Nat → Int32)) (f_words : (Nat → Int32)) (f_word : (Nat → Int32)) (f_length : (Nat → Int32)) (f_found : (Nat → Int32)) : Option (Int32 × Int32 × (Nat → Int32) × (Nat → Int32)) :=
  (P_X11_isSet p1 o_worlds).bind fun (z_2 : Int32) =>
    if z_2 = 0 then (
      some ((-1), o_foundMany, f_length, f_found)
    ) else (
      (P_X11_findAll (-1) o_choices o_worlds o_foundMany f_values f_words f_word f_length f_found).bind fun (z_12 : Int32 × (Nat → Int32) × (Nat → Int32)) =>
        (P_X11_lengthOf p1 z_12.2.1).bind fun (z_17 : Int32) =>
          some (z_17, z_12.1, z_12.2.1, z_12.2.2)
    )
def P_X11_signBy_53 (p1 : Int32) (f_word : (Nat → Int32)) (k69 : Int32 → Option (Int32)) : Nat → Int32 → Option (Int32)
  | 0, _ => none
  | n + 1, x53_l2 =>
    ck x53_l2 9 (
      if (f_word x53_l2.toNatClampNeg) = p1 then (
        k69 x53_l2
      ) else (
        P_X11_signBy_53 p1 f_word k69 n (x53_l2 + 1)
      )
    )
def P_X11_signBy_12 (p1 : Int32) (o_worlds : Int32) (f_values : (Nat → Int32)) (k32 : Int32 → Int32 → Option (Int32)) (x2_l2 : Int32) (k45 : Unit → Option (Int32)) : Nat → Int32 → Option (Int32)
  | 0, _ => none
  | n + 1, x12_l3 =>
    ck x2_l2 3 (
      if (f_values x2_l2.toNatClampNeg) ≤ x12_l3 then (
        k45 ()
      ) else (
        (P_X11_worldsOf x2_l2 x12_l3 o_worlds f_values).bind fun (z_25 : Int32) =>
          if z_25 = p1 then (
            k32 x2_l2 x12_l3
          ) else (
            P_X11_signBy_12 p1 o_worlds f_values k32 x2_l2 k45 n (x12_l3 + 1)
          )
      )
    )
def P_X11_signBy_2 (p1 : Int32) (o_choices : Int32) (o_worlds : Int32) (f_values : (Nat → Int32)) (k51 : Unit → Option (Int32)) (k32 : Int32 → Int32 → Option (Int32)) : Nat → Int32 → Option (Int32)
  | 0, _ => none
  | n + 1, x2_l2 =>
    if o_choices ≤ x2_l2 then (
      k51 ()
    ) else (
      jn (fun (_ : Unit) =>
        P_X11_signBy_2 p1 o_choices o_worlds f_values k51 k32 n (x2_l2 + 1)
      ) (fun (k45 : Unit → Option (Int32)) =>
        P_X11_signBy_12 p1 o_worlds f_values k32 x2_l2 k45 QF 0
      )
    )
def P_X11_signBy (p1 : Int32) (o_choices : Int32) (o_worlds : Int32) (f_values : (Nat → Int32)) (f_word : (Nat → Int32)) : Option (Int32) :=
  jn (fun (_ : Unit) =>
    jn (fun (x69_l2 : Int32) =>
      some (30 + x69_l2)
    ) (fun (k69 : Int32 → Option (Int32)) =>
      P_X11_signBy_53 p1 f_word k69 QF 0
    )
  ) (fun (k51 : Unit → Option (Int32)) =>
    jn (fun (x32_l2 : Int32) (x32_l3 : Int32) =>
    some ((10 * x32_l2) + x32_l3)
    ) (fun (k32 : Int32 → Int32 → Option (Int32)) =>
      P_X11_signBy_2 p1 o_choices o_worlds f_values k51 k32 QF 0
    )
  )
def P_X11_made_83 (p1 : Int32) (o_worlds : Int32) (z_21 : Int32 × (Nat → Int32) × (Nat → Int32)) (k170 : Int32 → Int32 → Int32 → Option (Int32 × Int32 × (Nat → Int32) × (Nat → Int32))) (x63_l3 : Int32) (x71_l4 : Int32) (k197 : Unit → Option (Int32 × Int32 × (Nat → Int32) × (Nat → Int32))) : Nat → Int32 → Option (Int32 × Int32 × (Nat → Int32) × (Nat → Int32))
  | 0, _ => none
  | n + 1, x83_l5 =>
    (P_X11_allSets o_worlds).bind fun (z_86 : Int32) =>
      if z_86 < x83_l5 then (
        k197 ()
      ) else (
        ck x71_l4 512 (
          if (z_21.2.1 x71_l4.toNatClampNeg) ≤ 0 then (
            k197 ()
          ) else (
            ck x83_l5 512 (
              jn (fun (_ : Unit) =>
                if (0 : Int32) = 0 then (
                  P_X11_made_83 p1 o_worlds z_21 k170 x63_l3 x71_l4 k197 n (x83_l5 + 1)
                ) else (
                  k170 x63_l3 x71_l4 x83_l5
                )
              ) (fun (j162 : Unit → Option (Int32 × Int32 × (Nat → Int32) × (Nat → Int32))) =>
                jn (fun (x163_s0 : Int32) =>
                  if x163_s0 = 0 then (
                    P_X11_made_83 p1 o_worlds z_21 k170 x63_l3 x71_l4 k197 n (x83_l5 + 1)
                  ) else (
                    k170 x63_l3 x71_l4 x83_l5
                  )
                ) (fun (j163 : Int32 → Option (Int32 × Int32 × (Nat → Int32) × (Nat → Int32))) =>
                  if (z_21.2.1 x83_l5.toNatClampNeg) ≤ 0 then (
                    j162 ()
                  ) else (
                    ck x71_l4 512 (
                      ck x83_l5 512 (
                        ck p1 512 (
                          if ((z_21.2.1 x71_l4.toNatClampNeg) + (z_21.2.1 x83_l5.toNatClampNeg)) = (z_21.2.1 p1.toNatClampNeg) then (
                            jn (fun (x154_s0 : Int32) =>
                              if x154_s0 = p1 then (
                                j163 1
                              ) else (
                                j162 ()
                              )
                            ) (fun (j154 : Int32 → Option (Int32 × Int32 × (Nat → Int32) × (Nat → Int32))) =>
                              if x63_l3 = 1 then (
                                j154 (x71_l4 &&& x83_l5)
                              ) else (
                                j154 (x71_l4 ||| x83_l5)
                              )
                            )
                          ) else (
                            j162 ()
                          )
                        )
                      )
                    )
                  )
                )
              )
            )
          )
        )
      )
def P_X11_made_71 (p1 : Int32) (o_worlds : Int32) (z_21 : Int32 × (Nat → Int32) × (Nat → Int32)) (k170 : Int32 → Int32 → Int32 → Option (Int32 × Int32 × (Nat → Int32) × (Nat → Int32))) (x63_l3 : Int32) (k203 : Unit → Option (Int32 × Int32 × (Nat → Int32) × (Nat → Int32))) : Nat → Int32 → Option (Int32 × Int32 × (Nat → Int32) × (Nat → Int32))
  | 0, _ => none
  | n + 1, x71_l4 =>
    (P_X11_allSets o_worlds).bind fun (z_74 : Int32) =>
      if z_74 < x71_l4 then (
        k203 ()
      ) else (
        jn (fun (_ : Unit) =>
          P_X11_made_71 p1 o_worlds z_21 k170 x63_l3 k203 n (x71_l4 + 1)
        ) (fun (k197 : Unit → Option (Int32 × Int32 × (Nat → Int32) × (Nat → Int32))) =>
          P_X11_made_83 p1 o_worlds z_21 k170 x63_l3 x71_l4 k197 QF 0
        )
      )
def P_X11_made_63 (p1 : Int32) (o_worlds : Int32) (z_21 : Int32 × (Nat → Int32) × (Nat → Int32)) (k170 : Int32 → Int32 → Int32 → Option (Int32 × Int32 × (Nat → Int32) × (Nat → Int32))) : Nat → Int32 → Option (Int32 × Int32 × (Nat → Int32) × (Nat → Int32))
  | 0, _ => none
  | n + 1, x63_l3 =>
    if 2 < x63_l3 then (
      some ((-9), z_21.1, z_21.2.1, z_21.2.2)
    ) else (
      jn (fun (_ : Unit) =>
        P_X11_made_63 p1 o_worlds z_21 k170 n (x63_l3 + 1)
      ) (fun (k203 : Unit → Option (Int32 × Int32 × (Nat → Int32) × (Nat → Int32))) =>
        P_X11_made_71 p1 o_worlds z_21 k170 x63_l3 k203 QF 0
      )
    )
def P_X11_made (p1 : Int32) (p2 : Int32) (o_choices : Int32) (o_worlds : Int32) (o_foundMany : Int32) (f_values : (Nat → Int32)) (f_words : (Nat → Int32)) (f_word : (Nat → Int32)) (f_length : (Nat → Int32)) (f_found : (Nat → Int32)) : Option (Int32 × Int32 × (Nat → Int32) × (Nat → Int32)) :=
  (P_X11_isSet p1 o_worlds).bind fun (z_2 : Int32) =>
    if z_2 = 0 then (
      some ((-1), o_foundMany, f_length, f_found)
    ) else (
      (P_X11_in p2 0 2).bind fun (z_11 : Int32) =>
        if z_11 = 0 then (
          some ((-1), o_foundMany, f_length, f_found)
        ) else (
          (P_X11_findAll (-1) o_choices o_worlds o_foundMany f_values f_words f_word f_length f_found).bind fun (z_21 : Int32 × (Nat → Int32) × (Nat → Int32)) =>
            ck p1 512 (
              if (z_21.2.1 p1.toNatClampNeg) = 0 then (
                some ((-9), z_21.1, z_21.2.1, z_21.2.2)
              ) else (
                ck p1 512 (
                  if (z_21.2.1 p1.toNatClampNeg) = 1 then (
                    if p2 = 1 then (
                      (P_X11_signBy p1 o_choices o_worlds f_values f_word).bind fun (z_53 : Int32) =>
                        some (z_53, z_21.1, z_21.2.1, z_21.2.2)
                    ) else (
                      some (0, z_21.1, z_21.2.1, z_21.2.2)
                    )
                  ) else (
                    jn (fun (x170_l3 : Int32) (x170_l4 : Int32) (x170_l5 : Int32) =>
                      if p2 = 0 then (
                        some (x170_l3, z_21.1, z_21.2.1, z_21.2.2)
                      ) else (
                        if p2 = 1 then (
                          some (x170_l4, z_21.1, z_21.2.1, z_21.2.2)
                        ) else (
                          some (x170_l5, z_21.1, z_21.2.1, z_21.2.2)
                        )
                      )
                    ) (fun (k170 : Int32 → Int32 → Int32 → Option (Int32 × Int32 × (Nat → Int32) × (Nat → Int32))) =>
                      P_X11_made_63 p1 o_worlds z_21 k170 QF 1
                    )
                  )
                )
              )
            )
        )
    )
def P_X11_cubeOf_10 (o_choices : Int32) (o_worlds : Int32) (f_values : (Nat → Int32)) : Nat → Int32 → Int32 → Int32 → Option (Int32)
  | 0, _, _, _ => none
  | n + 1, x10_l2, x10_l3, x10_l4 =>
    if o_choices ≤ x10_l4 then (
      some (x10_l3)
    ) else (
      ck x10_l4 3 (
        dz ((f_values x10_l4.toNatClampNeg) + 1) (
          ck x10_l4 3 (
            dz ((f_values x10_l4.toNatClampNeg) + 1) (
              ck x10_l4 3 (
                jn (fun (x72_s1 : Int32) =>
                  P_X11_cubeOf_10 o_choices o_worlds f_values n (x10_l2 / ((f_values x10_l4.toNatClampNeg) + 1)) (x10_l3 &&& x72_s1) (x10_l4 + 1)
                ) (fun (j72 : Int32 → Option (Int32)) =>
                  if (x10_l2 - x10_l2 / ((f_values x10_l4.toNatClampNeg) + 1) * ((f_values x10_l4.toNatClampNeg) + 1)) = (f_values x10_l4.toNatClampNeg) then (
                    (P_X11_allSets o_worlds).bind fun (z_58 : Int32) =>
                      j72 z_58
                  ) else (
                    (P_X11_worldsOf x10_l4 (x10_l2 - x10_l2 / ((f_values x10_l4.toNatClampNeg) + 1) * ((f_values x10_l4.toNatClampNeg) + 1)) o_worlds f_values).bind fun (z_69 : Int32) =>
                      j72 z_69
                  )
                )
              )
            )
          )
        )
      )
    )
def P_X11_cubeOf (p1 : Int32) (o_choices : Int32) (o_worlds : Int32) (f_values : (Nat → Int32)) : Option (Int32) :=
  (P_X11_allSets o_worlds).bind fun (z_3 : Int32) =>
    P_X11_cubeOf_10 o_choices o_worlds f_values QF p1 z_3 0
def P_X11_cubes_4 (o_choices : Int32) (f_values : (Nat → Int32)) : Nat → Int32 → Int32 → Option (Int32)
  | 0, _, _ => none
  | n + 1, x4_l1, x4_l2 =>
    if o_choices ≤ x4_l2 then (
      some (x4_l1)
    ) else (
      ck x4_l2 3 (
        P_X11_cubes_4 o_choices f_values n (x4_l1 * ((f_values x4_l2.toNatClampNeg) + 1)) (x4_l2 + 1)
      )
    )
def P_X11_cubes (o_choices : Int32) (f_values : (Nat → Int32)) : Option (Int32) :=
  P_X11_cubes_4 o_choices f_values QF 1 0
def P_X11_isTerm_17 (p1 : Int32) (p2 : Int32) (o_choices : Int32) (o_worlds : Int32) (f_values : (Nat → Int32)) : Nat → Int32 → Int32 → Option (Int32)
  | 0, _, _ => none
  | n + 1, x17_l3, x17_l4 =>
    (P_X11_cubes o_choices f_values).bind fun (z_20 : Int32) =>
      if z_20 ≤ x17_l4 then (
        cz x17_l3 (some (x17_l3))
      ) else (
        if x17_l3 = 0 then (
          cz x17_l3 (some (x17_l3))
        ) else (
          (P_X11_cubeOf x17_l4 o_choices o_worlds f_values).bind fun (z_33 : Int32) =>
            jn (fun (_ : Unit) =>
              P_X11_isTerm_17 p1 p2 o_choices o_worlds f_values n 1 (x17_l4 + 1)
            ) (fun (j62 : Unit → Option (Int32)) =>
              jn (fun (x67_s0 : Int32) =>
                P_X11_isTerm_17 p1 p2 o_choices o_worlds f_values n x67_s0 (x17_l4 + 1)
              ) (fun (j67 : Int32 → Option (Int32)) =>
                if z_33 = p1 then (
                  j62 ()
                ) else (
                  if (z_33 &&& (p2 ^^^ (-1))) = 0 then (
                    if (p1 &&& (z_33 ^^^ (-1))) = 0 then (
                      j67 0
                    ) else (
                      j62 ()
                    )
                  ) else (
                    j62 ()
                  )
                )
              )
            )
        )
      )
def P_X11_isTerm (p1 : Int32) (p2 : Int32) (o_choices : Int32) (o_worlds : Int32) (f_values : (Nat → Int32)) : Option (Int32) :=
  jn (fun (x13_s0 : Int32) =>
    P_X11_isTerm_17 p1 p2 o_choices o_worlds f_values QF x13_s0 0
  ) (fun (j13 : Int32 → Option (Int32)) =>
    if (p1 &&& (p2 ^^^ (-1))) = 0 then (
      j13 1
    ) else (
      j13 0
    )
  )
def P_X11_terms_35 (o_choices : Int32) (o_worlds : Int32) (f_values : (Nat → Int32)) (x20_l4 : Int32) (k73 : Int32 → Option (Int32)) : Nat → Int32 → Int32 → Option (Int32)
  | 0, _, _ => none
  | n + 1, x35_l5, x35_l6 =>
    (P_X11_cubes o_choices f_values).bind fun (z_38 : Int32) =>
      if z_38 ≤ x35_l6 then (
        k73 x35_l5
      ) else (
        jn (fun (_ : Unit) =>
          P_X11_terms_35 o_choices o_worlds f_values x20_l4 k73 n 1 (x35_l6 + 1)
        ) (fun (j60 : Unit → Option (Int32)) =>
          jn (fun (x65_s0 : Int32) =>
            P_X11_terms_35 o_choices o_worlds f_values x20_l4 k73 n x65_s0 (x35_l6 + 1)
          ) (fun (j65 : Int32 → Option (Int32)) =>
            if x35_l5 = 0 then (
              (P_X11_cubeOf x35_l6 o_choices o_worlds f_values).bind fun (z_52 : Int32) =>
                if z_52 = x20_l4 then (
                  j60 ()
                ) else (
                  j65 0
                )
            ) else (
              j60 ()
            )
          )
        )
      )
def P_X11_terms_20 (p1 : Int32) (p2 : Int32) (o_choices : Int32) (o_worlds : Int32) (f_values : (Nat → Int32)) (k105 : Int32 → Option (Int32)) : Nat → Int32 → Int32 → Option (Int32)
  | 0, _, _ => none
  | n + 1, x20_l3, x20_l4 =>
    (P_X11_allSets o_worlds).bind fun (z_23 : Int32) =>
      if z_23 < x20_l4 then (
        k105 x20_l3
      ) else (
        jn (fun (x73_l5 : Int32) =>
          jn (fun (x99_l3 : Int32) =>
            P_X11_terms_20 p1 p2 o_choices o_worlds f_values k105 n x99_l3 (x20_l4 + 1)
          ) (fun (j99 : Int32 → Option (Int32)) =>
            if x73_l5 = 0 then (
              j99 x20_l3
            ) else (
              (P_X11_isTerm x20_l4 p1 o_choices o_worlds f_values).bind fun (z_82 : Int32) =>
                if z_82 = 0 then (
                  j99 x20_l3
                ) else (
                  if x20_l3 = p2 then (
                    some (x20_l4)
                  ) else (
                    j99 (x20_l3 + 1)
                  )
                )
            )
          )
        ) (fun (k73 : Int32 → Option (Int32)) =>
          P_X11_terms_35 o_choices o_worlds f_values x20_l4 k73 QF 0 0
        )
      )
def P_X11_terms (p1 : Int32) (p2 : Int32) (o_choices : Int32) (o_worlds : Int32) (f_values : (Nat → Int32)) : Option (Int32) :=
  (P_X11_isSet p1 o_worlds).bind fun (z_2 : Int32) =>
    if z_2 = 0 then (
      some ((-1))
    ) else (
      if (-1) ≤ p2 then (
        jn (fun (x105_l3 : Int32) =>
          if p2 = (-1) then (
            some (x105_l3)
          ) else (
            some ((-1))
          )
        ) (fun (k105 : Int32 → Option (Int32)) =>
          P_X11_terms_20 p1 p2 o_choices o_worlds f_values k105 QF 0 1
        )
      ) else (
        some ((-1))
      )
    )
def P_X11_refusal (p1 : Int32) (o_choices : Int32) (o_worlds : Int32) (o_foundMany : Int32) (f_values : (Nat → Int32)) (f_words : (Nat → Int32)) (f_word : (Nat → Int32)) (f_length : (Nat → Int32)) (f_found : (Nat → Int32)) : Option (Int32 × Int32 × (Nat → Int32) × (Nat → Int32)) :=
  (P_X11_isSet p1 o_worlds).bind fun (z_2 : Int32) =>
    if z_2 = 0 then (
      some ((-1), o_foundMany, f_length, f_found)
    ) else (
      (P_X11_findAll (-1) o_choices o_worlds o_foundMany f_values f_words f_word f_length f_found).bind fun (z_12 : Int32 × (Nat → Int32) × (Nat → Int32)) =>
        (P_X11_allSets o_worlds).bind fun (z_17 : Int32) =>
          (P_X11_lengthOf (z_17 &&& (p1 ^^^ (-1))) z_12.2.1).bind fun (z_24 : Int32) =>
            some (z_24, z_12.1, z_12.2.1, z_12.2.2)
    )
def P_X11_worst_37 (o_worlds : Int32) (f_values : (Nat → Int32)) (z_13 : Int32 × (Nat → Int32) × (Nat → Int32)) (x25_l4 : Int32) (k108 : Int32 → Int32 → Option (Int32 × Int32 × (Nat → Int32) × (Nat → Int32))) : Nat → Int32 → Int32 → Int32 → Option (Int32 × Int32 × (Nat → Int32) × (Nat → Int32))
  | 0, _, _, _ => none
  | n + 1, x37_l2, x37_l3, x37_l5 =>
    ck x25_l4 3 (
      if (f_values x25_l4.toNatClampNeg) ≤ x37_l5 then (
        k108 x37_l2 x37_l3
      ) else (
        (P_X11_allSets o_worlds).bind fun (z_51 : Int32) =>
          (P_X11_worldsOf x25_l4 x37_l5 o_worlds f_values).bind fun (z_59 : Int32) =>
            (P_X11_lengthOf (z_51 &&& (z_59 ^^^ (-1))) z_13.2.1).bind fun (z_65 : Int32) =>
              jn (fun (x88_s0 : Int32) =>
                jn (fun (x101_s0 : Int32) =>
                  P_X11_worst_37 o_worlds f_values z_13 x25_l4 k108 n x88_s0 x101_s0 (x37_l5 + 1)
                ) (fun (j101 : Int32 → Option (Int32 × Int32 × (Nat → Int32) × (Nat → Int32))) =>
                  if z_65 ≤ x37_l3 then (
                    j101 x37_l3
                  ) else (
                    j101 z_65
                  )
                )
              ) (fun (j88 : Int32 → Option (Int32 × Int32 × (Nat → Int32) × (Nat → Int32))) =>
                if z_65 ≤ x37_l3 then (
                  j88 x37_l2
                ) else (
                  j88 ((10 * x25_l4) + x37_l5)
                )
              )
      )
    )
def P_X11_worst_25 (o_choices : Int32) (o_worlds : Int32) (f_values : (Nat → Int32)) (z_13 : Int32 × (Nat → Int32) × (Nat → Int32)) (k114 : Int32 → Int32 → Option (Int32 × Int32 × (Nat → Int32) × (Nat → Int32))) : Nat → Int32 → Int32 → Int32 → Option (Int32 × Int32 × (Nat → Int32) × (Nat → Int32))
  | 0, _, _, _ => none
  | n + 1, x25_l2, x25_l3, x25_l4 =>
    if o_choices ≤ x25_l4 then (
      k114 x25_l2 x25_l3
    ) else (
      jn (fun (x108_l2 : Int32) (x108_l3 : Int32) =>
        P_X11_worst_25 o_choices o_worlds f_values z_13 k114 n x108_l2 x108_l3 (x25_l4 + 1)
      ) (fun (k108 : Int32 → Int32 → Option (Int32 × Int32 × (Nat → Int32) × (Nat → Int32))) =>
        P_X11_worst_37 o_worlds f_values z_13 x25_l4 k108 QF x25_l2 x25_l3 0
      )
    )
def P_X11_worst (p1 : Int32) (o_choices : Int32) (o_worlds : Int32) (o_foundMany : Int32) (f_values : (Nat → Int32)) (f_words : (Nat → Int32)) (f_word : (Nat → Int32)) (f_length : (Nat → Int32)) (f_found : (Nat → Int32)) : Option (Int32 × Int32 × (Nat → Int32) × (Nat → Int32)) :=
  (P_X11_in p1 0 1).bind fun (z_3 : Int32) =>
    if z_3 = 0 then (
      some ((-1), o_foundMany, f_length, f_found)
    ) else (
      (P_X11_findAll (-1) o_choices o_worlds o_foundMany f_values f_words f_word f_length f_found).bind fun (z_13 : Int32 × (Nat → Int32) × (Nat → Int32)) =>
        jn (fun (x114_l2 : Int32) (x114_l3 : Int32) =>
          if p1 = 0 then (
            some (x114_l2, z_13.1, z_13.2.1, z_13.2.2)
          ) else (
            some (x114_l3, z_13.1, z_13.2.1, z_13.2.2)
          )
        ) (fun (k114 : Int32 → Int32 → Option (Int32 × Int32 × (Nat → Int32) × (Nat → Int32))) =>
          P_X11_worst_25 o_choices o_worlds f_values z_13 k114 QF (-9) (-9) 0
        )
    )
def P_X11_allRefusals_14 (o_worlds : Int32) (f_values : (Nat → Int32)) (f_length : (Nat → Int32)) (x4_l2 : Int32) (k50 : Int32 → Option (Int32)) : Nat → Int32 → Int32 → Option (Int32)
  | 0, _, _ => none
  | n + 1, x14_l1, x14_l3 =>
    ck x4_l2 3 (
      if (f_values x4_l2.toNatClampNeg) ≤ x14_l3 then (
        k50 x14_l1
      ) else (
        (P_X11_allSets o_worlds).bind fun (z_27 : Int32) =>
          (P_X11_worldsOf x4_l2 x14_l3 o_worlds f_values).bind fun (z_33 : Int32) =>
            (P_X11_lengthOf (z_27 &&& (z_33 ^^^ (-1))) f_length).bind fun (z_39 : Int32) =>
              P_X11_allRefusals_14 o_worlds f_values f_length x4_l2 k50 n (x14_l1 + z_39) (x14_l3 + 1)
      )
    )
def P_X11_allRefusals_4 (o_choices : Int32) (o_worlds : Int32) (f_values : (Nat → Int32)) (f_length : (Nat → Int32)) : Nat → Int32 → Int32 → Option (Int32)
  | 0, _, _ => none
  | n + 1, x4_l1, x4_l2 =>
    if o_choices ≤ x4_l2 then (
      some (x4_l1)
    ) else (
      jn (fun (x50_l1 : Int32) =>
        P_X11_allRefusals_4 o_choices o_worlds f_values f_length n x50_l1 (x4_l2 + 1)
      ) (fun (k50 : Int32 → Option (Int32)) =>
        P_X11_allRefusals_14 o_worlds f_values f_length x4_l2 k50 QF x4_l1 0
      )
    )
def P_X11_allRefusals (o_choices : Int32) (o_worlds : Int32) (f_values : (Nat → Int32)) (f_length : (Nat → Int32)) : Option (Int32) :=
  P_X11_allRefusals_4 o_choices o_worlds f_values f_length QF 0 0
def P_X11_saves_45 (o_choices : Int32) (o_worlds : Int32) (f_values : (Nat → Int32)) (f_words : (Nat → Int32)) (f_word : (Nat → Int32)) (x33_l4 : Int32) (k112 : Int32 → Int32 → Int32 → (Nat → Int32) → (Nat → Int32) → Option (Int32 × Int32 × (Nat → Int32) × (Nat → Int32))) : Nat → Int32 → Int32 → Int32 → Int32 → (Nat → Int32) → (Nat → Int32) → Option (Int32 × Int32 × (Nat → Int32) × (Nat → Int32))
  | 0, _, _, _, _, _, _ => none
  | n + 1, x45_l2, x45_l3, x45_l5, x45_o_foundMany, x45_f_length, x45_f_found =>
    ck x33_l4 3 (
      if (f_values x33_l4.toNatClampNeg) ≤ x45_l5 then (
        k112 x45_l2 x45_l3 x45_o_foundMany x45_f_length x45_f_found
      ) else (
        (P_X11_allSets o_worlds).bind fun (z_59 : Int32) =>
          (P_X11_worldsOf x33_l4 x45_l5 o_worlds f_values).bind fun (z_67 : Int32) =>
            (P_X11_findAll (z_59 &&& (z_67 ^^^ (-1))) o_choices o_worlds x45_o_foundMany f_values f_words f_word x45_f_length x45_f_found).bind fun (z_73 : Int32 × (Nat → Int32) × (Nat → Int32)) =>
              (P_X11_allRefusals o_choices o_worlds f_values z_73.2.1).bind fun (z_77 : Int32) =>
                jn (fun (_ : Unit) =>
                  P_X11_saves_45 o_choices o_worlds f_values f_words f_word x33_l4 k112 n ((10 * x33_l4) + x45_l5) z_77 (x45_l5 + 1) z_73.1 z_73.2.1 z_73.2.2
                ) (fun (j94 : Unit → Option (Int32 × Int32 × (Nat → Int32) × (Nat → Int32))) =>
                  jn (fun (x106_l2 : Int32) (x106_l3 : Int32) =>
                    P_X11_saves_45 o_choices o_worlds f_values f_words f_word x33_l4 k112 n x106_l2 x106_l3 (x45_l5 + 1) z_73.1 z_73.2.1 z_73.2.2
                  ) (fun (j106 : Int32 → Int32 → Option (Int32 × Int32 × (Nat → Int32) × (Nat → Int32))) =>
                    if x45_l3 = (-9) then (
                      j94 ()
                    ) else (
                      if x45_l3 ≤ z_77 then (
                        j106 x45_l2 x45_l3
                      ) else (
                        j94 ()
                      )
                    )
                  )
                )
      )
    )
def P_X11_saves_33 (o_choices : Int32) (o_worlds : Int32) (f_values : (Nat → Int32)) (f_words : (Nat → Int32)) (f_word : (Nat → Int32)) (k118 : Int32 → Int32 → Int32 → (Nat → Int32) → (Nat → Int32) → Option (Int32 × Int32 × (Nat → Int32) × (Nat → Int32))) : Nat → Int32 → Int32 → Int32 → Int32 → (Nat → Int32) → (Nat → Int32) → Option (Int32 × Int32 × (Nat → Int32) × (Nat → Int32))
  | 0, _, _, _, _, _, _ => none
  | n + 1, x33_l2, x33_l3, x33_l4, x33_o_foundMany, x33_f_length, x33_f_found =>
    if o_choices ≤ x33_l4 then (
      k118 x33_l2 x33_l3 x33_o_foundMany x33_f_length x33_f_found
    ) else (
      jn (fun (x112_l2 : Int32) (x112_l3 : Int32) (x112_o_foundMany : Int32) (x112_f_length : (Nat → Int32)) (x112_f_found : (Nat → Int32)) =>
        P_X11_saves_33 o_choices o_worlds f_values f_words f_word k118 n x112_l2 x112_l3 (x33_l4 + 1) x112_o_foundMany x112_f_length x112_f_found
      ) (fun (k112 : Int32 → Int32 → Int32 → (Nat → Int32) → (Nat → Int32) → Option (Int32 × Int32 × (Nat → Int32) × (Nat → Int32))) =>
        P_X11_saves_45 o_choices o_worlds f_values f_words f_word x33_l4 k112 QF x33_l2 x33_l3 0 x33_o_foundMany x33_f_length x33_f_found
      )
    )
def P_X11_saves (p1 : Int32) (o_choices : Int32) (o_worlds : Int32) (o_foundMany : Int32) (f_values : (Nat → Int32)) (f_words : (Nat → Int32)) (f_word : (Nat → Int32)) (f_length : (Nat → Int32)) (f_found : (Nat → Int32)) : Option (Int32 × Int32 × (Nat → Int32) × (Nat → Int32)) :=
  (P_X11_in p1 0 1).bind fun (z_3 : Int32) =>
    if z_3 = 0 then (
      some ((-1), o_foundMany, f_length, f_found)
    ) else (
      ck 0 3 (
        if (f_words (0 : Int32).toNatClampNeg) = 3 then (
          some ((-3), o_foundMany, f_length, f_found)
        ) else (
          jn (fun (x118_l2 : Int32) (x118_l3 : Int32) (x118_o_foundMany : Int32) (x118_f_length : (Nat → Int32)) (x118_f_found : (Nat → Int32)) =>
            if p1 = 0 then (
              some (x118_l2, x118_o_foundMany, x118_f_length, x118_f_found)
            ) else (
              some (x118_l3, x118_o_foundMany, x118_f_length, x118_f_found)
            )
          ) (fun (k118 : Int32 → Int32 → Int32 → (Nat → Int32) → (Nat → Int32) → Option (Int32 × Int32 × (Nat → Int32) × (Nat → Int32))) =>
            P_X11_saves_33 o_choices o_worlds f_values f_words f_word k118 QF (-9) (-9) 0 o_foundMany f_length f_found
          )
        )
      )
    )
def P_X11_contractBut_7 (p1 : Int32) (o_worlds : Int32) (f_sayings : (Nat → Int32)) (f_leaves : (Nat → Int32)) : Nat → Int32 → Int32 → Option (Int32)
  | 0, _, _ => none
  | n + 1, x7_l2, x7_l3 =>
    ck 0 3 (
      if (f_sayings (0 : Int32).toNatClampNeg) ≤ x7_l3 then (
        some (x7_l2)
      ) else (
        jn (fun (x36_s1 : Int32) =>
          P_X11_contractBut_7 p1 o_worlds f_sayings f_leaves n (x7_l2 &&& x36_s1) (x7_l3 + 1)
        ) (fun (j36 : Int32 → Option (Int32)) =>
          if x7_l3 = p1 then (
            (P_X11_allSets o_worlds).bind fun (z_24 : Int32) =>
              j36 z_24
          ) else (
            ck x7_l3 24 (
              j36 (f_leaves x7_l3.toNatClampNeg)
            )
          )
        )
      )
    )
def P_X11_contractBut (p1 : Int32) (o_worlds : Int32) (f_sayings : (Nat → Int32)) (f_leaves : (Nat → Int32)) : Option (Int32) :=
  (P_X11_allSets o_worlds).bind fun (z_1 : Int32) =>
    P_X11_contractBut_7 p1 o_worlds f_sayings f_leaves QF z_1 0
def P_X11_contract (o_worlds : Int32) (f_sayings : (Nat → Int32)) (f_leaves : (Nat → Int32)) : Option (Int32) :=
  (P_X11_contractBut (-9) o_worlds f_sayings f_leaves).bind fun (z_3 : Int32) =>
    some (z_3)
def P_X11_gap (p1 : Int32) (o_worlds : Int32) (f_sayings : (Nat → Int32)) (f_leaves : (Nat → Int32)) : Option (Int32) :=
  (P_X11_isSet p1 o_worlds).bind fun (z_2 : Int32) =>
    if z_2 = 0 then (
      some ((-1))
    ) else (
      (P_X11_contractBut (-9) o_worlds f_sayings f_leaves).bind fun (z_11 : Int32) =>
        some (z_11 &&& (p1 ^^^ (-1)))
    )
def P_X11_clause_38 (p1 : Int32) (o_worlds : Int32) (z_21 : Int32 × (Nat → Int32) × (Nat → Int32)) (z_27 : Int32) (k118 : Int32 → Option (Int32 × Int32 × (Nat → Int32) × (Nat → Int32))) : Nat → Int32 → Int32 → Option (Int32 × Int32 × (Nat → Int32) × (Nat → Int32))
  | 0, _, _ => none
  | n + 1, x38_l4, x38_l5 =>
    (P_X11_allSets o_worlds).bind fun (z_41 : Int32) =>
      if z_41 < x38_l5 then (
        k118 x38_l4
      ) else (
        ck x38_l5 512 (
          jn (fun (_ : Unit) =>
            jn (fun (_ : Unit) =>
              P_X11_clause_38 p1 o_worlds z_21 z_27 k118 n x38_l4 (x38_l5 + 1)
            ) (fun (j108 : Unit → Option (Int32 × Int32 × (Nat → Int32) × (Nat → Int32))) =>
              jn (fun (x110_s0 : Int32) =>
                P_X11_clause_38 p1 o_worlds z_21 z_27 k118 n x110_s0 (x38_l5 + 1)
              ) (fun (j110 : Int32 → Option (Int32 × Int32 × (Nat → Int32) × (Nat → Int32))) =>
                if (0 : Int32) = 0 then (
                  j108 ()
                ) else (
                  jn (fun (_ : Unit) =>
                    j110 x38_l5
                  ) (fun (j103 : Unit → Option (Int32 × Int32 × (Nat → Int32) × (Nat → Int32))) =>
                    if x38_l4 = (-9) then (
                      j103 ()
                    ) else (
                      ck x38_l5 512 (
                        ck x38_l4 512 (
                          if (z_21.2.1 x38_l4.toNatClampNeg) ≤ (z_21.2.1 x38_l5.toNatClampNeg) then (
                            j108 ()
                          ) else (
                            j103 ()
                          )
                        )
                      )
                    )
                  )
                )
              )
            )
          ) (fun (j71 : Unit → Option (Int32 × Int32 × (Nat → Int32) × (Nat → Int32))) =>
            jn (fun (x72_s0 : Int32) =>
              jn (fun (_ : Unit) =>
                P_X11_clause_38 p1 o_worlds z_21 z_27 k118 n x38_l4 (x38_l5 + 1)
              ) (fun (j108 : Unit → Option (Int32 × Int32 × (Nat → Int32) × (Nat → Int32))) =>
                jn (fun (x110_s0 : Int32) =>
                  P_X11_clause_38 p1 o_worlds z_21 z_27 k118 n x110_s0 (x38_l5 + 1)
                ) (fun (j110 : Int32 → Option (Int32 × Int32 × (Nat → Int32) × (Nat → Int32))) =>
                  if x72_s0 = 0 then (
                    j108 ()
                  ) else (
                    jn (fun (_ : Unit) =>
                      j110 x38_l5
                    ) (fun (j103 : Unit → Option (Int32 × Int32 × (Nat → Int32) × (Nat → Int32))) =>
                      if x38_l4 = (-9) then (
                        j103 ()
                      ) else (
                        ck x38_l5 512 (
                          ck x38_l4 512 (
                            if (z_21.2.1 x38_l4.toNatClampNeg) ≤ (z_21.2.1 x38_l5.toNatClampNeg) then (
                              j108 ()
                            ) else (
                              j103 ()
                            )
                          )
                        )
                      )
                    )
                  )
                )
              )
            ) (fun (j72 : Int32 → Option (Int32 × Int32 × (Nat → Int32) × (Nat → Int32))) =>
              if (z_21.2.1 x38_l5.toNatClampNeg) ≤ 0 then (
                j71 ()
              ) else (
                if (z_27 &&& x38_l5) = (z_27 &&& p1) then (
                  j72 1
                ) else (
                  j71 ()
                )
              )
            )
          )
        )
      )
def P_X11_clause (p1 : Int32) (p2 : Int32) (o_choices : Int32) (o_worlds : Int32) (o_foundMany : Int32) (f_values : (Nat → Int32)) (f_sayings : (Nat → Int32)) (f_leaves : (Nat → Int32)) (f_words : (Nat → Int32)) (f_word : (Nat → Int32)) (f_length : (Nat → Int32)) (f_found : (Nat → Int32)) : Option (Int32 × Int32 × (Nat → Int32) × (Nat → Int32)) :=
  (P_X11_isSet p1 o_worlds).bind fun (z_2 : Int32) =>
    if z_2 = 0 then (
      some ((-1), o_foundMany, f_length, f_found)
    ) else (
      (P_X11_in p2 0 1).bind fun (z_11 : Int32) =>
        if z_11 = 0 then (
          some ((-1), o_foundMany, f_length, f_found)
        ) else (
          (P_X11_findAll (-1) o_choices o_worlds o_foundMany f_values f_words f_word f_length f_found).bind fun (z_21 : Int32 × (Nat → Int32) × (Nat → Int32)) =>
            (P_X11_contractBut (-9) o_worlds f_sayings f_leaves).bind fun (z_27 : Int32) =>
              jn (fun (x118_l4 : Int32) =>
                jn (fun (_ : Unit) =>
                  some (x118_l4, z_21.1, z_21.2.1, z_21.2.2)
                ) (fun (j129 : Unit → Option (Int32 × Int32 × (Nat → Int32) × (Nat → Int32))) =>
                  if x118_l4 = (-9) then (
                    j129 ()
                  ) else (
                    if p2 = 0 then (
                      j129 ()
                    ) else (
                      ck x118_l4 512 (
                        some (z_21.2.1 x118_l4.toNatClampNeg, z_21.1, z_21.2.1, z_21.2.2)
                      )
                    )
                  )
                )
              ) (fun (k118 : Int32 → Option (Int32 × Int32 × (Nat → Int32) × (Nat → Int32))) =>
                P_X11_clause_38 p1 o_worlds z_21 z_27 k118 QF (-9) 0
              )
        )
    )
def P_X11_bitsIn_4 (p0 : Int32) : Nat → Int32 → Int32 → Option (Int32)
  | 0, _, _ => none
  | n + 1, x4_l1, x4_l2 =>
    if 9 ≤ x4_l2 then (
      some (x4_l1)
    ) else (
      P_X11_bitsIn_4 p0 n (x4_l1 + ((p0 >>> (x4_l2 &&& 31)) &&& 1)) (x4_l2 + 1)
    )
def P_X11_bitsIn (p0 : Int32) : Option (Int32) :=
  P_X11_bitsIn_4 p0 QF 0 0
def P_X11_lostBy (p1 : Int32) (o_worlds : Int32) (f_sayings : (Nat → Int32)) (f_leaves : (Nat → Int32)) : Option (Int32) :=
  (P_X11_contractBut p1 o_worlds f_sayings f_leaves).bind fun (z_2 : Int32) =>
    (P_X11_bitsIn z_2).bind fun (z_5 : Int32) =>
      (P_X11_contractBut (-9) o_worlds f_sayings f_leaves).bind fun (z_11 : Int32) =>
        (P_X11_bitsIn z_11).bind fun (z_14 : Int32) =>
          some (z_5 - z_14)
def P_X11_lost (p1 : Int32) (o_worlds : Int32) (f_sayings : (Nat → Int32)) (f_leaves : (Nat → Int32)) : Option (Int32) :=
  (P_X11_isSaying p1 f_sayings).bind fun (z_2 : Int32) =>
    if z_2 = 0 then (
      some ((-1))
    ) else (
      (P_X11_lostBy p1 o_worlds f_sayings f_leaves).bind fun (z_10 : Int32) =>
        some (z_10)
    )
def P_X11_alikeTo_35 (p1 : Int32) (p2 : Int32) (o_choices : Int32) (f_values : (Nat → Int32)) (x6_l5 : Int32) (k89 : Int32 → Option (Int32)) : Nat → Int32 → Int32 → Option (Int32)
  | 0, _, _ => none
  | n + 1, x35_l6, x35_l7 =>
    if o_choices ≤ x35_l7 then (
      k89 x35_l6
    ) else (
      jn (fun (_ : Unit) =>
        P_X11_alikeTo_35 p1 p2 o_choices f_values x6_l5 k89 n 0 (x35_l7 + 1)
      ) (fun (j80 : Unit → Option (Int32)) =>
        jn (fun (x81_s0 : Int32) =>
          P_X11_alikeTo_35 p1 p2 o_choices f_values x6_l5 k89 n x81_s0 (x35_l7 + 1)
        ) (fun (j81 : Int32 → Option (Int32)) =>
          if x35_l6 = 0 then (
            j80 ()
          ) else (
            jn (fun (_ : Unit) =>
              j81 1
            ) (fun (j76 : Unit → Option (Int32)) =>
              if ((p1 >>> (x35_l7 &&& 31)) &&& 1) = 0 then (
                j76 ()
              ) else (
                (P_X11_valueOf x6_l5 x35_l7 f_values).bind fun (z_63 : Int32) =>
                  (P_X11_valueOf p2 x35_l7 f_values).bind fun (z_70 : Int32) =>
                    if z_63 = z_70 then (
                      j76 ()
                    ) else (
                      j80 ()
                    )
              )
            )
          )
        )
      )
    )
def P_X11_alikeTo_6 (p1 : Int32) (p2 : Int32) (p3 : Int32) (o_choices : Int32) (o_worlds : Int32) (f_values : (Nat → Int32)) : Nat → Int32 → Int32 → Option (Int32)
  | 0, _, _ => none
  | n + 1, x6_l4, x6_l5 =>
    if o_worlds ≤ x6_l5 then (
      some (x6_l4)
    ) else (
      jn (fun (x30_s0 : Int32) =>
        jn (fun (x89_l6 : Int32) =>
          jn (fun (x104_s1 : Int32) =>
            P_X11_alikeTo_6 p1 p2 p3 o_choices o_worlds f_values n (x6_l4 ||| x104_s1) (x6_l5 + 1)
          ) (fun (j104 : Int32 → Option (Int32)) =>
            if x89_l6 = 0 then (
              j104 0
            ) else (
              j104 (1 <<< (x6_l5 &&& 31))
            )
          )
        ) (fun (k89 : Int32 → Option (Int32)) =>
          P_X11_alikeTo_35 p1 p2 o_choices f_values x6_l5 k89 QF x30_s0 0
        )
      ) (fun (j30 : Int32 → Option (Int32)) =>
        if ((p3 >>> (x6_l5 &&& 31)) &&& 1) = 1 then (
          j30 1
        ) else (
          j30 0
        )
      )
    )
def P_X11_alikeTo (p1 : Int32) (p2 : Int32) (p3 : Int32) (o_choices : Int32) (o_worlds : Int32) (f_values : (Nat → Int32)) : Option (Int32) :=
  P_X11_alikeTo_6 p1 p2 p3 o_choices o_worlds f_values QF 0 0
def P_X11_isSeen (p1 : Int32) (p2 : Int32) : Option (Int32) :=
  (P_X11_in p1 0 7).bind fun (z_4 : Int32) =>
    if z_4 = 0 then (
      some (0)
    ) else (
      (P_X11_in p2 0 7).bind fun (z_14 : Int32) =>
        if z_14 = 0 then (
          some (0)
        ) else (
          some (1)
        )
    )
def P_X11_common_58 (p1 : Int32) (p2 : Int32) (o_choices : Int32) (o_worlds : Int32) (f_values : (Nat → Int32)) (z_28 : Int32) (k112 : Int32 → Option (Int32)) : Nat → Int32 → Int32 → Option (Int32)
  | 0, _, _ => none
  | n + 1, x58_l5, x58_l7 =>
    if o_worlds ≤ x58_l7 then (
      k112 x58_l5
    ) else (
      jn (fun (x103_s1 : Int32) =>
        P_X11_common_58 p1 p2 o_choices o_worlds f_values z_28 k112 n (x58_l5 ||| x103_s1) (x58_l7 + 1)
      ) (fun (j103 : Int32 → Option (Int32)) =>
        if ((x58_l5 >>> (x58_l7 &&& 31)) &&& 1) = 1 then (
          (P_X11_alikeTo p1 x58_l7 z_28 o_choices o_worlds f_values).bind fun (z_86 : Int32) =>
            (P_X11_alikeTo p2 x58_l7 z_28 o_choices o_worlds f_values).bind fun (z_95 : Int32) =>
              j103 (z_86 ||| z_95)
        ) else (
          j103 0
        )
      )
    )
def P_X11_common_44 (p1 : Int32) (p2 : Int32) (o_choices : Int32) (o_worlds : Int32) (f_values : (Nat → Int32)) (z_28 : Int32) : Nat → Int32 → Int32 → Option (Int32)
  | 0, _, _ => none
  | n + 1, x44_l5, x44_l6 =>
    if x44_l5 = x44_l6 then (
      some (x44_l5)
    ) else (
      jn (fun (x112_l5 : Int32) =>
        P_X11_common_44 p1 p2 o_choices o_worlds f_values z_28 n x112_l5 x44_l5
      ) (fun (k112 : Int32 → Option (Int32)) =>
        P_X11_common_58 p1 p2 o_choices o_worlds f_values z_28 k112 QF x44_l5 0
      )
    )
def P_X11_common (p1 : Int32) (p2 : Int32) (p3 : Int32) (o_choices : Int32) (o_worlds : Int32) (f_values : (Nat → Int32)) (f_sayings : (Nat → Int32)) (f_leaves : (Nat → Int32)) : Option (Int32) :=
  (P_X11_isSeen p1 p2).bind fun (z_3 : Int32) =>
    if z_3 = 0 then (
      some ((-1))
    ) else (
      (P_X11_in p3 0 (o_worlds - 1)).bind fun (z_17 : Int32) =>
        if z_17 = 0 then (
          some ((-1))
        ) else (
          (P_X11_contractBut (-9) o_worlds f_sayings f_leaves).bind fun (z_28 : Int32) =>
            P_X11_common_44 p1 p2 o_choices o_worlds f_values z_28 QF (z_28 &&& (1 <<< (p3 &&& 31))) (-1)
        )
    )
def P_X11_knows (p1 : Int32) (p2 : Int32) (p3 : Int32) (o_choices : Int32) (o_worlds : Int32) (f_values : (Nat → Int32)) : Option (Int32) :=
  (P_X11_alikeTo p1 p2 p3 o_choices o_worlds f_values).bind fun (z_4 : Int32) =>
    if z_4 = (1 <<< (p2 &&& 31)) then (
      some (1)
    ) else (
      some (0)
    )
def P_X11_silent_5 (p1 : Int32) (p2 : Int32) (o_choices : Int32) (o_worlds : Int32) (f_values : (Nat → Int32)) : Nat → Int32 → Int32 → Option (Int32)
  | 0, _, _ => none
  | n + 1, x5_l3, x5_l4 =>
    if o_worlds ≤ x5_l4 then (
      some (x5_l3)
    ) else (
      jn (fun (_ : Unit) =>
        P_X11_silent_5 p1 p2 o_choices o_worlds f_values n (x5_l3 &&& (-1)) (x5_l4 + 1)
      ) (fun (j45 : Unit → Option (Int32)) =>
        jn (fun (x46_s1 : Int32) =>
          P_X11_silent_5 p1 p2 o_choices o_worlds f_values n (x5_l3 &&& x46_s1) (x5_l4 + 1)
        ) (fun (j46 : Int32 → Option (Int32)) =>
          if ((p2 >>> (x5_l4 &&& 31)) &&& 1) = 1 then (
            (P_X11_knows p1 x5_l4 p2 o_choices o_worlds f_values).bind fun (z_30 : Int32) =>
              if z_30 = 0 then (
                j45 ()
              ) else (
                j46 ((1 <<< (x5_l4 &&& 31)) ^^^ (-1))
              )
          ) else (
            j45 ()
          )
        )
      )
    )
def P_X11_silent (p1 : Int32) (p2 : Int32) (o_choices : Int32) (o_worlds : Int32) (f_values : (Nat → Int32)) : Option (Int32) :=
  P_X11_silent_5 p1 p2 o_choices o_worlds f_values QF p2 0
def P_X11_talk_48 (p1 : Int32) (p2 : Int32) (p3 : Int32) (o_choices : Int32) (o_worlds : Int32) (f_values : (Nat → Int32)) : Nat → Int32 → Int32 → Option (Int32)
  | 0, _, _ => none
  | n + 1, x48_l4, x48_l5 =>
    if 30 < x48_l5 then (
      some ((-9))
    ) else (
      jn (fun (x68_s0 : Int32) =>
        (P_X11_knows x68_s0 p3 x48_l4 o_choices o_worlds f_values).bind fun (z_76 : Int32) =>
          if z_76 = 0 then (
            (P_X11_silent x68_s0 x48_l4 o_choices o_worlds f_values).bind fun (z_90 : Int32) =>
              P_X11_talk_48 p1 p2 p3 o_choices o_worlds f_values n z_90 (x48_l5 + 1)
          ) else (
            some (x48_l5)
          )
      ) (fun (j68 : Int32 → Option (Int32)) =>
        if (x48_l5 - x48_l5 / 2 * 2) = 1 then (
          j68 p1
        ) else (
          j68 p2
        )
      )
    )
def P_X11_talk (p1 : Int32) (p2 : Int32) (p3 : Int32) (o_choices : Int32) (o_worlds : Int32) (f_values : (Nat → Int32)) (f_sayings : (Nat → Int32)) (f_leaves : (Nat → Int32)) : Option (Int32) :=
  (P_X11_isSeen p1 p2).bind fun (z_3 : Int32) =>
    if z_3 = 0 then (
      some ((-1))
    ) else (
      (P_X11_in p3 0 (o_worlds - 1)).bind fun (z_17 : Int32) =>
        if z_17 = 0 then (
          some ((-1))
        ) else (
          (P_X11_contractBut (-9) o_worlds f_sayings f_leaves).bind fun (z_28 : Int32) =>
            if ((z_28 >>> (p3 &&& 31)) &&& 1) = 0 then (
              some ((-2))
            ) else (
              P_X11_talk_48 p1 p2 p3 o_choices o_worlds f_values QF z_28 1
            )
        )
    )
def P_X11_silence_32 (p1 : Int32) (p2 : Int32) (p3 : Int32) (o_choices : Int32) (o_worlds : Int32) (f_values : (Nat → Int32)) : Nat → Int32 → Int32 → Option (Int32)
  | 0, _, _ => none
  | n + 1, x32_l4, x32_l5 =>
    if p3 < x32_l5 then (
      some (x32_l4)
    ) else (
      jn (fun (x52_s1 : Int32) =>
        (P_X11_silent x52_s1 x32_l4 o_choices o_worlds f_values).bind fun (z_54 : Int32) =>
          P_X11_silence_32 p1 p2 p3 o_choices o_worlds f_values n z_54 (x32_l5 + 1)
      ) (fun (j52 : Int32 → Option (Int32)) =>
        if (x32_l5 - x32_l5 / 2 * 2) = 1 then (
          j52 p1
        ) else (
          j52 p2
        )
      )
    )
def P_X11_silence (p1 : Int32) (p2 : Int32) (p3 : Int32) (o_choices : Int32) (o_worlds : Int32) (f_values : (Nat → Int32)) (f_sayings : (Nat → Int32)) (f_leaves : (Nat → Int32)) : Option (Int32) :=
  (P_X11_isSeen p1 p2).bind fun (z_3 : Int32) =>
    if z_3 = 0 then (
      some ((-1))
    ) else (
      (P_X11_in p3 0 30).bind fun (z_13 : Int32) =>
        if z_13 = 0 then (
          some ((-1))
        ) else (
          (P_X11_contractBut (-9) o_worlds f_sayings f_leaves).bind fun (z_24 : Int32) =>
            P_X11_silence_32 p1 p2 p3 o_choices o_worlds f_values QF z_24 1
        )
    )
def P_X11_mark (p1 : Int32) (p2 : Int32) (o_trace : Int64) (o_choices : Int32) (o_worlds : Int32) (o_foundMany : Int32) (f_values : (Nat → Int32)) (f_sayings : (Nat → Int32)) (f_leaves : (Nat → Int32)) (f_signs : (Nat → Int32)) (f_words : (Nat → Int32)) (f_word : (Nat → Int32)) (f_length : (Nat → Int32)) (f_found : (Nat → Int32)) : Option (Int32 × Int64 × Int32 × (Nat → Int32) × (Nat → Int32)) :=
  (P_X11_in p1 0 5).bind fun (z_3 : Int32) =>
    if z_3 = 0 then (
      some ((-1000000), o_trace, o_foundMany, f_length, f_found)
    ) else (
      (P_X11_isSaying p2 f_sayings).bind fun (z_11 : Int32) =>
        if z_11 = 0 then (
          some ((-1000000), o_trace, o_foundMany, f_length, f_found)
        ) else (
          if p1 = 0 then (
            ck p2 24 (
              some (f_signs p2.toNatClampNeg, o_trace + 1, o_foundMany, f_length, f_found)
            )
          ) else (
          if p1 = 1 then (
            ck p2 24 (
              ck p2 24 (
                (P_X11_bitsIn (f_leaves p2.toNatClampNeg)).bind fun (z_97 : Int32) =>
                  some ((f_signs p2.toNatClampNeg) + z_97, o_trace + 11, o_foundMany, f_length, f_found)
              )
            )
          ) else (
          if p1 = 2 then (
            ck p2 24 (
              some (2 * (f_signs p2.toNatClampNeg), o_trace + 101, o_foundMany, f_length, f_found)
            )
          ) else (
          if p1 = 3 then (
            ck p2 24 (
              (P_X11_lostBy p2 o_worlds f_sayings f_leaves).bind fun (z_145 : Int32) =>
                some ((2 * (f_signs p2.toNatClampNeg)) + z_145, o_trace + 1101, o_foundMany, f_length, f_found)
            )
          ) else (
          if p1 = 4 then (
            ck p2 24 (
              ck p2 24 (
                (P_X11_bitsIn (f_leaves p2.toNatClampNeg)).bind fun (z_174 : Int32) =>
                  some (((f_signs p2.toNatClampNeg) + z_174) - p2, o_trace + 10011, o_foundMany, f_length, f_found)
              )
            )
          ) else (
            (P_X11_findAll (-1) o_choices o_worlds o_foundMany f_values f_words f_word f_length f_found).bind fun (z_195 : Int32 × (Nat → Int32) × (Nat → Int32)) =>
              ck p2 24 (
                ck p2 24 (
                  ck (f_leaves p2.toNatClampNeg) 512 (
                    some ((f_signs p2.toNatClampNeg) + (z_195.2.1 (f_leaves p2.toNatClampNeg).toNatClampNeg), o_trace + 100001, z_195.1, z_195.2.1, z_195.2.2)
                  )
                )
              )
          )))))
        )
    )
def P_X11_copy_84 (p1 : Int32) (p2 : Int32) (f_sayings : (Nat → Int32)) (f_words : (Nat → Int32)) (x82_f_leaves : (Nat → Int32)) (x82_f_signs : (Nat → Int32)) : Nat → Int32 → (Nat → Int32) → Option ((Nat → Int32) × (Nat → Int32) × (Nat → Int32) × (Nat → Int32) × (Nat → Int32))
  | 0, _, _ => none
  | n + 1, x84_l3, x84_f_word =>
    if 3 ≤ x84_l3 then (
      some (upd f_sayings p2.toNatClampNeg (f_sayings p1.toNatClampNeg), x82_f_leaves, x82_f_signs, upd f_words p2.toNatClampNeg (f_words p1.toNatClampNeg), x84_f_word)
    ) else (
      ck ((3 * p1) + x84_l3) 9 (
        ck ((3 * p2) + x84_l3) 9 (
          P_X11_copy_84 p1 p2 f_sayings f_words x82_f_leaves x82_f_signs n (x84_l3 + 1) (upd x84_f_word ((3 * p2) + x84_l3).toNatClampNeg (x84_f_word ((3 * p1) + x84_l3).toNatClampNeg))
        )
      )
    )
def P_X11_copy_26 (p1 : Int32) (p2 : Int32) (k82 : (Nat → Int32) → (Nat → Int32) → Option ((Nat → Int32) × (Nat → Int32) × (Nat → Int32) × (Nat → Int32) × (Nat → Int32))) : Nat → Int32 → (Nat → Int32) → (Nat → Int32) → Option ((Nat → Int32) × (Nat → Int32) × (Nat → Int32) × (Nat → Int32) × (Nat → Int32))
  | 0, _, _, _ => none
  | n + 1, x26_l3, x26_f_leaves, x26_f_signs =>
    if 8 ≤ x26_l3 then (
      k82 x26_f_leaves x26_f_signs
    ) else (
      ck ((8 * p1) + x26_l3) 24 (
        ck ((8 * p2) + x26_l3) 24 (
          ck ((8 * p1) + x26_l3) 24 (
            ck ((8 * p2) + x26_l3) 24 (
              P_X11_copy_26 p1 p2 k82 n (x26_l3 + 1) (upd x26_f_leaves ((8 * p2) + x26_l3).toNatClampNeg (x26_f_leaves ((8 * p1) + x26_l3).toNatClampNeg)) (upd x26_f_signs ((8 * p2) + x26_l3).toNatClampNeg (x26_f_signs ((8 * p1) + x26_l3).toNatClampNeg))
            )
          )
        )
      )
    )
def P_X11_copy (p1 : Int32) (p2 : Int32) (f_sayings : (Nat → Int32)) (f_leaves : (Nat → Int32)) (f_signs : (Nat → Int32)) (f_words : (Nat → Int32)) (f_word : (Nat → Int32)) : Option ((Nat → Int32) × (Nat → Int32) × (Nat → Int32) × (Nat → Int32) × (Nat → Int32)) :=
  ck p1 3 (
    ck p2 3 (
      ck p1 3 (
        ck p2 3 (
          jn (fun (x82_f_leaves : (Nat → Int32)) (x82_f_signs : (Nat → Int32)) =>
            P_X11_copy_84 p1 p2 f_sayings f_words x82_f_leaves x82_f_signs QF 0 f_word
          ) (fun (k82 : (Nat → Int32) → (Nat → Int32) → Option ((Nat → Int32) × (Nat → Int32) × (Nat → Int32) × (Nat → Int32) × (Nat → Int32))) =>
            P_X11_copy_26 p1 p2 k82 QF 0 f_leaves f_signs
          )
        )
      )
    )
  )
def P_X11_keep (p1 : Int32) (f_sayings : (Nat → Int32)) (f_leaves : (Nat → Int32)) (f_signs : (Nat → Int32)) (f_words : (Nat → Int32)) (f_word : (Nat → Int32)) (f_isKept : (Nat → Int32)) : Option (Int32 × (Nat → Int32) × (Nat → Int32) × (Nat → Int32) × (Nat → Int32) × (Nat → Int32) × (Nat → Int32)) :=
  (P_X11_in p1 0 1).bind fun (z_3 : Int32) =>
    if z_3 = 0 then (
      some ((-1), f_sayings, f_leaves, f_signs, f_words, f_word, f_isKept)
    ) else (
      (P_X11_copy 0 (1 + p1) f_sayings f_leaves f_signs f_words f_word).bind fun (z_16 : (Nat → Int32) × (Nat → Int32) × (Nat → Int32) × (Nat → Int32) × (Nat → Int32)) =>
        ck p1 2 (
          ck 0 3 (
            some (z_16.1 (0 : Int32).toNatClampNeg, z_16.1, z_16.2.1, z_16.2.2.1, z_16.2.2.2.1, z_16.2.2.2.2, upd f_isKept p1.toNatClampNeg (vp_nar .boolean 1))
          )
        )
    )
def P_X11_back (p1 : Int32) (f_sayings : (Nat → Int32)) (f_leaves : (Nat → Int32)) (f_signs : (Nat → Int32)) (f_words : (Nat → Int32)) (f_word : (Nat → Int32)) (f_isKept : (Nat → Int32)) : Option (Int32 × (Nat → Int32) × (Nat → Int32) × (Nat → Int32) × (Nat → Int32) × (Nat → Int32)) :=
  (P_X11_in p1 0 1).bind fun (z_3 : Int32) =>
    if z_3 = 0 then (
      some ((-1), f_sayings, f_leaves, f_signs, f_words, f_word)
    ) else (
      ck p1 2 (
        if (f_isKept p1.toNatClampNeg) = 0 then (
          some ((-2), f_sayings, f_leaves, f_signs, f_words, f_word)
        ) else (
          (P_X11_copy (1 + p1) 0 f_sayings f_leaves f_signs f_words f_word).bind fun (z_28 : (Nat → Int32) × (Nat → Int32) × (Nat → Int32) × (Nat → Int32) × (Nat → Int32)) =>
            ck 0 3 (
              some (z_28.1 (0 : Int32).toNatClampNeg, z_28.1, z_28.2.1, z_28.2.2.1, z_28.2.2.2.1, z_28.2.2.2.2)
            )
        )
      )
    )
def P_X11_count (p1 : Int32) (o_typed : Int32) (o_choices : Int32) (o_worlds : Int32) (f_sayings : (Nat → Int32)) (f_words : (Nat → Int32)) : Option (Int32) :=
  if p1 = 0 then (
    some (o_choices)
  ) else (
    if p1 = 1 then (
      some (o_worlds)
    ) else (
      if p1 = 2 then (
        ck 0 3 (
          some (f_sayings (0 : Int32).toNatClampNeg)
        )
      ) else (
        if p1 = 3 then (
          ck 0 3 (
            some (f_words (0 : Int32).toNatClampNeg)
          )
        ) else (
          if p1 = 4 then (
            some (o_typed)
          ) else (
            some ((-1))
          )
        )
      )
    )
  )
def P_X11_trace (o_trace : Int64) : Option (Int64) :=
  some (o_trace)
