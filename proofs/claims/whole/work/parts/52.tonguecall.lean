/-! laying out, and the call tongue -/
theorem valuesOf_v {k c : Nat} {vs : Nat → Nat} {fv : Nat → Int32} (h3 : k ≤ 3) (hf : ∀ i, i < k → fv i = nI (vs i)) (hc : c < k) : P_X8_valuesOf (nI c) (nI k) fv = some (nI (vs c)) := by
  unfold P_X8_valuesOf
  rw [isChoice_in hc (by omega), Option.bind_some, if_neg one_ne, at_in _ (show c < 3 by omega) (by decide), Option.bind_some, hf c hc]
theorem ten {c v : Nat} : (10 * nI c) + nI v = nI (10 * c + v) := by rw [e10, pk_mul, nI_add]
theorem lay_zero {k c : Nat} {vs : Nat → Nat} {fv : Nat → Int32} {K : (Nat → Int32) → Option (Nat → Int32)} (h3 : k ≤ 3) (hf : ∀ i, i < k → fv i = nI (vs i)) (h9 : ∀ i, vs i ≤ 9) (hc : c < k) : ∀ (m v f : Nat) (fl : Nat → Int32), v + m = vs c → m < f → ∃ fl', P_X8_layOutChoice_2 (nI c) (nI k) fv K f (nI v) fl = K fl' ∧ (∀ j, (j < 10 * c + v ∨ 10 * c + vs c ≤ j) → fl' j = fl j) ∧ ∀ u, v ≤ u → u < vs c → fl' (10 * c + u) = 0 := by
  have hv9 := h9 c
  intro m
  induction m with
  | zero =>
    intro v f fl hi hf2
    obtain ⟨f, rfl⟩ : ∃ q, f = q + 1 := ⟨f - 1, by omega⟩
    rw [P_X8_layOutChoice_2, valuesOf_v h3 hf hc, Option.bind_some, if_pos (nI_le (by omega) (by omega))]
    exact ⟨fl, rfl, fun _ _ => rfl, fun u g1 g2 => absurd g2 (by omega)⟩
  | succ m ih =>
    intro v f fl hi hf2
    obtain ⟨f, rfl⟩ : ∃ q, f = q + 1 := ⟨f - 1, by omega⟩
    rw [P_X8_layOutChoice_2, valuesOf_v h3 hf hc, Option.bind_some, if_neg (nI_ge (by omega) (by omega)), ten, put_in _ _ (show 10 * c + v < 30 by omega) (by decide), Option.bind_some, nI_1]
    obtain ⟨fl', a1, a2, a3⟩ := ih (v + 1) f (upd fl (10 * c + v) 0) (by omega) (by omega)
    refine ⟨fl', a1, fun j hj => ?_, fun u g1 g2 => ?_⟩
    · rw [a2 j (by omega), pk_un (by omega)]
    · by_cases e : u = v
      · rw [e, a2 _ (by omega), pk_us]
      · exact a3 u (by omega) g2
theorem tick {s w : Nat} (hs : 1 ≤ s) : (w % s + 1 = s → (w + 1) / s = w / s + 1 ∧ (w + 1) % s = 0) ∧ (w % s + 1 ≠ s → (w + 1) / s = w / s ∧ (w + 1) % s = w % s + 1) := by
  have h1 := Nat.div_add_mod w s
  have h2 := Nat.mod_lt w hs
  constructor
  · intro e
    exact (Nat.div_mod_unique hs).mpr ⟨by rw [Nat.mul_add]; omega, hs⟩
  · intro e
    exact (Nat.div_mod_unique hs).mpr ⟨by omega, by omega⟩
theorem turn {q v : Nat} (hv : 1 ≤ v) : (q + 1) % v = if q % v + 1 < v then q % v + 1 else 0 := by
  by_cases e : q % v + 1 = v
  · rw [((tick hv).1 e).2, if_neg (by omega)]
  · have := Nat.mod_lt q hv
    rw [((tick hv).2 e).2, if_pos (by omega)]
theorem lay_worlds {k W c : Nat} {vs : Nat → Nat} {fv : Nat → Int32} (h : TG k vs W) (hf : ∀ i, i < k → fv i = nI (vs i)) (hc : c < k) : ∀ (m w f : Nat) (fl : Nat → Int32), w + m = W → m < f → (∀ v, v < vs c → fl (10 * c + v) = nI (ofB (fun u => vl vs u c == v) w)) → ∃ fl', P_X8_layOutChoice_39 (nI c) (nI (stp vs c)) (nI k) (nI W) fv f (nI (vl vs w c)) (nI (w % stp vs c)) (nI w) fl = some fl' ∧ (∀ j, (j < 10 * c ∨ 10 * c + vs c ≤ j) → fl' j = fl j) ∧ ∀ v, v < vs c → fl' (10 * c + v) = nI (mk vs W c v) := by
  have h9 := h.le
  have h3 := h.k3
  have hp := h.pos c
  have hs := stp_pos (fun i => (h.pos i).1) c
  intro m
  induction m with
  | zero =>
    intro w f fl hi hf2 hI
    obtain ⟨f, rfl⟩ : ∃ q, f = q + 1 := ⟨f - 1, by omega⟩
    rw [P_X8_layOutChoice_39, if_pos (nI_le (by omega) (by omega))]
    refine ⟨fl, rfl, fun _ _ => rfl, fun v hv => ?_⟩
    rw [hI v hv, show w = W by omega]; rfl
  | succ m ih =>
    intro w f fl hi hf2 hI
    obtain ⟨f, rfl⟩ : ∃ q, f = q + 1 := ⟨f - 1, by omega⟩
    have hl := vl_lt h w c
    have hm := Nat.mod_lt w hs
    have hst : stp vs c ≤ 9 := by
      have : stp vs (c + 1) ≤ 9 := by
        have e : ∀ j, stp vs (c + 1) ≤ stp vs (c + 1 + j) := by
          intro j
          induction j with
          | zero => exact Nat.le_refl _
          | succ j ihj =>
            rw [← Nat.add_assoc, stp]
            exact Nat.le_trans ihj (Nat.le_mul_of_pos_right _ (h.pos _).1)
        have := e (k - (c + 1))
        rw [show c + 1 + (k - (c + 1)) = k by omega, ← h.2.2.2.1] at this
        omega
      rw [stp] at this
      exact Nat.le_trans (Nat.le_mul_of_pos_right _ hp.1) this
    rw [P_X8_layOutChoice_39, if_neg (nI_ge (by omega) (by omega)), ten, at_in _ (show 10 * c + vl vs w c < 30 by omega) (by decide), Option.bind_some, nx_one (show w < 32 by omega), hI _ hl, nx_or, put_in _ _ (show 10 * c + vl vs w c < 30 by omega) (by decide), Option.bind_some, jn, nI_1]
    have nx := ih (w + 1) f (upd fl (10 * c + vl vs w c) (nI (ofB (fun u => vl vs u c == vl vs w c) w ||| 2 ^ w))) (by omega) (by omega) (fun v hv => by
      by_cases e : v = vl vs w c
      · rw [e, pk_us, ofB, if_pos (by rw [beq_self_eq_true])]
      · rw [pk_un (by omega), hI v hv, ofB, if_neg (by rw [beq_iff_eq]; exact fun z => e z.symm), Nat.or_zero])
    have goal : ∃ fl', P_X8_layOutChoice_39 (nI c) (nI (stp vs c)) (nI k) (nI W) fv f (nI (vl vs (w + 1) c)) (nI ((w + 1) % stp vs c)) (nI (w + 1)) (upd fl (10 * c + vl vs w c) (nI (ofB (fun u => vl vs u c == vl vs w c) w ||| 2 ^ w))) = some fl' ∧ (∀ j, (j < 10 * c ∨ 10 * c + vs c ≤ j) → fl' j = fl j) ∧ ∀ v, v < vs c → fl' (10 * c + v) = nI (mk vs W c v) := by
      obtain ⟨fl', a1, a2, a3⟩ := nx
      exact ⟨fl', a1, fun j hj => by rw [a2 j hj, pk_un (by omega)], a3⟩
    by_cases e : w % stp vs c + 1 = stp vs c
    · obtain ⟨t1, t2⟩ := (tick hs).1 e
      rw [if_pos (show nI (w % stp vs c + 1) = nI (stp vs c) by rw [e]), valuesOf_v h3 hf hc, Option.bind_some, nI_1, nI_1]
      have tv := turn (q := w / stp vs c) hp.1
      have v1 : vl vs (w + 1) c = if vl vs w c + 1 < vs c then vl vs w c + 1 else 0 := by
        rw [vl, dv_stp, t1, tv, vl, dv_stp]
      rw [t2, v1] at goal
      show ∃ fl', jn _ _ = _ ∧ _
      rw [jn]
      by_cases g : vl vs w c + 1 < vs c
      · rw [if_neg (nI_ge g (by omega))]
        rw [if_pos g] at goal
        exact goal
      · rw [if_pos (nI_le (by omega) (by omega))]
        rw [if_neg g] at goal
        exact goal
    · obtain ⟨t1, t2⟩ := (tick hs).2 e
      rw [if_neg (show ¬ nI (w % stp vs c + 1) = nI (stp vs c) from fun z => e ((nI_eq (by omega) (by omega)).mp z)), nI_1]
      have v1 : vl vs (w + 1) c = vl vs w c := by
        rw [vl, dv_stp, t1, vl, dv_stp]
      rw [t2, v1] at goal
      exact goal
theorem lay_all {k W : Nat} {vs : Nat → Nat} {fv : Nat → Int32} (h : TG k vs W) (hf : ∀ i, i < k → fv i = nI (vs i)) : ∀ (m c f : Nat) (fl : Nat → Int32), c + m = k → m < f → (∀ a v, a < c → v < vs a → fl (10 * a + v) = nI (mk vs W a v)) → ∃ fl', P_X8_layOut_4 (nI k) (nI W) fv f (nI (stp vs c)) (nI c) fl = some fl' ∧ ∀ a v, a < k → v < vs a → fl' (10 * a + v) = nI (mk vs W a v) := by
  have h9 := h.le
  have h3 := h.k3
  intro m
  induction m with
  | zero =>
    intro c f fl hi hf2 hI
    obtain ⟨f, rfl⟩ : ∃ q, f = q + 1 := ⟨f - 1, by omega⟩
    rw [P_X8_layOut_4, if_pos (nI_le (by omega) (by omega))]
    exact ⟨fl, rfl, fun a v ha hv => hI a v (by omega) hv⟩
  | succ m ih =>
    intro c f fl hi hf2 hI
    obtain ⟨f, rfl⟩ : ∃ q, f = q + 1 := ⟨f - 1, by omega⟩
    have hp := h.pos c
    rw [P_X8_layOut_4, if_neg (nI_ge (by omega) (by omega))]
    unfold P_X8_layOutChoice
    rw [jn]
    obtain ⟨l1, a1, a2, a3⟩ := lay_zero (K := fun x => P_X8_layOutChoice_39 (nI c) (nI (stp vs c)) (nI k) (nI W) fv QF 0 0 0 x) h3 hf (fun i => (h.pos i).2) (show c < k by omega) (vs c) 0 QF fl (by omega) (by unfold QF; omega)
    obtain ⟨l2, b1, b2, b3⟩ := lay_worlds h hf (show c < k by omega) W 0 QF l1 (by omega) (by unfold QF; omega) (fun v hv => a3 v (Nat.zero_le _) hv)
    have z1 : vl vs 0 c = 0 := by rw [vl, dv_stp, Nat.zero_div, Nat.zero_mod]
    rw [z1, Nat.zero_mod] at b1
    have a1' : P_X8_layOutChoice_2 (nI c) (nI k) fv _ QF 0 fl = _ := a1
    have b1' : P_X8_layOutChoice_39 (nI c) (nI (stp vs c)) (nI k) (nI W) fv QF 0 0 0 l1 = some l2 := b1
    rw [a1', b1', Option.bind_some, valuesOf_v h3 hf (by omega), Option.bind_some, nI_1, pk_mul]
    refine ih (c + 1) f l2 (by omega) (by omega) (fun a v ha hv => ?_)
    by_cases e : a = c
    · rw [e]; rw [e] at hv; exact b3 v hv
    · have := (h.pos a).2
      rw [b2 _ (by omega), a2 _ (by omega)]
      exact hI a v (by omega) hv
theorem layOut_eq {k W : Nat} {vs : Nat → Nat} {fv : Nat → Int32} (h : TG k vs W) (hf : ∀ i, i < k → fv i = nI (vs i)) (fl : Nat → Int32) : ∃ fl', P_X8_layOut (nI k) (nI W) fv fl = some fl' ∧ CT k vs W fv fl' := by
  have h3 := h.k3
  obtain ⟨fl', a1, a2⟩ := lay_all h hf k 0 QF fl (by omega) (by unfold QF; omega) (fun a v ha _ => absurd ha (Nat.not_lt_zero a))
  exact ⟨fl', a1, h, hf, a2⟩
/-! the class's call -/
theorem faultT_unf (a b c d n : Int32) (fB fv : Nat → Int32) : P_X2_faultOfTongue a b c d n fB fv = P_X2_faultOfTongue_16 n fB kp kp kp kp QF 1 0 0 0 0 0 fv := by
  unfold P_X2_faultOfTongue P_X7_begin
  rw [Option.bind_some, jn, jn, jn, jn]
  rfl
theorem add_loop {c : Nat} {d : Nat → Nat} {z1 z3 z4 z5 : Int32} {z6 : Nat → Int32} {K : Int32 → Int32 → (Nat → Int32) → Option (Int32 × Int32 × Int32 × Int32 × Int32 × (Nat → Int32) × (Nat → Int32) × Int32 × Int32 × Int32 × Int32 × Int32 × Int32 × Int32 × Int32 × Int32 × Int32 × Int32 × Int32 × Int32 × (Nat → Int32) × Int32)} (h3 : c ≤ 3) (h6 : ∀ j, j < c → z6 j = nI (d j)) : ∀ (m i f : Nat) (sv : Nat → Int32), i + m = c → m < f → (∀ j, j < i → sv j = nI (d j)) → ∃ sv', P_X10_tongue_27 (z1, nI c, z3, z4, z5, z6) K f (nI i) (nI i) (nI (stp d i)) sv = K (nI c) (nI (stp d c)) sv' ∧ ∀ j, j < c → sv' j = nI (d j) := by
  intro m
  induction m with
  | zero =>
    intro i f sv hi hf hs
    obtain ⟨f, rfl⟩ : ∃ q, f = q + 1 := ⟨f - 1, by omega⟩
    rw [P_X10_tongue_27]
    unfold P_X2_choicesRead
    rw [Option.bind_some, if_pos (nI_le (by omega) (by omega)), show i = c by omega]
    exact ⟨sv, rfl, fun j hj => hs j (by omega)⟩
  | succ m ih =>
    intro i f sv hi hf hs
    obtain ⟨f, rfl⟩ : ∃ q, f = q + 1 := ⟨f - 1, by omega⟩
    rw [P_X10_tongue_27]
    unfold P_X2_choicesRead P_X2_valuesRead P_X8_addChoice
    rw [Option.bind_some, if_neg (nI_ge (by omega) (by omega)), at_in _ (show i < 3 by omega) (by decide), Option.bind_some, Option.bind_some, put_in _ _ (show i < 3 by omega) (by decide), Option.bind_some, Option.bind_some, nI_1]
    show ∃ sv', P_X10_tongue_27 _ K f (nI (i + 1)) (nI (i + 1)) (nI (stp d i) * z6 i) (upd sv i (z6 i)) = _ ∧ _
    rw [h6 i (by omega), pk_mul]
    refine ih (i + 1) f _ (by omega) (by omega) (fun j hj => ?_)
    by_cases e : j = i
    · rw [e, pk_us]
    · rw [pk_un e]; exact hs j (by omega)
/-! the model's call -/
def tK (o_typed o_choices o_worlds : Int32) (f_values f_sayings f_words f_isKept : Nat → Int32) : KT := fun (x145_l1 : Int32) (x145_l2 : Int32) (x145_o_at : Int32) (x145_o_start : Int32) (x145_o_sort : Int32) (x145_o_value : Int32) (x145_o_fault : Int32) (x145_f_draft : (Nat → Int32)) =>
      if x145_o_fault = (-9) then (
        jn (fun (x206_f_values : (Nat → Int32)) =>
          ck 0 3 (
            ck 0 3 (
              ck 0 2 (
                ck 1 2 (
                  some (x145_l1, 0, x145_l1, x145_l2, x145_o_at, x145_o_start, x145_o_sort, x145_o_value, x145_o_fault, x206_f_values, x145_f_draft, upd f_sayings (0 : Int32).toNatClampNeg 0, upd f_words (0 : Int32).toNatClampNeg 0, upd (upd f_isKept (0 : Int32).toNatClampNeg (vp_nar .boolean 0)) (1 : Int32).toNatClampNeg (vp_nar .boolean 0))
                )
              )
            )
          )
        ) (fun (k206 : (Nat → Int32) → Option (Int32 × Int32 × Int32 × Int32 × Int32 × Int32 × Int32 × Int32 × Int32 × (Nat → Int32) × (Nat → Int32) × (Nat → Int32) × (Nat → Int32) × (Nat → Int32))) =>
          P_X11_tongue_174 x145_l1 x145_f_draft k206 QF 0 f_values
        )
      ) else (
        some ((-10) - x145_o_fault, o_typed, o_choices, o_worlds, x145_o_at, x145_o_start, x145_o_sort, x145_o_value, x145_o_fault, f_values, x145_f_draft, f_sayings, f_words, f_isKept)
      )
theorem tongue_unf (o_typed o_choices o_worlds a b c d e : Int32) (f_text f_values f_draft f_sayings f_words f_isKept : Nat → Int32) : P_X11_tongue o_typed o_choices o_worlds a b c d e f_text f_values f_draft f_sayings f_words f_isKept = (P_X11_next o_typed 0 b c d f_text).bind fun (z16 : Int32 × Int32 × Int32 × Int32) => P_X11_tongue_19 o_typed f_text (tK o_typed o_choices o_worlds f_values f_sayings f_words f_isKept) QF 0 1 z16.1 z16.2.1 z16.2.2.1 z16.2.2.2 (-9) f_draft := by
  unfold P_X11_tongue
  refine congrArg _ (funext fun z => ?_)
  rw [jn]
  rfl
theorem draft_loop {c : Nat} {dr : Nat → Int32} {K : (Nat → Int32) → OT} (h3 : c ≤ 3) : ∀ (m j f : Nat) (mv : Nat → Int32), j + m = 3 → m < f → ∃ mv', P_X11_tongue_174 (nI c) dr K f (nI j) mv = K mv' ∧ (∀ i, i < j → mv' i = mv i) ∧ ∀ i, j ≤ i → i < 3 → mv' i = if i < c then dr i else 1 := by
  intro m
  induction m with
  | zero =>
    intro j f mv hi hf
    obtain ⟨f, rfl⟩ : ∃ q, f = q + 1 := ⟨f - 1, by omega⟩
    rw [P_X11_tongue_174, if_pos (show (3 : Int32) ≤ nI j from nI_le (a := 3) (by omega) (by omega))]
    exact ⟨mv, rfl, fun _ _ => rfl, fun i g1 g2 => absurd g2 (by omega)⟩
  | succ m ih =>
    intro j f mv hi hf
    obtain ⟨f, rfl⟩ : ∃ q, f = q + 1 := ⟨f - 1, by omega⟩
    rw [P_X11_tongue_174, if_neg (show ¬ (3 : Int32) ≤ nI j from nI_ge (b := 3) (by omega) (by decide)), jn, nI_1]
    have go : ∀ x, ∃ mv', ck (nI j) 3 (P_X11_tongue_174 (nI c) dr K f (nI (j + 1)) (upd mv (nI j).toNatClampNeg x)) = K mv' ∧ (∀ i, i < j → mv' i = mv i) ∧ mv' j = x ∧ ∀ i, j + 1 ≤ i → i < 3 → mv' i = if i < c then dr i else 1 := by
      intro x
      rw [ck_in _ (by omega) (by decide), nI_clamp (by omega)]
      obtain ⟨mv', a1, a2, a3⟩ := ih (j + 1) f (upd mv j x) (by omega) (by omega)
      exact ⟨mv', a1, fun i hi => by rw [a2 i (by omega), pk_un (by omega)], by rw [a2 j (by omega), pk_us], a3⟩
    by_cases e : j < c
    · rw [if_neg (nI_ge e (by omega)), ck_in _ (by omega) (by decide), nI_clamp (show j < 2 ^ 31 by omega)]
      obtain ⟨mv', a1, a2, a3, a4⟩ := go (dr j)
      rw [nI_clamp (show j < 2 ^ 31 by omega)] at a1
      refine ⟨mv', a1, a2, fun i g1 g2 => ?_⟩
      by_cases q : i = j
      · rw [q, if_pos e, a3]
      · exact a4 i (by omega) g2
    · rw [if_pos (nI_le (by omega) (by omega))]
      obtain ⟨mv', a1, a2, a3, a4⟩ := go 1
      refine ⟨mv', a1, a2, fun i g1 g2 => ?_⟩
      by_cases q : i = j
      · rw [q, if_neg e, a3]
      · exact a4 i (by omega) g2
theorem tK_fault {o_typed o_choices o_worlds : Int32} {f_values f_sayings f_words f_isKept : Nat → Int32} {c w a st so va fa : Int32} {dr : Nat → Int32} (h : ¬ fa = -9) : tK o_typed o_choices o_worlds f_values f_sayings f_words f_isKept c w a st so va fa dr = some ((-10) - fa, o_typed, o_choices, o_worlds, a, st, so, va, fa, f_values, dr, f_sayings, f_words, f_isKept) := by
  rw [tK, if_neg h]
theorem tK_good {o_typed o_choices o_worlds : Int32} {f_values f_sayings f_words f_isKept : Nat → Int32} {c : Nat} {w a st so va : Int32} {dr : Nat → Int32} (h3 : c ≤ 3) : ∃ mv', tK o_typed o_choices o_worlds f_values f_sayings f_words f_isKept (nI c) w a st so va (-9) dr = some (nI c, 0, nI c, w, a, st, so, va, -9, mv', dr, upd f_sayings 0 0, upd f_words 0 0, upd (upd f_isKept 0 0) 1 0) ∧ ∀ i, i < 3 → mv' i = if i < c then dr i else 1 := by
  rw [tK, if_pos rfl, jn]
  obtain ⟨mv', a1, a2, a3⟩ := draft_loop (dr := dr) (K := fun x => ck 0 3 (ck 0 3 (ck 0 2 (ck 1 2 (some (nI c, 0, nI c, w, a, st, so, va, -9, x, dr, upd f_sayings (0 : Int32).toNatClampNeg 0, upd f_words (0 : Int32).toNatClampNeg 0, upd (upd f_isKept (0 : Int32).toNatClampNeg (vp_nar .boolean 0)) (1 : Int32).toNatClampNeg (vp_nar .boolean 0))))))) h3 3 0 QF f_values (by omega) (by unfold QF; omega)
  have a1' : P_X11_tongue_174 (nI c) dr _ QF 0 f_values = _ := a1
  refine ⟨mv', ?_, fun i hi => a3 i (Nat.zero_le _) hi⟩
  rw [a1']
  rfl
