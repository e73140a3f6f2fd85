/-! terms, as the programs find them -/
theorem v_ne1 {v : Nat} (h : v < 2 ^ 31) : ¬ nI v = -1 := by
  intro z
  have : (nI v).toInt = (-1 : Int32).toInt := by rw [z]
  rw [nI_toInt h, show (-1 : Int32).toInt = -1 by decide] at this
  omega
theorem fixedLike_loop {k W t wo : Nat} {vs : Nat → Nat} {fv fl : Nat → Int32} {p : Int32} (h : CT k vs W fv fl) (ht : t < 2 ^ W) (hp : ∀ c, c < k → (nI c = p ↔ c = wo)) : ∀ (m c n : Nat), c + m = k → m < n → P_X8_fixedLike_8 (nI t) p (nI k) fv fl n (nI (ofB (fun w => cdg vs (dF vs W t wo) w c) W)) (nI c) = some (nI (cs vs W k (dF vs W t wo))) := by
  have h3 := h.1.k3
  intro m
  induction m with
  | zero =>
    intro c n hi hn
    obtain ⟨n, rfl⟩ : ∃ q, n = q + 1 := ⟨n - 1, by omega⟩
    rw [P_X8_fixedLike_8, if_pos (nI_le (by omega) (by omega)), show c = k by omega]
    rfl
  | succ m ih =>
    intro c n hi hn
    obtain ⟨n, rfl⟩ : ∃ q, n = q + 1 := ⟨n - 1, by omega⟩
    have hc : c < k := by omega
    have nx := ih (c + 1) n (by omega) (by omega)
    have hpos := h.1.pos c
    rw [P_X8_fixedLike_8, if_neg (nI_ge (by omega) (by omega)), jn, nI_1]
    have free : dF vs W t wo c = vs c → ofB (fun w => cdg vs (dF vs W t wo) w c) W = ofB (fun w => cdg vs (dF vs W t wo) w (c + 1)) W := by
      intro e
      refine ofB_congr (fun w _ => ?_)
      rw [cdg, e, beq_self_eq_true, Bool.true_or, Bool.and_true]
    by_cases q : c = wo
    · rw [if_pos ((hp c hc).mpr q)]
      show jn _ _ = _
      rw [jn, if_pos rfl, free (by rw [dF, if_pos q])]
      exact nx
    · rw [if_neg (fun z => q ((hp c hc).mp z)), fixedIn_eq h hc ht, Option.bind_some]
      show jn _ _ = _
      rw [jn]
      cases hf : fx vs W t c with
      | none =>
        rw [if_pos (show toI none = -1 from rfl), free (by rw [dF, if_neg q, hf])]
        exact nx
      | some v =>
        have hv := fx_lt hf
        rw [if_neg (show ¬ toI (some v) = -1 from v_ne1 (by omega))]
        show (P_X8_leftBy (nI c) (nI v) fl).bind _ = _
        rw [leftBy_in h hc hv, Option.bind_some, nx_and]
        have e : ofB (fun w => cdg vs (dF vs W t wo) w c) W &&& mk vs W c v = ofB (fun w => cdg vs (dF vs W t wo) w (c + 1)) W := by
          rw [mk, ofB_and]
          refine ofB_congr (fun w _ => ?_)
          have d1 : dF vs W t wo c = v := by rw [dF, if_neg q, hf]
          rw [cdg, d1, show (v == vs c) = false from beq_eq_false_iff_ne.mpr (by omega), Bool.false_or]
        rw [e]
        exact nx
theorem ofB_true (W : Nat) : ofB (fun _ => true) W = 2 ^ W - 1 := by
  refine bit_ext (ofB_lt _ _) (by have := Nat.one_le_two_pow (n := W); omega) (fun i hi => ?_)
  rw [ofB_bit, all_bit, Bool.and_true]
theorem fixedLike_eq {k W t wo : Nat} {vs : Nat → Nat} {fv fl : Nat → Int32} {p : Int32} (h : CT k vs W fv fl) (ht : t < 2 ^ W) (hp : ∀ c, c < k → (nI c = p ↔ c = wo)) : P_X8_fixedLike (nI t) p (nI k) (nI W) fv fl = some (nI (cs vs W k (dF vs W t wo))) := by
  have h3 := h.1.k3
  unfold P_X8_fixedLike
  rw [all_eq h.1.le, Option.bind_some, ← ofB_true W]
  exact fixedLike_loop h ht hp k 0 QF (by omega) (by unfold QF; omega)
theorem isTerm_loop {k W t s : Nat} {vs : Nat → Nat} {fv fl : Nat → Int32} (h : CT k vs W fv fl) (ht : t < 2 ^ W) : ∀ (m c n : Nat), c + m = k → m < n → ∃ b, P_X8_isTerm_26 (nI t) (nI s) (nI k) (nI W) fv fl n (nI c) = some (bI b) ∧ (b = true ↔ ∀ i, c ≤ i → i < k → fx vs W t i ≠ none → ¬ sbs W (cs vs W k (dF vs W t i)) s) := by
  have h3 := h.1.k3
  intro m
  induction m with
  | zero =>
    intro c n hi hn
    obtain ⟨n, rfl⟩ : ∃ q, n = q + 1 := ⟨n - 1, by omega⟩
    rw [P_X8_isTerm_26, if_pos (nI_le (by omega) (by omega))]
    exact ⟨true, rfl, fun _ i h1 h2 => absurd h2 (by omega), fun _ => rfl⟩
  | succ m ih =>
    intro c n hi hn
    obtain ⟨n, rfl⟩ : ∃ q, n = q + 1 := ⟨n - 1, by omega⟩
    have hc : c < k := by omega
    have hpos := h.1.pos c
    obtain ⟨b, b1, b2⟩ := ih (c + 1) n (by omega) (by omega)
    rw [P_X8_isTerm_26, if_neg (nI_ge (by omega) (by omega)), fixedIn_eq h hc ht, Option.bind_some, jn, nI_1]
    have skip : (fx vs W t c ≠ none → ¬ sbs W (cs vs W k (dF vs W t c)) s) → ((∀ i, c + 1 ≤ i → i < k → fx vs W t i ≠ none → ¬ sbs W (cs vs W k (dF vs W t i)) s) ↔ ∀ i, c ≤ i → i < k → fx vs W t i ≠ none → ¬ sbs W (cs vs W k (dF vs W t i)) s) := by
      intro g
      constructor
      · intro f i h1 h2
        by_cases e : i = c
        · rw [e]; exact g
        · exact f i (by omega) h2
      · intro f i h1 h2
        exact f i (by omega) h2
    cases hf : fx vs W t c with
    | none =>
      rw [if_pos (show toI none = -1 from rfl)]
      exact ⟨b, b1, b2.trans (skip (fun z => absurd hf z))⟩
    | some v =>
      have hv := fx_lt hf
      rw [if_neg (show ¬ toI (some v) = -1 from v_ne1 (by omega)), fixedLike_eq (wo := c) h ht (fun i hi => nI_eq (by omega) (by omega)), Option.bind_some]
      by_cases g : sbs W (cs vs W k (dF vs W t c)) s
      · rw [if_pos ((sbs_cm h.1.le (cs_lt _ _ _ _)).mpr g)]
        exact ⟨false, rfl, (fun z => absurd z (by decide)), fun f => absurd g (f c (Nat.le_refl _) hc (by rw [hf]; exact fun z => nomatch z))⟩
      · rw [if_neg (fun z => g ((sbs_cm h.1.le (cs_lt _ _ _ _)).mp z))]
        exact ⟨b, b1, b2.trans (skip (fun _ => g))⟩
theorem isTerm_c {k W t s : Nat} {vs : Nat → Nat} {fv fl : Nat → Int32} (h : CT k vs W fv fl) (ht : t < 2 ^ W) (h0 : t ≠ 0) : ∃ b, P_X8_isTerm (nI t) (nI s) (nI k) (nI W) fv fl = some (bI b) ∧ (b = true ↔ (sbs W t s ∧ cs vs W k (dF vs W t 9) = t ∧ ∀ c, c < k → fx vs W t c ≠ none → ¬ sbs W (cs vs W k (dF vs W t c)) s)) := by
  have h3 := h.1.k3
  have ⟨p1, p2⟩ := p9 h.1.le
  have hcs := cs_lt vs W k (dF vs W t 9)
  unfold P_X8_isTerm
  rw [if_neg (nI_ne0 (by omega) (by omega))]
  by_cases g : sbs W t s
  · rw [if_pos ((sbs_cm h.1.le ht).mpr g), fixedLike_eq (wo := 9) h ht (fun i hi => ⟨fun z => absurd z (v_ne1 (by omega)), fun z => by omega⟩), Option.bind_some]
    by_cases e : cs vs W k (dF vs W t 9) = t
    · rw [if_pos (by rw [e])]
      obtain ⟨b, b1, b2⟩ := isTerm_loop (s := s) h ht k 0 QF (by omega) (by unfold QF; omega)
      exact ⟨b, b1, b2.trans ⟨fun f => ⟨g, e, fun c hc => f c (Nat.zero_le _) hc⟩, fun f i _ hi => f.2.2 i hi⟩⟩
    · rw [if_neg (fun z => e ((nI_eq (by omega) (by omega)).mp z))]
      exact ⟨false, rfl, (fun z => absurd z (by decide)), fun f => absurd f.2.1 e⟩
  · rw [if_neg (fun z => g ((sbs_cm h.1.le ht).mp z))]
    exact ⟨false, rfl, (fun z => absurd z (by decide)), fun f => absurd f.1 g⟩
/-! the model's -/
theorem dv_lt {vs : Nat → Nat} {j B : Nat} (hj : j < B) : ∀ c, dv vs j c < B := fun c => Nat.lt_of_le_of_lt (dv_le vs j c) hj
theorem cubeOf_loop {k W j : Nat} {vs : Nat → Nat} {mv : Nat → Int32} (h : MT k vs W mv) (hj : j < 2 ^ 20) : ∀ (m c n : Nat), c + m = k → m < n → P_X11_cubeOf_10 (nI k) (nI W) mv n (nI (dv (vs1 vs) j c)) (nI (ofB (fun w => cdg vs (vl (vs1 vs) j) w c) W)) (nI c) = some (nI (cub vs W k j)) := by
  have h3 := h.1.k3
  intro m
  induction m with
  | zero =>
    intro c n hi hn
    obtain ⟨n, rfl⟩ : ∃ q, n = q + 1 := ⟨n - 1, by omega⟩
    rw [P_X11_cubeOf_10, if_pos (nI_le (by omega) (by omega)), show c = k by omega]
    rfl
  | succ m ih =>
    intro c n hi hn
    obtain ⟨n, rfl⟩ : ∃ q, n = q + 1 := ⟨n - 1, by omega⟩
    have hc : c < k := by omega
    have nx := ih (c + 1) n (by omega) (by omega)
    have hpos := h.1.pos c
    have hdv := dv_lt (vs := vs1 vs) hj c
    have hdg := dg_le vs j c
    have hv1 : vs1 vs c = vs c + 1 := rfl
    have d1 : nI (dv (vs1 vs) j c) / nI (vs c + 1) = nI (dv (vs1 vs) j (c + 1)) := by
      rw [pk_div (by omega) (by omega) (by omega)]; rfl
    have d2 : nI (dv (vs1 vs) j c) - nI (dv (vs1 vs) j c) / nI (vs c + 1) * nI (vs c + 1) = nI (vl (vs1 vs) j c) := by
      rw [pk_rem (by omega) (by omega) (by omega)]; rfl
    rw [P_X11_cubeOf_10, if_neg (nI_ge (by omega) (by omega)), ck_in _ (by omega) (by decide), ck_in _ (by omega) (by decide), ck_in _ (by omega) (by decide), nI_clamp (by omega), h.2 c (by omega), nI_1, nI_1, dz_ne _ (nI_ne (by omega) (by omega)), dz_ne _ (nI_ne (by omega) (by omega)), jn, d2, d1]
    by_cases e : vl (vs1 vs) j c = vs c
    · rw [if_pos (by rw [e]), allSets_eq h.1.le, Option.bind_some]
      have g : ofB (fun w => cdg vs (vl (vs1 vs) j) w c) W &&& (2 ^ W - 1) = ofB (fun w => cdg vs (vl (vs1 vs) j) w (c + 1)) W := by
        rw [← ofB_true W, ofB_and]
        refine ofB_congr (fun w _ => ?_)
        rw [cdg, e, beq_self_eq_true, Bool.true_or]
      rw [← g, ← nx_and] at nx
      exact nx
    · rw [if_neg (fun z => e ((nI_eq (by omega) (by omega)).mp z)), worldsOf_eq h (by omega) (by omega), Option.bind_some]
      have g : ofB (fun w => cdg vs (vl (vs1 vs) j) w c) W &&& mk vs W c (vl (vs1 vs) j c) = ofB (fun w => cdg vs (vl (vs1 vs) j) w (c + 1)) W := by
        rw [mk, ofB_and]
        refine ofB_congr (fun w _ => ?_)
        rw [cdg, show (vl (vs1 vs) j c == vs c) = false from beq_eq_false_iff_ne.mpr e, Bool.false_or]
      rw [← g, ← nx_and] at nx
      exact nx
theorem cubeOf_eq {k W j : Nat} {vs : Nat → Nat} {mv : Nat → Int32} (h : MT k vs W mv) (hj : j < 2 ^ 20) : P_X11_cubeOf (nI j) (nI k) (nI W) mv = some (nI (cub vs W k j)) := by
  have h3 := h.1.k3
  unfold P_X11_cubeOf
  rw [allSets_eq h.1.le, Option.bind_some, ← ofB_true W]
  exact cubeOf_loop h hj k 0 QF (by omega) (by unfold QF; omega)
theorem cubes_loop {k W : Nat} {vs : Nat → Nat} {mv : Nat → Int32} (h : MT k vs W mv) : ∀ (m c n : Nat), c + m = k → m < n → P_X11_cubes_4 (nI k) mv n (nI (stp (vs1 vs) c)) (nI c) = some (nI (stp (vs1 vs) k)) := by
  have h3 := h.1.k3
  intro m
  induction m with
  | zero =>
    intro c n hi hn
    obtain ⟨n, rfl⟩ : ∃ q, n = q + 1 := ⟨n - 1, by omega⟩
    rw [P_X11_cubes_4, if_pos (nI_le (by omega) (by omega)), show c = k by omega]
  | succ m ih =>
    intro c n hi hn
    obtain ⟨n, rfl⟩ : ∃ q, n = q + 1 := ⟨n - 1, by omega⟩
    rw [P_X11_cubes_4, if_neg (nI_ge (by omega) (by omega)), ck_in _ (by omega) (by decide), nI_clamp (by omega), h.2 c (by omega), nI_1, nI_1, pk_mul]
    exact ih (c + 1) n (by omega) (by omega)
theorem cubes_eq {k W : Nat} {vs : Nat → Nat} {mv : Nat → Int32} (h : MT k vs W mv) : P_X11_cubes (nI k) mv = some (nI (stp (vs1 vs) k)) := by
  have h3 := h.1.k3
  exact cubes_loop h k 0 QF (by omega) (by unfold QF; omega)
theorem cubes_le {k W : Nat} {vs : Nat → Nat} (h : TG k vs W) : stp (vs1 vs) k ≤ 1000 := by
  have h3 := h.k3
  have e : ∀ i, vs1 vs i ≤ 10 := fun i => by have := (h.pos i).2; show vs i + 1 ≤ 10; omega
  have a1 : stp (vs1 vs) 1 ≤ 1 * 10 := Nat.mul_le_mul (Nat.le_refl _) (e 0)
  have a2 : stp (vs1 vs) 2 ≤ 10 * 10 := Nat.mul_le_mul a1 (e 1)
  have a3 : stp (vs1 vs) 3 ≤ 100 * 10 := Nat.mul_le_mul a2 (e 2)
  have a0 : stp (vs1 vs) 0 = 1 := rfl
  rcases (show k = 0 ∨ k = 1 ∨ k = 2 ∨ k = 3 by omega) with rfl | rfl | rfl | rfl <;> omega
theorem cz_bI (b : Bool) : cz (bI b) (some (bI b)) = some (bI b) := by cases b <;> rfl
theorem isTermm_loop {k W t s : Nat} {vs : Nat → Nat} {mv : Nat → Int32} (h : MT k vs W mv) (ht : t < 2 ^ W) : ∀ (m u n : Nat) (b : Bool), u + m = stp (vs1 vs) k → m < n → ∃ b', P_X11_isTerm_17 (nI t) (nI s) (nI k) (nI W) mv n (bI b) (nI u) = some (bI b') ∧ (b' = true ↔ b = true ∧ ∀ i, u ≤ i → i < stp (vs1 vs) k → ¬ (cub vs W k i ≠ t ∧ sbs W (cub vs W k i) s ∧ sbs W t (cub vs W k i))) := by
  have hN := cubes_le h.1
  have ⟨p1, p2⟩ := p9 h.1.le
  intro m
  induction m with
  | zero =>
    intro u n b hi hn
    obtain ⟨n, rfl⟩ : ∃ q, n = q + 1 := ⟨n - 1, by omega⟩
    rw [P_X11_isTerm_17, cubes_eq h, Option.bind_some, if_pos (nI_le (by omega) (by omega)), cz_bI]
    exact ⟨b, rfl, fun z => ⟨z, fun i h1 h2 => absurd h2 (by omega)⟩, fun z => z.1⟩
  | succ m ih =>
    intro u n b hi hn
    obtain ⟨n, rfl⟩ : ∃ q, n = q + 1 := ⟨n - 1, by omega⟩
    have hcu : cub vs W k u < 2 ^ W := cs_lt _ _ _ _
    rw [P_X11_isTerm_17, cubes_eq h, Option.bind_some, if_neg (nI_ge (by omega) (by omega))]
    cases b with
    | false =>
      rw [if_pos (show bI false = 0 from rfl), cz_bI]
      exact ⟨false, rfl, (fun z => absurd z (by decide)), fun z => absurd z.1 (by decide)⟩
    | true =>
      rw [if_neg (show ¬ bI true = 0 by decide), cubeOf_eq h (by omega), Option.bind_some, jn, nI_1]
      have keep : ¬ (cub vs W k u ≠ t ∧ sbs W (cub vs W k u) s ∧ sbs W t (cub vs W k u)) → ∃ b', P_X11_isTerm_17 (nI t) (nI s) (nI k) (nI W) mv n 1 (nI (u + 1)) = some (bI b') ∧ (b' = true ↔ true = true ∧ ∀ i, u ≤ i → i < stp (vs1 vs) k → ¬ (cub vs W k i ≠ t ∧ sbs W (cub vs W k i) s ∧ sbs W t (cub vs W k i))) := by
        intro g
        obtain ⟨b', c1, c2⟩ := ih (u + 1) n true (by omega) (by omega)
        refine ⟨b', c1, c2.trans ⟨fun z => ⟨z.1, fun i h1 h2 => ?_⟩, fun z => ⟨z.1, fun i h1 h2 => z.2 i (by omega) h2⟩⟩⟩
        by_cases e : i = u
        · rw [e]; exact g
        · exact z.2 i (by omega) h2
      by_cases e : cub vs W k u = t
      · rw [jn, if_pos (by rw [e])]
        exact keep (fun z => z.1 e)
      · rw [jn, if_neg (fun z => e ((nI_eq (by omega) (by omega)).mp z))]
        by_cases g : sbs W (cub vs W k u) s
        · rw [if_pos ((sbs_cm h.1.le hcu).mpr g)]
          by_cases f : sbs W t (cub vs W k u)
          · rw [if_pos ((sbs_cm h.1.le ht).mpr f)]
            obtain ⟨b', c1, c2⟩ := ih (u + 1) n false (by omega) (by omega)
            refine ⟨b', c1, c2.trans ⟨(fun z => absurd z.1 (by decide)), fun z => absurd ⟨e, g, f⟩ (z.2 u (Nat.le_refl _) (by omega))⟩⟩
          · rw [if_neg (fun z => f ((sbs_cm h.1.le ht).mp z))]
            exact keep (fun z => f z.2.2)
        · rw [if_neg (fun z => g ((sbs_cm h.1.le hcu).mp z))]
          exact keep (fun z => g z.2.1)
theorem isTerm_m {k W t s : Nat} {vs : Nat → Nat} {mv : Nat → Int32} (h : MT k vs W mv) (ht : t < 2 ^ W) : ∃ b, P_X11_isTerm (nI t) (nI s) (nI k) (nI W) mv = some (bI b) ∧ (b = true ↔ sbs W t s ∧ ∀ u, u < stp (vs1 vs) k → ¬ (cub vs W k u ≠ t ∧ sbs W (cub vs W k u) s ∧ sbs W t (cub vs W k u))) := by
  have hN := cubes_le h.1
  unfold P_X11_isTerm
  rw [jn]
  have go : ∀ b, (b = true ↔ sbs W t s) → ∃ b', P_X11_isTerm_17 (nI t) (nI s) (nI k) (nI W) mv QF (bI b) 0 = some (bI b') ∧ (b' = true ↔ sbs W t s ∧ ∀ u, u < stp (vs1 vs) k → ¬ (cub vs W k u ≠ t ∧ sbs W (cub vs W k u) s ∧ sbs W t (cub vs W k u))) := by
    intro b hb
    obtain ⟨b', c1, c2⟩ := isTermm_loop (s := s) h ht (stp (vs1 vs) k) 0 QF b (by omega) (by unfold QF; omega)
    exact ⟨b', c1, c2.trans ⟨fun z => ⟨hb.mp z.1, fun u hu => z.2 u (Nat.zero_le _) hu⟩, fun z => ⟨hb.mpr z.1, fun u _ hu => z.2 u hu⟩⟩⟩
  by_cases g : sbs W t s
  · rw [if_pos ((sbs_cm h.1.le ht).mpr g)]
    exact go true ⟨fun _ => g, fun _ => rfl⟩
  · rw [if_neg (fun z => g ((sbs_cm h.1.le ht).mp z))]
    exact go false ⟨(fun z => absurd z (by decide)), fun z => absurd z g⟩
theorem terms35 {k W t : Nat} {vs : Nat → Nat} {mv : Nat → Int32} {K : Int32 → Option Int32} (h : MT k vs W mv) (ht : t < 2 ^ W) : ∀ (m u n : Nat) (b : Bool), u + m = stp (vs1 vs) k → m < n → ∃ b', P_X11_terms_35 (nI k) (nI W) mv (nI t) K n (bI b) (nI u) = K (bI b') ∧ (b' = true ↔ b = true ∨ ∃ i, u ≤ i ∧ i < stp (vs1 vs) k ∧ cub vs W k i = t) := by
  have hN := cubes_le h.1
  have ⟨p1, p2⟩ := p9 h.1.le
  intro m
  induction m with
  | zero =>
    intro u n b hi hn
    obtain ⟨n, rfl⟩ : ∃ q, n = q + 1 := ⟨n - 1, by omega⟩
    rw [P_X11_terms_35, cubes_eq h, Option.bind_some, if_pos (nI_le (by omega) (by omega))]
    exact ⟨b, rfl, Or.inl, fun z => z.resolve_right (fun ⟨i, h1, h2, _⟩ => by omega)⟩
  | succ m ih =>
    intro u n b hi hn
    obtain ⟨n, rfl⟩ : ∃ q, n = q + 1 := ⟨n - 1, by omega⟩
    have hcu : cub vs W k u < 2 ^ W := cs_lt _ _ _ _
    rw [P_X11_terms_35, cubes_eq h, Option.bind_some, if_neg (nI_ge (by omega) (by omega)), jn, jn, nI_1]
    cases b with
    | true =>
      rw [if_neg (show ¬ bI true = 0 by decide)]
      obtain ⟨b', c1, c2⟩ := ih (u + 1) n true (by omega) (by omega)
      exact ⟨b', c1, c2.trans ⟨fun _ => Or.inl rfl, fun _ => Or.inl rfl⟩⟩
    | false =>
      rw [if_pos (show bI false = 0 from rfl), cubeOf_eq h (by omega), Option.bind_some]
      by_cases e : cub vs W k u = t
      · rw [if_pos (by rw [e])]
        obtain ⟨b', c1, c2⟩ := ih (u + 1) n true (by omega) (by omega)
        exact ⟨b', c1, c2.trans ⟨fun _ => Or.inr ⟨u, Nat.le_refl _, by omega, e⟩, fun _ => Or.inl rfl⟩⟩
      · rw [if_neg (fun z => e ((nI_eq (by omega) (by omega)).mp z))]
        obtain ⟨b', c1, c2⟩ := ih (u + 1) n false (by omega) (by omega)
        refine ⟨b', c1, c2.trans ⟨fun z => Or.inr ?_, fun z => Or.inr ?_⟩⟩
        · obtain ⟨i, h1, h2, h3⟩ := z.resolve_left (fun z => by cases z)
          exact ⟨i, by omega, h2, h3⟩
        · obtain ⟨i, h1, h2, h3⟩ := z.resolve_left (fun z => by cases z)
          refine ⟨i, ?_, h2, h3⟩
          by_cases y : i = u
          · rw [y] at h3; exact absurd h3 e
          · omega
theorem terms_loop {k W s : Nat} {vs : Nat → Nat} {fv fl mv : Nat → Int32} {p : Int32} {K : Int32 → Option Int32} (hK : ∀ x, ∃ r, K x = some r) (h : CT k vs W fv fl) (g : MT k vs W mv) : ∀ (m t n n' : Nat) (c : Int32), t + m = 2 ^ W → m < n → m < n' → 1 ≤ t → ∃ r, P_X10_terms_23 (nI s) p (nI k) (nI W) fv fl K n c (nI t) = some r ∧ P_X11_terms_20 (nI s) p (nI k) (nI W) mv K n' c (nI t) = some r := by
  have hN := cubes_le h.1
  have ⟨p1, p2⟩ := p9 h.1.le
  intro m
  induction m with
  | zero =>
    intro t n n' c hi hn hn' h1
    obtain ⟨n, rfl⟩ : ∃ q, n = q + 1 := ⟨n - 1, by omega⟩
    obtain ⟨n', rfl⟩ : ∃ q, n' = q + 1 := ⟨n' - 1, by omega⟩
    rw [P_X10_terms_23, P_X11_terms_20, all_eq h.1.le, allSets_eq h.1.le, Option.bind_some, Option.bind_some, if_pos (nI_lt (by omega) (by omega)), if_pos (nI_lt (by omega) (by omega))]
    obtain ⟨r, hr⟩ := hK c
    exact ⟨r, hr, hr⟩
  | succ m ih =>
    intro t n n' c hi hn hn' h1
    obtain ⟨n, rfl⟩ : ∃ q, n = q + 1 := ⟨n - 1, by omega⟩
    obtain ⟨n', rfl⟩ : ∃ q, n' = q + 1 := ⟨n' - 1, by omega⟩
    have nx := fun c => ih (t + 1) n n' c (by omega) (by omega) (by omega) (by omega)
    obtain ⟨bc, c1, c2⟩ := isTerm_c (s := s) h (show t < 2 ^ W by omega) (by omega)
    obtain ⟨bm, m1, m2⟩ := isTerm_m (s := s) g (show t < 2 ^ W by omega)
    have tm := term_iff (s := s) h.1 (show t < 2 ^ W by omega) (by omega)
    rw [P_X10_terms_23, P_X11_terms_20, all_eq h.1.le, allSets_eq h.1.le, Option.bind_some, Option.bind_some, if_neg (nI_nlt (by omega) (by omega)), if_neg (nI_nlt (by omega) (by omega)), c1, Option.bind_some, jn, jn, nI_1]
    obtain ⟨be, e1', e2'⟩ := terms35 (K := fun x => jn (fun (y : Int32) => P_X11_terms_20 (nI s) p (nI k) (nI W) mv K n' y (nI (t + 1))) (fun j => if x = 0 then j c else (P_X11_isTerm (nI t) (nI s) (nI k) (nI W) mv).bind fun z => if z = 0 then j c else if c = p then some (nI t) else j (c + 1))) g (show t < 2 ^ W by omega) (stp (vs1 vs) k) 0 QF false (by omega) (by unfold QF; omega)
    have e1'' : P_X11_terms_35 (nI k) (nI W) mv (nI t) _ QF 0 0 = _ := e1'
    rw [e1'', jn]
    have ex : be = true ↔ ∃ u, u < stp (vs1 vs) k ∧ cub vs W k u = t := e2'.trans ⟨fun z => by
      obtain ⟨i, -, h2, h3⟩ := z.resolve_left (fun z => by cases z)
      exact ⟨i, h2, h3⟩, fun ⟨i, h2, h3⟩ => Or.inr ⟨i, Nat.zero_le _, h2, h3⟩⟩
    cases be with
    | false =>
      have : bc = false := by
        cases bc with
        | false => rfl
        | true => exact absurd (ex.mpr (tm.mp (c2.mp rfl)).1) (by decide)
      rw [this, if_pos (show bI false = 0 from rfl)]
      exact nx c
    | true =>
      have hb : bc = bm := by
        rw [Bool.eq_iff_iff, c2, m2, tm]
        exact ⟨fun z => z.2, fun z => ⟨ex.mp rfl, z⟩⟩
      rw [if_neg (show ¬ bI true = 0 by decide), m1, Option.bind_some, hb]
      cases bm with
      | false =>
        rw [if_pos (show bI false = 0 from rfl)]
        exact nx c
      | true =>
        rw [if_neg (show ¬ bI true = 0 by decide), if_neg (show ¬ bI true = 0 by decide)]
        by_cases q : c = p
        · rw [if_pos q, if_pos q]
          exact ⟨nI t, rfl, rfl⟩
        · rw [if_neg q, if_neg q]
          exact nx (c + 1)
theorem terms_eq {k W : Nat} {vs : Nat → Nat} {fv fl mv : Nat → Int32} (h : CT k vs W fv fl) (g : MT k vs W mv) (p q : Int32) : ∃ r, P_X10_terms p q (nI k) (nI W) fv fl = some r ∧ P_X11_terms p q (nI k) (nI W) mv = some r := by
  have h9 := h.1.le
  have ⟨p1, p2⟩ := p9 h9
  unfold P_X10_terms P_X11_terms
  rcases set_cases h9 p with ⟨s, hs, rfl⟩ | hp
  · rw [isSet_in h9 hs, isSet_in_m h9 hs, Option.bind_some, Option.bind_some, if_neg one_ne, if_neg one_ne]
    by_cases hq : -1 ≤ q
    · rw [if_pos hq, if_pos hq, jn, jn]
      exact terms_loop (fun x => by
        by_cases e : q = -1
        · exact ⟨x, if_pos e⟩
        · exact ⟨-1, if_neg e⟩) h g (2 ^ W - 1) 1 QF QF 0 (by omega) (by unfold QF; omega) (by unfold QF; omega) (by omega)
    · rw [if_neg hq, if_neg hq]
      exact ⟨_, rfl, rfl⟩
  · rw [isSet_out h9 hp, isSet_out_m h9 hp, Option.bind_some, Option.bind_some, if_pos rfl, if_pos rfl]
    exact ⟨_, rfl, rfl⟩
