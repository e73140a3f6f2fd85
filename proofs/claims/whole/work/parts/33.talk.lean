/-! contracts; talk, silence; what two know in common -/
/-- what the first j sayings leave together, without the i-th -/
def ct (W : Nat) (sl : Nat → Nat) (i : Nat) : Nat → Nat
  | 0 => 2 ^ W - 1
  | j + 1 => if j = i then ct W sl i j else ct W sl i j &&& sl j
theorem ct_lt (W : Nat) (sl : Nat → Nat) (i : Nat) : ∀ j, ct W sl i j < 2 ^ W := by
  intro j
  induction j with
  | zero => have := Nat.two_pow_pos W; rw [ct]; omega
  | succ j ih =>
    rw [ct]
    by_cases h : j = i
    · rw [if_pos h]; exact ih
    · rw [if_neg h]; exact Nat.lt_of_le_of_lt Nat.and_le_left ih
theorem leftBy_k {j : Nat} (f : Nat → Int32) (h : j < 8) : P_X0_leftBy (nI j) f = some (f j) := by
  unfold P_X0_leftBy
  rw [at_in _ h (by decide), Option.bind_some]
theorem contractWithout_loop {W ns i : Nat} {sl : Nat → Nat} {f : Nat → Int32} {p : Int32} (hn : ns ≤ 8) (hp : ∀ j, j < ns → (nI j = p ↔ j = i)) (hf : ∀ j, j < ns → f j = nI (sl j)) : ∀ (m j n : Nat), j + m = ns → m < n → P_X10_contractWithout_10 p (nI ns) f n (nI (ct W sl i j)) (nI j) = some (nI (ct W sl i ns)) := by
  intro m
  induction m with
  | zero =>
    intro j n hj hm
    obtain ⟨n, rfl⟩ : ∃ q, n = q + 1 := ⟨n - 1, by omega⟩
    have : j = ns := by omega
    subst this
    rw [P_X10_contractWithout_10, P_X0_sayings, Option.bind_some, if_pos (nI_le (Nat.le_refl _) (by omega))]
  | succ m ih =>
    intro j n hj hm
    obtain ⟨n, rfl⟩ : ∃ q, n = q + 1 := ⟨n - 1, by omega⟩
    have h0 := ih (j + 1) n (by omega) (by omega)
    rw [ct] at h0
    rw [P_X10_contractWithout_10, P_X0_sayings, Option.bind_some, if_neg (nI_ge (by omega) (by omega))]
    simp only [jn]
    rw [nI_1]
    by_cases hi : j = i
    · rw [if_pos ((hp j (by omega)).mpr hi)]
      rw [if_pos hi] at h0
      exact h0
    · rw [if_neg (fun z => hi ((hp j (by omega)).mp z)), leftBy_k f (by omega), Option.bind_some, hf j (by omega), nx_and]
      rw [if_neg hi] at h0
      exact h0
theorem contractWithout_eq {W ns i : Nat} {sl : Nat → Nat} {f : Nat → Int32} {p : Int32} (h9 : W ≤ 9) (hn : ns ≤ 8) (hp : ∀ j, j < ns → (nI j = p ↔ j = i)) (hf : ∀ j, j < ns → f j = nI (sl j)) : P_X10_contractWithout p (nI W) (nI ns) f = some (nI (ct W sl i ns)) := by
  unfold P_X10_contractWithout
  rw [all_eq h9, Option.bind_some, e0]
  exact contractWithout_loop hn hp hf ns 0 QF (by omega) (by unfold QF; omega)
theorem contractBut_loop {W ns i : Nat} {sl : Nat → Nat} {f ms : Nat → Int32} {p : Int32} (h9 : W ≤ 9) (hn : ns ≤ 8) (hms : ms 0 = nI ns) (hp : ∀ j, j < ns → (nI j = p ↔ j = i)) (hf : ∀ j, j < ns → f j = nI (sl j)) : ∀ (m j n : Nat), j + m = ns → m < n → P_X11_contractBut_7 p (nI W) ms f n (nI (ct W sl i j)) (nI j) = some (nI (ct W sl i ns)) := by
  intro m
  induction m with
  | zero =>
    intro j n hj hm
    obtain ⟨n, rfl⟩ : ∃ q, n = q + 1 := ⟨n - 1, by omega⟩
    have : j = ns := by omega
    subst this
    rw [P_X11_contractBut_7, e0, ck_in _ (by decide) (by decide), nI_clamp (by decide), hms, if_pos (nI_le (Nat.le_refl _) (by omega))]
  | succ m ih =>
    intro j n hj hm
    obtain ⟨n, rfl⟩ : ∃ q, n = q + 1 := ⟨n - 1, by omega⟩
    have h0 := ih (j + 1) n (by omega) (by omega)
    rw [ct] at h0
    rw [P_X11_contractBut_7, e0, ck_in _ (by decide) (by decide), nI_clamp (by decide), hms, if_neg (nI_ge (by omega) (by omega))]
    simp only [jn]
    rw [nI_1]
    by_cases hi : j = i
    · rw [if_pos ((hp j (by omega)).mpr hi), allSets_eq h9, Option.bind_some, nx_and]
      rw [if_pos hi] at h0
      have e : ct W sl i j &&& (2 ^ W - 1) = ct W sl i j := Nat.and_two_pow_sub_one_of_lt_two_pow (ct_lt W sl i j)
      rw [e]
      exact h0
    · rw [if_neg (fun z => hi ((hp j (by omega)).mp z)), ck_in _ (show j < 24 by omega) (by decide), nI_clamp (by omega), hf j (by omega), nx_and]
      rw [if_neg hi] at h0
      exact h0
theorem contractBut_eq {W ns i : Nat} {sl : Nat → Nat} {f ms : Nat → Int32} {p : Int32} (h9 : W ≤ 9) (hn : ns ≤ 8) (hms : ms 0 = nI ns) (hp : ∀ j, j < ns → (nI j = p ↔ j = i)) (hf : ∀ j, j < ns → f j = nI (sl j)) : P_X11_contractBut p (nI W) ms f = some (nI (ct W sl i ns)) := by
  unfold P_X11_contractBut
  rw [allSets_eq h9, Option.bind_some]
  have := contractBut_loop (W := W) h9 hn hms hp hf ns 0 QF (by omega) (by unfold QF; omega)
  exact this
theorem no_m1 : ∀ j, j < 8 → (nI j = (-1 : Int32) ↔ j = 8) := by decide +kernel
theorem no_m9 : ∀ j, j < 8 → (nI j = (-9 : Int32) ↔ j = 8) := by decide +kernel
/-- the contract of all -/
def cta (W : Nat) (sl : Nat → Nat) (ns : Nat) : Nat := ct W sl 8 ns
theorem cta_lt (W : Nat) (sl : Nat → Nat) (ns : Nat) : cta W sl ns < 2 ^ W := ct_lt _ _ _ _
theorem contract_c {W ns : Nat} {sl : Nat → Nat} {f : Nat → Int32} (h9 : W ≤ 9) (hn : ns ≤ 8) (hf : ∀ j, j < ns → f j = nI (sl j)) : P_X10_contract (nI W) (nI ns) f = some (nI (cta W sl ns)) := by
  unfold P_X10_contract
  rw [contractWithout_eq (i := 8) h9 hn (fun j hj => no_m1 j (by omega)) hf, Option.bind_some, cta]
theorem contract_m {W ns : Nat} {sl : Nat → Nat} {f ms : Nat → Int32} (h9 : W ≤ 9) (hn : ns ≤ 8) (hms : ms 0 = nI ns) (hf : ∀ j, j < ns → f j = nI (sl j)) : P_X11_contractBut (-9) (nI W) ms f = some (nI (cta W sl ns)) :=
  contractBut_eq (i := 8) h9 hn hms (fun j hj => no_m9 j (by omega)) hf
/-- seen: 0 .. 7, or not -/
theorem seen_cases (p : Int32) : (∃ s, s < 8 ∧ p = nI s) ∨ (p < 0 ∨ 7 < p) := by
  by_cases h0 : p < 0
  · exact Or.inr (Or.inl h0)
  · obtain ⟨j, hj, rfl⟩ := nI_of h0
    by_cases hl : j < 8
    · exact Or.inl ⟨j, hl, rfl⟩
    · exact Or.inr (Or.inr (nI_lt (a := 7) (by omega) hj))
theorem isSeen_in {s : Nat} (h : s < 8) : P_X10_isSeen (nI s) = some 1 := by
  unfold P_X10_isSeen
  rw [if_neg (nI_pos (by omega)), e7, if_neg (nI_nlt (by omega) (by decide))]
theorem isSeen_out {p : Int32} (h : p < 0 ∨ 7 < p) : P_X10_isSeen p = some 0 := by
  unfold P_X10_isSeen
  by_cases h0 : p < 0
  · rw [if_pos h0]
  · rw [if_neg h0, if_pos (h.resolve_left h0)]
theorem isSeen_m {s t : Nat} (h : s < 8) (g : t < 8) : P_X11_isSeen (nI s) (nI t) = some 1 := by
  unfold P_X11_isSeen
  rw [e0, e7, in_in (Nat.zero_le _) (show s ≤ 7 by omega) (by decide), Option.bind_some, if_neg (show ¬ (1 : Int32) = nI 0 by decide), in_in (Nat.zero_le _) (show t ≤ 7 by omega) (by decide), Option.bind_some, if_neg (show ¬ (1 : Int32) = nI 0 by decide)]
theorem isSeen_m0 {p q : Int32} (h : p < 0 ∨ 7 < p) : P_X11_isSeen p q = some 0 := by
  unfold P_X11_isSeen
  rw [in_out h, Option.bind_some, if_pos rfl]
theorem isSeen_m1 {s : Nat} {q : Int32} (h : s < 8) (g : q < 0 ∨ 7 < q) : P_X11_isSeen (nI s) q = some 0 := by
  unfold P_X11_isSeen
  have h1 : P_X11_in (nI s) 0 7 = some 1 := in_in (a := 0) (c := 7) (Nat.zero_le _) (show s ≤ 7 by omega) (by decide)
  rw [h1, Option.bind_some, if_neg one_ne, in_out g, Option.bind_some, if_pos rfl]
/-- a number that is a world, or not -/
theorem world_cases {W : Nat} (h1 : 1 ≤ W) (h : W ≤ 9) (p : Int32) : (∃ w, w < W ∧ p = nI w) ∨ (p < 0 ∨ nI W ≤ p) := by
  by_cases h0 : p < 0
  · exact Or.inr (Or.inl h0)
  · obtain ⟨j, hj, rfl⟩ := nI_of h0
    by_cases hl : j < W
    · exact Or.inl ⟨j, hl, rfl⟩
    · exact Or.inr (Or.inr (nI_le (by omega) hj))
theorem inW_in {W w : Nat} (h9 : W ≤ 9) (hw : w < W) : P_X11_in (nI w) 0 (nI W - 1) = some 1 := by
  rw [e1, pk_sub (by omega), e0, in_in (Nat.zero_le _) (by omega) (by omega)]
  rfl
theorem inW_out {W : Nat} {p : Int32} (h1 : 1 ≤ W) (h9 : W ≤ 9) (hp : p < 0 ∨ nI W ≤ p) : P_X11_in p 0 (nI W - 1) = some 0 := by
  rw [e1, pk_sub (by omega)]
  refine in_out (hp.elim Or.inl (fun h => ?_))
  by_cases h0 : p < 0
  · exact Or.inl h0
  · obtain ⟨j, hj, rfl⟩ := nI_of h0
    have := (nI_leI (by omega) hj).mp h
    exact Or.inr (nI_lt (by omega) hj)
theorem talk_loop {k W w a b : Nat} {vs : Nat → Nat} {fv fl mv : Nat → Int32} (h : CT k vs W fv fl) (g : MT k vs W mv) (hw : w < W) (ha : a < 8) (hb : b < 8) : ∀ (m t n n' s : Nat), t + m = 31 → m < n → m < n' → s < 2 ^ W → s.testBit w = true → ∃ r, P_X10_talk_48 (nI a) (nI b) (nI w) (nI k) (nI W) fv fl n (nI s) (nI t) = some r ∧ P_X11_talk_48 (nI a) (nI b) (nI w) (nI k) (nI W) mv n' (nI s) (nI t) = some r := by
  intro m
  induction m with
  | zero =>
    intro t n n' s ht hn hn' hs hbit
    obtain ⟨n, rfl⟩ : ∃ q, n = q + 1 := ⟨n - 1, by omega⟩
    obtain ⟨n', rfl⟩ : ∃ q, n' = q + 1 := ⟨n' - 1, by omega⟩
    have hlt : (30 : Int32) < nI t := nI_lt (a := 30) (by omega) (by omega)
    rw [P_X10_talk_48, P_X11_talk_48, if_pos hlt, if_pos hlt]
    exact ⟨_, rfl, rfl⟩
  | succ m ih =>
    intro t n n' s ht hn hn' hs hbit
    obtain ⟨n, rfl⟩ : ∃ q, n = q + 1 := ⟨n - 1, by omega⟩
    obtain ⟨n', rfl⟩ : ∃ q, n' = q + 1 := ⟨n' - 1, by omega⟩
    have hnl : ¬ (30 : Int32) < nI t := nI_nlt (a := 30) (by omega) (by decide)
    rw [P_X10_talk_48, P_X11_talk_48, if_neg hnl, if_neg hnl]
    simp only [jn]
    have step : ∀ c, c < 8 → ∃ r, ((P_X9_knows (nI c) (nI w) (nI s) (nI k) (nI W) fv fl).bind fun z_79 => if z_79 = 0 then (P_X9_unknownTo (nI c) (nI s) (nI k) (nI W) fv fl).bind fun z_96 => P_X10_talk_48 (nI a) (nI b) (nI w) (nI k) (nI W) fv fl n z_96 (nI t + 1) else some (nI t)) = some r ∧ ((P_X11_knows (nI c) (nI w) (nI s) (nI k) (nI W) mv).bind fun z_76 => if z_76 = 0 then (P_X11_silent (nI c) (nI s) (nI k) (nI W) mv).bind fun z_90 => P_X11_talk_48 (nI a) (nI b) (nI w) (nI k) (nI W) mv n' z_90 (nI t + 1) else some (nI t)) = some r := by
      intro c hc
      rw [knows_c h hw hc hs hbit, knows_m g hw hc hs, Option.bind_some, Option.bind_some]
      cases hk : kn vs k W c s w with
      | true => rw [if_neg (show ¬ bI true = 0 by decide), if_neg (show ¬ bI true = 0 by decide)]; exact ⟨_, rfl, rfl⟩
      | false =>
        rw [if_pos (show bI false = 0 from rfl), if_pos (show bI false = 0 from rfl), unknownTo_eq h hc hs, silent_eq g hc hs, Option.bind_some, Option.bind_some, nI_1]
        exact ih (t + 1) n n' _ (by omega) (by omega) (by omega) (uk_lt _ _ _ _ _) (by rw [uk_bit, hbit, hk]; simp [hw])
    by_cases ho : nI t - nI t / 2 * 2 = 1
    · rw [if_pos ho, if_pos ho]; exact step a ha
    · rw [if_neg ho, if_neg ho]; exact step b hb
theorem silence_loop {k W a b : Nat} {vs : Nat → Nat} {fv fl mv : Nat → Int32} (h : CT k vs W fv fl) (g : MT k vs W mv) (ha : a < 8) (hb : b < 8) {e : Nat} (he : e ≤ 30) : ∀ (m t n n' s : Nat), t + m = e + 1 → m < n → m < n' → s < 2 ^ W → ∃ r, P_X10_silence_35 (nI a) (nI b) (nI e) (nI k) (nI W) fv fl n (nI s) (nI t) = some r ∧ P_X11_silence_32 (nI a) (nI b) (nI e) (nI k) (nI W) mv n' (nI s) (nI t) = some r := by
  intro m
  induction m with
  | zero =>
    intro t n n' s ht hn hn' hs
    obtain ⟨n, rfl⟩ : ∃ q, n = q + 1 := ⟨n - 1, by omega⟩
    obtain ⟨n', rfl⟩ : ∃ q, n' = q + 1 := ⟨n' - 1, by omega⟩
    have hlt : nI e < nI t := nI_lt (by omega) (by omega)
    rw [P_X10_silence_35, P_X11_silence_32, if_pos hlt, if_pos hlt]
    exact ⟨_, rfl, rfl⟩
  | succ m ih =>
    intro t n n' s ht hn hn' hs
    obtain ⟨n, rfl⟩ : ∃ q, n = q + 1 := ⟨n - 1, by omega⟩
    obtain ⟨n', rfl⟩ : ∃ q, n' = q + 1 := ⟨n' - 1, by omega⟩
    have hnl : ¬ nI e < nI t := nI_nlt (by omega) (by omega)
    rw [P_X10_silence_35, P_X11_silence_32, if_neg hnl, if_neg hnl]
    simp only [jn]
    have step : ∀ c, c < 8 → ∃ r, ((P_X9_unknownTo (nI c) (nI s) (nI k) (nI W) fv fl).bind fun z_60 => P_X10_silence_35 (nI a) (nI b) (nI e) (nI k) (nI W) fv fl n z_60 (nI t + 1)) = some r ∧ ((P_X11_silent (nI c) (nI s) (nI k) (nI W) mv).bind fun z_54 => P_X11_silence_32 (nI a) (nI b) (nI e) (nI k) (nI W) mv n' z_54 (nI t + 1)) = some r := by
      intro c hc
      rw [unknownTo_eq h hc hs, silent_eq g hc hs, Option.bind_some, Option.bind_some, nI_1]
      exact ih (t + 1) n n' _ (by omega) (by omega) (by omega) (uk_lt _ _ _ _ _)
    by_cases ho : nI t - nI t / 2 * 2 = 1
    · rw [if_pos ho, if_pos ho]; exact step a ha
    · rw [if_neg ho, if_neg ho]; exact step b hb
/-- one step from a world, one pass over the worlds, m passes -/
def pst (vs : Nat → Nat) (k W a b g i r : Nat) : Nat := if r.testBit i then r ||| (al vs k W a i g ||| al vs k W b i g) else r
def psm (vs : Nat → Nat) (k W a b g : Nat) : Nat → Nat → Nat → Nat
  | 0, _, r => r
  | m + 1, i, r => psm vs k W a b g m (i + 1) (pst vs k W a b g i r)
def rnd (vs : Nat → Nat) (k W a b g : Nat) : Nat → Nat → Nat
  | 0, r => r
  | m + 1, r => rnd vs k W a b g m (psm vs k W a b g W 0 r)
theorem pst_lt {vs : Nat → Nat} {k W a b g i r : Nat} (h : r < 2 ^ W) : pst vs k W a b g i r < 2 ^ W := by
  rw [pst]
  split
  · exact Nat.or_lt_two_pow h (Nat.or_lt_two_pow (al_lt _ _ _ _ _ _) (al_lt _ _ _ _ _ _))
  · exact h
theorem pst_up {vs : Nat → Nat} {k W a b g i r j : Nat} (h : r.testBit j = true) : (pst vs k W a b g i r).testBit j = true := by
  rw [pst]
  split
  · rw [Nat.testBit_or, h, Bool.true_or]
  · exact h
theorem psm_lt {vs : Nat → Nat} {k W a b g : Nat} : ∀ (m i r : Nat), r < 2 ^ W → psm vs k W a b g m i r < 2 ^ W := by
  intro m
  induction m with
  | zero => intro i r h; exact h
  | succ m ih => intro i r h; exact ih _ _ (pst_lt h)
theorem psm_up {vs : Nat → Nat} {k W a b g : Nat} {j : Nat} : ∀ (m i r : Nat), r.testBit j = true → (psm vs k W a b g m i r).testBit j = true := by
  intro m
  induction m with
  | zero => intro i r h; exact h
  | succ m ih => intro i r h; exact ih _ _ (pst_up h)
theorem pc_mono {a b : Nat} : ∀ n, (∀ i, i < n → a.testBit i = true → b.testBit i = true) → pc a n ≤ pc b n ∧ (pc a n = pc b n → ∀ i, i < n → a.testBit i = b.testBit i) := by
  intro n
  induction n with
  | zero => intro _; exact ⟨Nat.le_refl _, fun _ i hi => by omega⟩
  | succ n ih =>
    intro h
    obtain ⟨h1, h2⟩ := ih (fun i hi => h i (by omega))
    have h3 := h n (by omega)
    rw [pc, pc]
    cases ha : a.testBit n with
    | true =>
      rw [h3 ha, if_pos rfl]
      refine ⟨by omega, fun e i hi => ?_⟩
      by_cases hin : i = n
      · subst hin; rw [ha, h3 ha]
      · exact h2 (by omega) i (by omega)
    | false =>
      rw [if_neg (by decide)]
      cases hb : b.testBit n with
      | true => rw [if_pos rfl]; exact ⟨by omega, fun e => by omega⟩
      | false =>
        rw [if_neg (by decide)]
        refine ⟨by omega, fun e i hi => ?_⟩
        by_cases hin : i = n
        · subst hin; rw [ha, hb]
        · exact h2 (by omega) i (by omega)
theorem inCommon_pass {k W a b g : Nat} {vs : Nat → Nat} {fv fl : Nat → Int32} {K : Int32 → Option Int32} (h : CT k vs W fv fl) (ha : a < 8) (hb : b < 8) (hg : g < 2 ^ W) : ∀ (m i n r : Nat), i + m = W → m < n → r < 2 ^ W → P_X9_inCommon_26 (nI a) (nI b) (nI g) (nI k) (nI W) fv fl K n (nI r) (nI i) = K (nI (psm vs k W a b g m i r)) := by
  have h9 := h.1.le
  intro m
  induction m with
  | zero =>
    intro i n r hi hn hr
    obtain ⟨n, rfl⟩ : ∃ q, n = q + 1 := ⟨n - 1, by omega⟩
    rw [P_X9_inCommon_26, P_X8_worlds, Option.bind_some, if_pos (nI_le (by omega) (by omega))]
    rfl
  | succ m ih =>
    intro i n r hi hn hr
    obtain ⟨n, rfl⟩ : ∃ q, n = q + 1 := ⟨n - 1, by omega⟩
    have h0 := ih (i + 1) n _ (by omega) (by omega) (pst_lt (vs := vs) (k := k) (a := a) (b := b) (g := g) (i := i) hr)
    rw [P_X9_inCommon_26, P_X8_worlds, Option.bind_some, if_neg (nI_ge (by omega) (by omega)), has_eq (h.1.lt512 hr) (by omega), Option.bind_some, psm]
    simp only [jn]
    rw [nI_1]
    rw [pst] at h0
    cases ht : r.testBit i with
    | false =>
      rw [ht, if_neg (by decide)] at h0
      rw [if_pos (show bI false = 0 from rfl), h0, pst, ht, if_neg (by decide)]
    | true =>
      rw [ht, if_pos rfl] at h0
      rw [if_neg (show ¬ bI true = 0 by decide), looksLike_eq h (by omega) ha, Option.bind_some, looksLike_eq h (by omega) hb, Option.bind_some, nx_or, nx_and, nx_or, Nat.and_or_distrib_left, al_and vs k a i hg, al_and vs k b i hg, h0, pst, ht, if_pos rfl]
theorem inCommon_rounds {k W a b g : Nat} {vs : Nat → Nat} {fv fl : Nat → Int32} (h : CT k vs W fv fl) (ha : a < 8) (hb : b < 8) (hg : g < 2 ^ W) : ∀ (m i n r : Nat), i + m = W → m < n → r < 2 ^ W → P_X9_inCommon_11 (nI a) (nI b) (nI g) (nI k) (nI W) fv fl n (nI r) (nI i) = some (nI (rnd vs k W a b g m r)) := by
  have h9 := h.1.le
  intro m
  induction m with
  | zero =>
    intro i n r hi hn hr
    obtain ⟨n, rfl⟩ : ∃ q, n = q + 1 := ⟨n - 1, by omega⟩
    rw [P_X9_inCommon_11, P_X8_worlds, Option.bind_some, if_pos (nI_le (by omega) (by omega))]
    rfl
  | succ m ih =>
    intro i n r hi hn hr
    obtain ⟨n, rfl⟩ : ∃ q, n = q + 1 := ⟨n - 1, by omega⟩
    rw [P_X9_inCommon_11, P_X8_worlds, Option.bind_some, if_neg (nI_ge (by omega) (by omega))]
    simp only [jn]
    rw [nI_1, e0, inCommon_pass h ha hb hg W 0 QF r (by omega) (by unfold QF; omega) hr]
    exact ih (i + 1) n _ (by omega) (by omega) (psm_lt W 0 r hr)
theorem inCommon_eq {k W a b g w : Nat} {vs : Nat → Nat} {fv fl : Nat → Int32} (h : CT k vs W fv fl) (ha : a < 8) (hb : b < 8) (hg : g < 2 ^ W) (hw : w < W) : P_X9_inCommon (nI a) (nI b) (nI w) (nI g) (nI k) (nI W) fv fl = some (nI (rnd vs k W a b g W (g &&& 2 ^ w))) := by
  have h9 := h.1.le
  unfold P_X9_inCommon
  rw [nx_one (by omega), nx_and, e0]
  exact inCommon_rounds h ha hb hg W 0 QF _ (by omega) (by unfold QF; omega) (Nat.lt_of_le_of_lt Nat.and_le_left hg)
theorem common_pass {k W a b g : Nat} {vs : Nat → Nat} {mv : Nat → Int32} {K : Int32 → Option Int32} (h : MT k vs W mv) (ha : a < 8) (hb : b < 8) (hg : g < 2 ^ W) : ∀ (m i n r : Nat), i + m = W → m < n → r < 2 ^ W → P_X11_common_58 (nI a) (nI b) (nI k) (nI W) mv (nI g) K n (nI r) (nI i) = K (nI (psm vs k W a b g m i r)) := by
  have h9 := h.1.le
  intro m
  induction m with
  | zero =>
    intro i n r hi hn hr
    obtain ⟨n, rfl⟩ : ∃ q, n = q + 1 := ⟨n - 1, by omega⟩
    rw [P_X11_common_58, if_pos (nI_le (by omega) (by omega))]
    rfl
  | succ m ih =>
    intro i n r hi hn hr
    obtain ⟨n, rfl⟩ : ∃ q, n = q + 1 := ⟨n - 1, by omega⟩
    have h0 := ih (i + 1) n _ (by omega) (by omega) (pst_lt (vs := vs) (k := k) (a := a) (b := b) (g := g) (i := i) hr)
    have h5 := h.1.lt512 hr
    rw [P_X11_common_58, if_neg (nI_ge (by omega) (by omega)), psm]
    simp only [jn]
    rw [nI_1, bit_I (by omega) (by omega)]
    rw [pst] at h0
    cases ht : r.testBit i with
    | false =>
      rw [ht, if_neg (by decide)] at h0
      rw [if_neg (show ¬ bI false = 1 by decide), e0, nx_or, Nat.or_zero, h0, pst, ht, if_neg (by decide)]
    | true =>
      rw [ht, if_pos rfl] at h0
      rw [if_pos (show bI true = 1 from rfl), alikeTo_eq h (by omega) ha hg, Option.bind_some, alikeTo_eq h (by omega) hb hg, Option.bind_some, nx_or, nx_or, h0, pst, ht, if_pos rfl]
theorem rnd_fix {k W a b g r : Nat} {vs : Nat → Nat} (h : psm vs k W a b g W 0 r = r) : ∀ m, rnd vs k W a b g m r = r := by
  intro m
  induction m with
  | zero => rfl
  | succ m ih => rw [rnd, h, ih]
theorem common_loop {k W a b g : Nat} {vs : Nat → Nat} {mv : Nat → Int32} (h : MT k vs W mv) (ha : a < 8) (hb : b < 8) (hg : g < 2 ^ W) : ∀ (m n r : Nat) (hd : Int32), W ≤ pc r W + m → m + 2 < n → r < 2 ^ W → nI r ≠ hd → ∃ f, P_X11_common_44 (nI a) (nI b) (nI k) (nI W) mv (nI g) n (nI r) hd = some (nI f) ∧ ∀ m', m ≤ m' → rnd vs k W a b g m' r = f := by
  have h9 := h.1.le
  intro m
  induction m with
  | zero =>
    intro n r hd hm hn hr hne
    obtain ⟨n, rfl⟩ : ∃ q, n = q + 2 := ⟨n - 2, by omega⟩
    have h5 := h.1.lt512 hr
    have h6 := h.1.lt512 (psm_lt (vs := vs) (k := k) (a := a) (b := b) (g := g) W 0 r hr)
    obtain ⟨g1, g2⟩ := pc_mono (a := r) (b := psm vs k W a b g W 0 r) W (fun i _ hb => psm_up W 0 r hb)
    have g3 := pc_le (psm vs k W a b g W 0 r) W
    have hfix : psm vs k W a b g W 0 r = r := (bit_ext hr (psm_lt W 0 r hr) (g2 (by omega))).symm
    refine ⟨r, ?_, fun m' _ => rnd_fix hfix m'⟩
    rw [P_X11_common_44, if_neg hne]
    simp only [jn]
    rw [e0, common_pass h ha hb hg W 0 QF r (by omega) (by unfold QF; omega) hr, hfix, P_X11_common_44, if_pos rfl]
  | succ m ih =>
    intro n r hd hm hn hr hne
    obtain ⟨n, rfl⟩ : ∃ q, n = q + 2 := ⟨n - 2, by omega⟩
    have h5 := h.1.lt512 hr
    have h6 := h.1.lt512 (psm_lt (vs := vs) (k := k) (a := a) (b := b) (g := g) W 0 r hr)
    obtain ⟨g1, g2⟩ := pc_mono (a := r) (b := psm vs k W a b g W 0 r) W (fun i _ hb => psm_up W 0 r hb)
    rw [P_X11_common_44, if_neg hne]
    simp only [jn]
    rw [e0, common_pass h ha hb hg W 0 QF r (by omega) (by unfold QF; omega) hr]
    by_cases hfix : psm vs k W a b g W 0 r = r
    · refine ⟨r, ?_, fun m' _ => rnd_fix hfix m'⟩
      rw [hfix, P_X11_common_44, if_pos rfl]
    · have hlt : pc r W < pc (psm vs k W a b g W 0 r) W := by
        rcases Nat.lt_or_ge (pc r W) (pc (psm vs k W a b g W 0 r) W) with q | q
        · exact q
        · exact absurd (bit_ext hr (psm_lt W 0 r hr) (g2 (by omega))).symm hfix
      obtain ⟨f, f1, f2⟩ := ih (n + 1) (psm vs k W a b g W 0 r) (nI r) (by omega) (by omega) (psm_lt W 0 r hr) (fun e => hfix ((nI_eq (by omega) (by omega)).mp e))
      refine ⟨f, f1, fun m' hm' => ?_⟩
      obtain ⟨m', rfl⟩ : ∃ q, m' = q + 1 := ⟨m' - 1, by omega⟩
      rw [rnd]
      exact f2 m' (by omega)
theorem common_m_eq {k W a b g w : Nat} {vs : Nat → Nat} {mv : Nat → Int32} (h : MT k vs W mv) (ha : a < 8) (hb : b < 8) (hg : g < 2 ^ W) (hw : w < W) : P_X11_common_44 (nI a) (nI b) (nI k) (nI W) mv (nI g) QF (nI (g &&& 2 ^ w)) (-1) = some (nI (rnd vs k W a b g W (g &&& 2 ^ w))) := by
  have h9 := h.1.le
  have hr : g &&& 2 ^ w < 2 ^ W := Nat.lt_of_le_of_lt Nat.and_le_left hg
  have h5 := h.1.lt512 hr
  obtain ⟨f, f1, f2⟩ := common_loop h ha hb hg W QF (g &&& 2 ^ w) (-1) (by omega) (by unfold QF; omega) hr (fun e => by
    have : (nI (g &&& 2 ^ w)).toInt = (-1 : Int32).toInt := by rw [e]
    rw [nI_toInt (by omega)] at this
    have e2 : (-1 : Int32).toInt = -1 := by decide
    omega)
  rw [f1, f2 W (Nat.le_refl _)]
