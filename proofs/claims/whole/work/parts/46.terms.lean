/-! terms: codes and worlds that differ in one choice -/
theorem dv_shift (vs : Nat → Nat) (w : Nat) : ∀ i, dv vs w (i + 1) = dv (fun j => vs (j + 1)) (w / vs 0) i := by
  intro i
  induction i with
  | zero => rfl
  | succ i ih => rw [dv, ih]; rfl
theorem stp_shift (vs : Nat → Nat) : ∀ i, stp vs (i + 1) = vs 0 * stp (fun j => vs (j + 1)) i := by
  intro i
  induction i with
  | zero => show 1 * vs 0 = vs 0 * 1; omega
  | succ i ih => rw [stp, ih, stp, Nat.mul_assoc]
theorem vl_shift (vs : Nat → Nat) (w i : Nat) : vl vs w (i + 1) = vl (fun j => vs (j + 1)) (w / vs 0) i := by
  rw [vl, dv_shift]; rfl
theorem change : ∀ (c : Nat) (vs : Nat → Nat) (w v : Nat), (∀ i, 1 ≤ vs i) → v < vs c → ∃ w', (∀ i, i < c → vl vs w' i = vl vs w i) ∧ vl vs w' c = v ∧ dv vs w' (c + 1) = dv vs w (c + 1) := by
  intro c
  induction c with
  | zero =>
    intro vs w v hp hv
    refine ⟨v + vs 0 * (w / vs 0), fun i hi => absurd hi (Nat.not_lt_zero i), ?_, ?_⟩
    · show (v + vs 0 * (w / vs 0)) % vs 0 = v
      rw [Nat.add_mul_mod_self_left, Nat.mod_eq_of_lt hv]
    · show (v + vs 0 * (w / vs 0)) / vs 0 = w / vs 0
      rw [Nat.add_mul_div_left _ _ (hp 0), Nat.div_eq_of_lt hv, Nat.zero_add]
  | succ c ih =>
    intro vs w v hp hv
    obtain ⟨u, h1, h2, h3⟩ := ih (fun j => vs (j + 1)) (w / vs 0) v (fun i => hp (i + 1)) hv
    have hm : w % vs 0 < vs 0 := Nat.mod_lt _ (hp 0)
    have hd : (w % vs 0 + vs 0 * u) / vs 0 = u := by
      rw [Nat.add_mul_div_left _ _ (hp 0), Nat.div_eq_of_lt hm, Nat.zero_add]
    refine ⟨w % vs 0 + vs 0 * u, fun i hi => ?_, ?_, ?_⟩
    · cases i with
      | zero =>
        show (w % vs 0 + vs 0 * u) % vs 0 = w % vs 0
        rw [Nat.add_mul_mod_self_left, Nat.mod_mod]
      | succ i => rw [vl_shift, vl_shift, hd]; exact h1 i (by omega)
    · rw [vl_shift, hd]; exact h2
    · rw [dv_shift, hd, dv_shift vs w]; exact h3
theorem dv_after {vs : Nat → Nat} {w w' a : Nat} (h : dv vs w' a = dv vs w a) : ∀ j, dv vs w' (a + j) = dv vs w (a + j) := by
  intro j
  induction j with
  | zero => exact h
  | succ j ih => rw [← Nat.add_assoc, dv, dv, ih]
theorem codeOf : ∀ (k : Nat) (vs d : Nat → Nat), (∀ i, 1 ≤ vs i) → (∀ i, i < k → d i < vs i) → ∃ j, j < stp vs k ∧ ∀ i, i < k → vl vs j i = d i := by
  intro k
  induction k with
  | zero => intro vs d _ _; exact ⟨0, (show 0 < 1 by decide), fun i hi => absurd hi (Nat.not_lt_zero i)⟩
  | succ k ih =>
    intro vs d hp hd
    obtain ⟨j, h1, h2⟩ := ih (fun i => vs (i + 1)) (fun i => d (i + 1)) (fun i => hp (i + 1)) (fun i hi => hd (i + 1) (by omega))
    have h0 := hd 0 (by omega)
    have hq : (d 0 + vs 0 * j) / vs 0 = j := by
      rw [Nat.add_mul_div_left _ _ (hp 0), Nat.div_eq_of_lt h0, Nat.zero_add]
    refine ⟨d 0 + vs 0 * j, ?_, fun i hi => ?_⟩
    · rw [stp_shift]
      have : vs 0 * (j + 1) ≤ vs 0 * stp (fun i => vs (i + 1)) k := Nat.mul_le_mul_left _ h1
      rw [Nat.mul_succ] at this
      omega
    · cases i with
      | zero =>
        show (d 0 + vs 0 * j) % vs 0 = d 0
        rw [Nat.add_mul_mod_self_left, Nat.mod_eq_of_lt h0]
      | succ i => rw [vl_shift, hq]; exact h2 i (by omega)
theorem world_with {k W w c v : Nat} {vs : Nat → Nat} (h : TG k vs W) (hw : w < W) (hc : c < k) (hv : v < vs c) : ∃ w', w' < W ∧ vl vs w' c = v ∧ ∀ i, i < k → i ≠ c → vl vs w' i = vl vs w i := by
  obtain ⟨w', h1, h2, h3⟩ := change c vs w v (fun i => (h.pos i).1) hv
  have h4 := dv_after h3
  refine ⟨w', ?_, h2, fun i hi hne => ?_⟩
  · have a1 : dv vs w' k = 0 := by
      have := h4 (k - (c + 1))
      rw [show c + 1 + (k - (c + 1)) = k by omega] at this
      rw [this, dv_zero h hw]
    rw [dv_stp] at a1
    rw [h.2.2.2.1]
    rcases Nat.lt_or_ge w' (stp vs k) with q | q
    · exact q
    · have := Nat.div_pos q (stp_pos (fun i => (h.pos i).1) k)
      omega
  · rcases Nat.lt_or_ge i c with q | q
    · exact h1 i q
    · have := h4 (i - (c + 1))
      rw [show c + 1 + (i - (c + 1)) = i by omega] at this
      rw [vl, this]; rfl
/-! digits: a choice fixed to a value, or free -/
def cdg (vs d : Nat → Nat) (w : Nat) : Nat → Bool
  | 0 => true
  | c + 1 => cdg vs d w c && (d c == vs c || vl vs w c == d c)
theorem cdg_iff {vs d : Nat → Nat} {w : Nat} : ∀ k, cdg vs d w k = true ↔ ∀ c, c < k → d c = vs c ∨ vl vs w c = d c := by
  intro k
  induction k with
  | zero => exact ⟨fun _ c hc => absurd hc (Nat.not_lt_zero c), fun _ => rfl⟩
  | succ k ih =>
    rw [cdg, Bool.and_eq_true, ih, Bool.or_eq_true, beq_iff_eq, beq_iff_eq]
    constructor
    · rintro ⟨h1, h2⟩ c hc
      rcases Nat.lt_or_ge c k with q | q
      · exact h1 c q
      · rw [show c = k by omega]; exact h2
    · intro h1
      exact ⟨fun c hc => h1 c (by omega), h1 k (by omega)⟩
def cs (vs : Nat → Nat) (W k : Nat) (d : Nat → Nat) : Nat := ofB (fun w => cdg vs d w k) W
theorem cs_lt (vs : Nat → Nat) (W k : Nat) (d : Nat → Nat) : cs vs W k d < 2 ^ W := ofB_lt _ _
theorem cs_bit {vs : Nat → Nat} {W k w : Nat} {d : Nat → Nat} (hw : w < W) : (cs vs W k d).testBit w = true ↔ ∀ c, c < k → d c = vs c ∨ vl vs w c = d c := by
  rw [cs, ofB_bit, decide_eq_true hw, Bool.true_and, cdg_iff]
def sbs (W a b : Nat) : Prop := ∀ w, w < W → a.testBit w = true → b.testBit w = true
theorem sbs_cm {W a b : Nat} (h9 : W ≤ 9) (h : a < 2 ^ W) : nI a &&& (nI b ^^^ (-1)) = 0 ↔ sbs W a b := by
  have ⟨p1, p2⟩ := p9 h9
  have hl := cm_lt (s := b) h
  rw [cm_I]
  constructor
  · intro z
    exact (cm_eq0 (by omega) h).mp ((nI_eq (b := 0) (by omega) (by decide)).mp z)
  · intro z
    rw [(cm_eq0 (by omega) h).mpr z]; rfl
/-- what a set fixes, but for one choice -/
def dF (vs : Nat → Nat) (W t wo c : Nat) : Nat := if c = wo then vs c else match fx vs W t c with
  | none => vs c
  | some v => v
theorem fx_lt {vs : Nat → Nat} {W t c v : Nat} (h : fx vs W t c = some v) : v < vs c := by
  have := (fnd_some _ _ _ h).2.1
  omega
theorem fx_all {vs : Nat → Nat} {W t c v : Nat} (h9 : W ≤ 9) (ht : t < 2 ^ W) (h : fx vs W t c = some v) : ∀ w, w < W → t.testBit w = true → vl vs w c = v := by
  have h1 := (fnd_some _ _ _ h).2.2.1
  rw [beq_iff_eq] at h1
  have h2 := (cm_eq0 (by omega) ht).mp h1
  intro w hw hb
  have := h2 w hw hb
  rw [mk_bit, decide_eq_true hw, Bool.true_and, beq_iff_eq] at this
  exact this
theorem fx_of {vs : Nat → Nat} {W t c v w0 : Nat} (h9 : W ≤ 9) (ht : t < 2 ^ W) (h0 : w0 < W) (hb : t.testBit w0 = true) (hv : v < vs c) (h : ∀ w, w < W → t.testBit w = true → vl vs w c = v) : fx vs W t c = some v := by
  refine fnd_of hv ?_ (fun u hu => ?_)
  · rw [beq_iff_eq]
    refine (cm_eq0 (by omega) ht).mpr (fun w hw hb => ?_)
    rw [mk_bit, decide_eq_true hw, Bool.true_and, beq_iff_eq]
    exact h w hw hb
  · rw [beq_eq_false_iff_ne]
    intro z
    have := (cm_eq0 (by omega) ht).mp z w0 h0 hb
    rw [mk_bit, decide_eq_true h0, Bool.true_and, beq_iff_eq] at this
    rw [h w0 h0 hb] at this
    omega
/-- a cube gives its digits back -/
theorem fx_cs {k W c w0 : Nat} {vs d : Nat → Nat} (h : TG k vs W) (hc : c < k) (hd : d c ≤ vs c) (h0 : w0 < W) (hb : (cs vs W k d).testBit w0 = true) : fx vs W (cs vs W k d) c = if d c = vs c then none else some (d c) := by
  have h9 := h.le
  by_cases q : d c = vs c
  · rw [if_pos q]
    cases hf : fx vs W (cs vs W k d) c with
    | none => rfl
    | some v =>
      have h2 := (h.2.1 c hc).1
      have h3 := fx_lt hf
      obtain ⟨u, hu, hne⟩ : ∃ u, u < vs c ∧ u ≠ v := by
        by_cases e : v = 0
        · exact ⟨1, by omega, by omega⟩
        · exact ⟨0, by omega, fun z => e z.symm⟩
      obtain ⟨w', g1, g2, g3⟩ := world_with h h0 hc hu
      have g4 : (cs vs W k d).testBit w' = true := by
        rw [cs_bit g1]
        intro i hi
        by_cases e : i = c
        · rw [e]; exact Or.inl q
        · rw [g3 i hi e]; exact (cs_bit h0).mp hb i hi
      have := fx_all h9 (cs_lt _ _ _ _) hf w' g1 g4
      rw [g2] at this
      exact absurd this hne
  · rw [if_neg q]
    exact fx_of h9 (cs_lt _ _ _ _) h0 hb (by omega) (fun w hw hb => ((cs_bit hw).mp hb c hc).resolve_left q)
def vs1 (vs : Nat → Nat) : Nat → Nat := fun i => vs i + 1
def cub (vs : Nat → Nat) (W k j : Nat) : Nat := cs vs W k (vl (vs1 vs) j)
theorem cs_congr {vs d e : Nat → Nat} {W k : Nat} (h : ∀ c, c < k → d c = e c) : cs vs W k d = cs vs W k e := by
  refine ofB_congr (fun w _ => ?_)
  rw [Bool.eq_iff_iff, cdg_iff, cdg_iff]
  exact ⟨fun q c hc => by rw [← h c hc]; exact q c hc, fun q c hc => by rw [h c hc]; exact q c hc⟩
theorem cub_of {vs d : Nat → Nat} {W k : Nat} (h : ∀ c, c < k → d c ≤ vs c) : ∃ j, j < stp (vs1 vs) k ∧ cub vs W k j = cs vs W k d := by
  obtain ⟨j, h1, h2⟩   := codeOf k (vs1 vs) d (fun i => by show 1 ≤ vs i + 1; omega) (fun i hi => by have := h i hi; show d i < vs i + 1; omega)
  exact ⟨j, h1, cs_congr h2⟩
theorem dg_le (vs : Nat → Nat) (j c : Nat) : vl (vs1 vs) j c ≤ vs c := by
  have : vl (vs1 vs) j c < vs1 vs c := Nat.mod_lt _ (Nat.succ_pos _)
  have e : vs1 vs c = vs c + 1 := rfl
  omega
theorem dF_le (vs : Nat → Nat) (W t wo c : Nat) : dF vs W t wo c ≤ vs c := by
  rw [dF]
  by_cases q : c = wo
  · rw [if_pos q]; exact Nat.le_refl _
  · rw [if_neg q]
    cases hf : fx vs W t c with
    | none => exact Nat.le_refl _
    | some v => exact Nat.le_of_lt (fx_lt hf)
theorem nz_bit {W t : Nat} (ht : t < 2 ^ W) (h0 : t ≠ 0) : ∃ w, w < W ∧ t.testBit w = true := by
  by_cases q : ∃ w, w < W ∧ t.testBit w = true
  · exact q
  · exfalso
    apply h0
    refine bit_ext ht (Nat.two_pow_pos W) (fun i hi => ?_)
    rw [Nat.zero_testBit]
    cases hb : t.testBit i with
    | false => rfl
    | true => exact absurd ⟨i, hi, hb⟩ q
theorem sbs_dF {k W t : Nat} {vs : Nat → Nat} (h : TG k vs W) (ht : t < 2 ^ W) (wo : Nat) : sbs W t (cs vs W k (dF vs W t wo)) := by
  intro w hw hb
  rw [cs_bit hw]
  intro c hc
  rw [dF]
  by_cases q : c = wo
  · rw [if_pos q]; exact Or.inl rfl
  · rw [if_neg q]
    cases hf : fx vs W t c with
    | none => exact Or.inl rfl
    | some v => exact Or.inr (fx_all h.le ht hf w hw hb)
/-- the two ways to say what a TERM is -/
theorem term_iff {k W t s : Nat} {vs : Nat → Nat} (h : TG k vs W) (ht : t < 2 ^ W) (h0 : t ≠ 0) : (sbs W t s ∧ cs vs W k (dF vs W t 9) = t ∧ ∀ c, c < k → fx vs W t c ≠ none → ¬ sbs W (cs vs W k (dF vs W t c)) s) ↔ ((∃ u, u < stp (vs1 vs) k ∧ cub vs W k u = t) ∧ sbs W t s ∧ ∀ u, u < stp (vs1 vs) k → ¬ (cub vs W k u ≠ t ∧ sbs W (cub vs W k u) s ∧ sbs W t (cub vs W k u))) := by
  have h9 := h.le
  obtain ⟨w0, hw0, hb0⟩ := nz_bit ht h0
  have fix : ∀ d, (∀ c, c < k → d c ≤ vs c) → sbs W t (cs vs W k d) → ∀ c, c < k → d c ≠ vs c → fx vs W t c = some (d c) := by
    intro d hd hs c hc hne
    exact fx_of h9 ht hw0 hb0 (by have := hd c hc; omega) (fun w hw hb => ((cs_bit hw).mp (hs w hw hb) c hc).resolve_left hne)
  constructor
  · rintro ⟨h1, h2, h3⟩
    refine ⟨?_, h1, ?_⟩
    · obtain ⟨j, j1, j2⟩ := cub_of (d := dF vs W t 9) (W := W) (fun c _ => dF_le vs W t 9 c)
      exact ⟨j, j1, j2.trans h2⟩
    · rintro u hu ⟨g1, g2, g3⟩
      have hfix := fix _ (fun c _ => dg_le vs u c) g3
      by_cases q : ∃ c, c < k ∧ fx vs W t c ≠ none ∧ vl (vs1 vs) u c = vs c
      · obtain ⟨c, hc, hf, he⟩ := q
        refine h3 c hc hf (fun w hw hb => g2 w hw ?_)
        rw [cub, cs_bit hw]
        intro i hi
        by_cases e : vl (vs1 vs) u i = vs i
        · exact Or.inl e
        · have hx := hfix i hi e
          have := (cs_bit hw).mp hb i hi
          rw [dF, if_neg (fun z => e (by rw [z]; exact he)), hx] at this
          have lt := fx_lt hx
          exact Or.inr (this.resolve_left (by show ¬ vl (vs1 vs) u i = vs i; omega))
      · apply g1
        rw [← h2]
        refine cs_congr (fun c hc => ?_)
        have h3 := h.k3
        rw [dF, if_neg (by omega)]
        by_cases e : vl (vs1 vs) u c = vs c
        · cases hf : fx vs W t c with
          | none => exact e
          | some v => exact absurd ⟨c, hc, (by rw [hf]; exact fun z => nomatch z), e⟩ q
        · rw [hfix c hc e]
  · rintro ⟨⟨u, u1, u2⟩, h1, h3⟩
    have hfx : ∀ c, c < k → fx vs W t c = if vl (vs1 vs) u c = vs c then none else some (vl (vs1 vs) u c) := by
      intro c hc
      have := fx_cs (d := vl (vs1 vs) u) h hc (dg_le vs u c) hw0 (by rw [← u2] at hb0; exact hb0)
      rw [show cs vs W k (vl (vs1 vs) u) = t from u2] at this
      exact this
    refine ⟨h1, ?_, ?_⟩
    · rw [← u2]
      refine cs_congr (fun c hc => ?_)
      have h3 := h.k3
      rw [u2, dF, if_neg (by omega), hfx c hc]
      by_cases e : vl (vs1 vs) u c = vs c
      · rw [if_pos e]; exact e.symm
      · rw [if_neg e]
    · intro c hc hf hsub
      obtain ⟨j, j1, j2⟩ := cub_of (d := dF vs W t c) (W := W) (fun i _ => dF_le vs W t c i)
      refine h3 j j1 ⟨?_, ?_, ?_⟩
      · intro z
        rw [j2] at z
        have := fx_cs (d := dF vs W t c) h hc (dF_le vs W t c c) hw0 (by rw [z]; exact hb0)
        rw [z, dF, if_pos rfl, if_pos rfl] at this
        exact hf this
      · rw [j2]; exact hsub
      · rw [j2]; exact sbs_dF h ht c
