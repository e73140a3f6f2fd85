/-! short sayings: what is read off the lengths -/
def lnI (t : Nat → Nat) (s : Nat) : Int32 := if t s = 0 then -9 else nI (t s)
/-- a row holds the lengths -/
def LT (W : Nat) (fl : Nat → Int32) (t : Nat → Nat) : Prop := ∀ s, s < 2 ^ W → fl s = nI (t s) ∧ t s ≤ 27
theorem of_eq {W s : Nat} {fl : Nat → Int32} {t : Nat → Nat} (h9 : W ≤ 9) (h : LT W fl t) (hs : s < 2 ^ W) : P_X1_of (nI s) fl = some (lnI t s) := by
  have ⟨p1, p2⟩ := p9 h9
  obtain ⟨h1, h2⟩ := h s hs
  unfold P_X1_of
  rw [at_in fl (show s < 512 by omega) (by decide), Option.bind_some, h1, lnI]
  by_cases h0 : t s = 0
  · rw [h0, if_pos (show nI 0 ≤ 0 by decide), if_pos rfl]
  · rw [if_neg (nI_nle (by omega) (by omega)), if_neg h0]
theorem lengthOf_eq {W s : Nat} {fl : Nat → Int32} {t : Nat → Nat} (h9 : W ≤ 9) (h : LT W fl t) (hs : s < 2 ^ W) : P_X11_lengthOf (nI s) fl = some (lnI t s) := by
  have ⟨p1, p2⟩ := p9 h9
  obtain ⟨h1, h2⟩ := h s hs
  unfold P_X11_lengthOf
  rw [ck_in _ (show s < 512 by omega) (by decide), nI_clamp (by omega), h1, lnI]
  by_cases h0 : t s = 0
  · rw [h0, if_pos (show nI 0 = 0 from rfl), if_pos rfl]
  · rw [if_neg (nI_ne (by omega) (by omega)), if_neg h0, ck_in _ (show s < 512 by omega) (by decide)]
theorem n9_ne {n : Nat} (h : n < 2 ^ 31) : ¬ nI n = -9 := by
  intro e
  have : (nI n).toInt = (-9 : Int32).toInt := by rw [e]
  rw [nI_toInt h] at this
  have e2 : (-9 : Int32).toInt = -9 := by decide
  omega
theorem lnI_9 {t : Nat → Nat} {s : Nat} (h : t s ≤ 27) : lnI t s = -9 ↔ t s = 0 := by
  rw [lnI]
  by_cases h0 : t s = 0
  · rw [if_pos h0]; exact ⟨fun _ => h0, fun _ => rfl⟩
  · rw [if_neg h0]; exact ⟨fun e => absurd e (n9_ne (by omega)), fun e => absurd e h0⟩
/-! made: the first sign -/
def ffg (k : Nat) (vs : Nat → Nat) (W nw : Nat) (wl : Nat → Nat) (s : Nat) : Nat → Nat → Option Nat
  | 0, _ => none
  | m + 1, g => match fnd (fun i => gF vs W wl g i == s) (gM k vs nw g) 0 with
    | some i => some (10 * g + i)
    | none => ffg k vs W nw wl s m (g + 1)
def t9 (o : Option Nat) : Int32 := match o with
  | some v => nI v
  | none => -9
theorem ff_in {k W nw s c : Nat} {vs wl : Nat → Nat} {fv fl fw : Nat → Int32} {K1 : Int32 → Int32 → Option Int32} {K2 : Unit → Option Int32} (h : CT k vs W fv fl) (hw : WD W nw wl fw) (hs : s < 2 ^ W) (hc : c ≤ 3) : ∀ (m i n : Nat), i + m = gM k vs nw c → m < n → P_X5_firstFor_9 (nI s) (nI k) fv fl (nI nw) fw K1 (nI c) K2 n (nI i) = match fnd (fun i => gF vs W wl c i == s) m i with
    | some v => K1 (nI c) (nI v)
    | none => K2 () := by
  have h5 := h.1.lt512 hs
  have hM := gM_lt (c := c) h.1 hw.1
  intro m
  induction m with
  | zero =>
    intro i n hi hn
    obtain ⟨n, rfl⟩ : ∃ q, n = q + 1 := ⟨n - 1, by omega⟩
    rw [P_X5_firstFor_9, many_eq h hc hw.1, Option.bind_some, if_pos (nI_le (by omega) (by omega))]
    rfl
  | succ m ih =>
    intro i n hi hn
    obtain ⟨n, rfl⟩ : ∃ q, n = q + 1 := ⟨n - 1, by omega⟩
    obtain ⟨l1, l2⟩ := sLeft_eq (i := i) h hw hc (by omega)
    have l3 := h.1.lt512 l2
    rw [P_X5_firstFor_9, many_eq h hc hw.1, Option.bind_some, if_neg (nI_ge (by omega) (by omega)), l1, Option.bind_some, fnd]
    by_cases e : gF vs W wl c i = s
    · rw [if_pos (by rw [e]), if_pos (by rw [e]; simp)]
    · rw [if_neg (fun z => e ((nI_eq (by omega) (by omega)).mp z)), if_neg (by simp [e]), nI_1]
      exact ih (i + 1) n (by omega) (by omega)
theorem ff_out {k W nw s : Nat} {vs wl : Nat → Nat} {fv fl fw : Nat → Int32} (h : CT k vs W fv fl) (hw : WD W nw wl fw) (hs : s < 2 ^ W) : ∀ (m c n : Nat), c + m = 4 → m < n → P_X5_firstFor_2 (nI s) (nI k) fv fl (nI nw) fw (fun a b => some ((10 * a) + b)) n (nI c) = some (t9 (ffg k vs W nw wl s m c)) := by
  intro m
  induction m with
  | zero =>
    intro c n hi hn
    obtain ⟨n, rfl⟩ : ∃ q, n = q + 1 := ⟨n - 1, by omega⟩
    rw [P_X5_firstFor_2, e3, if_pos (nI_lt (by omega) (by omega))]
    rfl
  | succ m ih =>
    intro c n hi hn
    obtain ⟨n, rfl⟩ : ∃ q, n = q + 1 := ⟨n - 1, by omega⟩
    have hM := gM_lt (c := c) h.1 hw.1
    rw [P_X5_firstFor_2, e3, if_neg (nI_nlt (by omega) (by decide)), jn]
    have a1 := ff_in (K1 := fun a b => some ((10 * a) + b)) (K2 := fun _ => P_X5_firstFor_2 (nI s) (nI k) fv fl (nI nw) fw (fun a b => some ((10 * a) + b)) n (nI c + 1)) h hw hs (show c ≤ 3 by omega) (gM k vs nw c) 0 QF (by omega) (by unfold QF; omega)
    have a1' : P_X5_firstFor_9 (nI s) (nI k) fv fl (nI nw) fw _ (nI c) _ QF (0 : Int32) = _ := a1
    rw [a1', ffg]
    cases hf : fnd (fun i => gF vs W wl c i == s) (gM k vs nw c) 0 with
    | some v =>
      show some (10 * nI c + nI v) = some (nI (10 * c + v))
      rw [e10, pk_mul, nI_add]
    | none =>
      show P_X5_firstFor_2 (nI s) (nI k) fv fl (nI nw) fw (fun a b => some ((10 * a) + b)) n (nI c + 1) = _
      rw [nI_1]
      exact ih (c + 1) n (by omega) (by omega)
theorem firstFor_eq {k W nw s : Nat} {vs wl : Nat → Nat} {fv fl fw : Nat → Int32} (h : CT k vs W fv fl) (hw : WD W nw wl fw) (hs : s < 2 ^ W) : P_X5_firstFor (nI s) (nI k) fv fl (nI nw) fw = some (t9 (ffg k vs W nw wl s 4 0)) := by
  unfold P_X5_firstFor
  rw [jn]
  exact ff_out h hw hs 4 0 QF (by omega) (by unfold QF; omega)
theorem ffg_none {k W nw s : Nat} {vs wl : Nat → Nat} : ∀ (m c : Nat), ffg k vs W nw wl s m c = none → ∀ g, c ≤ g → g < c + m → ∀ i, i < gM k vs nw g → gF vs W wl g i ≠ s := by
  intro m
  induction m with
  | zero => intro c _ g h1 h2; omega
  | succ m ih =>
    intro c h g h1 h2 i hi
    rw [ffg] at h
    cases hf : fnd (fun i => gF vs W wl c i == s) (gM k vs nw c) 0 with
    | some v => rw [hf] at h; cases h
    | none =>
      rw [hf] at h
      by_cases hg : g = c
      · subst hg
        have := fnd_none _ _ hf i (by omega) (by omega)
        simpa using this
      · exact ih (c + 1) h g (by omega) (by omega) i hi
theorem ffg_some {k W nw s v : Nat} {vs wl : Nat → Nat} : ∀ (m c : Nat), ffg k vs W nw wl s m c = some v → ∃ g i, c ≤ g ∧ g < c + m ∧ i < gM k vs nw g ∧ gF vs W wl g i = s ∧ v = 10 * g + i := by
  intro m
  induction m with
  | zero => intro c h; cases h
  | succ m ih =>
    intro c h
    rw [ffg] at h
    cases hf : fnd (fun i => gF vs W wl c i == s) (gM k vs nw c) 0 with
    | some i =>
      rw [hf] at h
      cases h
      obtain ⟨-, h2, h3, -⟩ := fnd_some _ _ _ hf
      exact ⟨c, i, Nat.le_refl _, by omega, by omega, by simpa using h3, rfl⟩
    | none =>
      rw [hf] at h
      obtain ⟨g, i, h1, h2, h3⟩ := ih (c + 1) h
      exact ⟨g, i, by omega, by omega, h3⟩
theorem GS_iff {k W nw s : Nat} {vs wl : Nat → Nat} (h : TG k vs W) : GS k vs W nw wl none s ↔ ∃ g i, g < 4 ∧ i < gM k vs nw g ∧ gF vs W wl g i = s := by
  have := signs_mem (k := k) (W := W) (nw := nw) (vs := vs) (wl := wl) (mo := none) h (s := s)
  rw [← this, List.mem_append, mem_ggl, mem_mol]
  constructor
  · rintro (⟨r, h1, h2, i, h3, h4⟩ | q)
    · exact ⟨r, i, by omega, h3, h4⟩
    · cases q
  · rintro ⟨g, i, h1, h2, h3⟩
    exact Or.inl ⟨g, Nat.zero_le _, by omega, i, h2, h3⟩
theorem ffg_iff {k W nw s : Nat} {vs wl : Nat → Nat} (h : TG k vs W) : ffg k vs W nw wl s 4 0 ≠ none ↔ GS k vs W nw wl none s := by
  rw [GS_iff h]
  constructor
  · intro hn
    cases hf : ffg k vs W nw wl s 4 0 with
    | none => exact absurd hf hn
    | some v =>
      obtain ⟨g, i, h1, h2, h3, h4, -⟩ := ffg_some 4 0 hf
      exact ⟨g, i, by omega, h3, h4⟩
  · rintro ⟨g, i, h1, h2, h3⟩ hn
    exact ffg_none 4 0 hn g (by omega) (by omega) i h2 h3
theorem TF_one {G : Nat → Prop} {s : Nat} : TF G s = 1 ↔ G s := by
  rw [TF]
  constructor
  · intro h
    have h1 := T_val (G := G) 27 s (by omega)
    rw [h] at h1
    by_cases g : G s
    · exact g
    · have h2 := T_no (G := G) (n := 0) (s := s) rfl (by
        rintro (⟨-, z⟩ | ⟨x, y, x0, -⟩)
        · exact g z
        · exact x0 rfl)
      exact absurd (h1.symm.trans h2) (by decide)
  · intro h
    have h1 : T G 1 s = 1 := T_new (n := 0) rfl (Or.inl ⟨rfl, h⟩)
    rw [T_up (n := 1) (m := 27) (by omega) (by omega), h1]
theorem sb_in {k W s c : Nat} {vs : Nat → Nat} {mv : Nat → Int32} {K1 : Int32 → Int32 → Option Int32} {K2 : Unit → Option Int32} (h : MT k vs W mv) (hs : s < 2 ^ W) (hc : c < k) : ∀ (m i n : Nat), i + m = vs c → m < n → P_X11_signBy_12 (nI s) (nI W) mv K1 (nI c) K2 n (nI i) = match fnd (fun i => mk vs W c i == s) m i with
    | some v => K1 (nI c) (nI v)
    | none => K2 () := by
  have h3 := h.1.k3
  have h5 := h.1.lt512 hs
  have hM := (h.1.pos c).2
  intro m
  induction m with
  | zero =>
    intro i n hi hn
    obtain ⟨n, rfl⟩ : ∃ q, n = q + 1 := ⟨n - 1, by omega⟩
    rw [P_X11_signBy_12, ck_in _ (show c < 3 by omega) (by decide), nI_clamp (by omega), h.2 c hc, if_pos (nI_le (by omega) (by omega))]
    rfl
  | succ m ih =>
    intro i n hi hn
    obtain ⟨n, rfl⟩ : ∃ q, n = q + 1 := ⟨n - 1, by omega⟩
    have l3 := h.1.lt512 (mk_lt vs W c i)
    rw [P_X11_signBy_12, ck_in _ (show c < 3 by omega) (by decide), nI_clamp (by omega), h.2 c hc, if_neg (nI_ge (by omega) (by omega)), worldsOf_eq h hc (by omega), Option.bind_some, fnd]
    by_cases e : mk vs W c i = s
    · rw [if_pos (by rw [e]), if_pos (by rw [e]; simp)]
    · rw [if_neg (fun z => e ((nI_eq (by omega) (by omega)).mp z)), if_neg (by simp [e]), nI_1]
      exact ih (i + 1) n (by omega) (by omega)
/-- the first sign of the choices from c on; else what comes then -/
theorem sb_out {k W nw s : Nat} {vs wl : Nat → Nat} {mv : Nat → Int32} {K2 : Unit → Option Int32} (h : MT k vs W mv) (hs : s < 2 ^ W) : ∀ (m c n : Nat), c + m = k → m < n → (∀ v, ffg k vs W nw wl s (4 - k) k = some v → K2 () = some (nI v)) → ∀ v, ffg k vs W nw wl s (4 - c) c = some v → P_X11_signBy_2 (nI s) (nI k) (nI W) mv K2 (fun a b => some ((10 * a) + b)) n (nI c) = some (nI v) := by
  have h3 := h.1.k3
  intro m
  induction m with
  | zero =>
    intro c n hi hn hK v hv
    obtain ⟨n, rfl⟩ : ∃ q, n = q + 1 := ⟨n - 1, by omega⟩
    have : c = k := by omega
    subst this
    rw [P_X11_signBy_2, if_pos (nI_le (Nat.le_refl _) (by omega))]
    exact hK v hv
  | succ m ih =>
    intro c n hi hn hK v hv
    obtain ⟨n, rfl⟩ : ∃ q, n = q + 1 := ⟨n - 1, by omega⟩
    have hM := (h.1.pos c).2
    rw [P_X11_signBy_2, if_neg (nI_ge (by omega) (by omega)), jn]
    have a1 := sb_in (K1 := fun a b => some ((10 * a) + b)) (K2 := fun _ => P_X11_signBy_2 (nI s) (nI k) (nI W) mv K2 (fun a b => some ((10 * a) + b)) n (nI c + 1)) h hs (show c < k by omega) (vs c) 0 QF (by omega) (by unfold QF; omega)
    have a1' : P_X11_signBy_12 (nI s) (nI W) mv _ (nI c) _ QF (0 : Int32) = _ := a1
    rw [a1']
    rw [show 4 - c = (4 - (c + 1)) + 1 by omega, ffg] at hv
    have eM : gM k vs nw c = vs c := by rw [gM, if_neg (by omega), if_pos (by omega)]
    have eF : (fun i => gF vs W wl c i == s) = (fun i => mk vs W c i == s) := funext (fun i => by rw [gF, if_neg (by omega)])
    rw [eM, eF] at hv
    cases hf : fnd (fun i => mk vs W c i == s) (vs c) 0 with
    | some i =>
      rw [hf] at hv
      cases hv
      show some (10 * nI c + nI i) = some (nI (10 * c + i))
      rw [e10, pk_mul, nI_add]
    | none =>
      rw [hf] at hv
      show P_X11_signBy_2 (nI s) (nI k) (nI W) mv K2 (fun a b => some ((10 * a) + b)) n (nI c + 1) = _
      rw [nI_1]
      exact ih (c + 1) n (by omega) (by omega) hK v hv
theorem ffg_empty {k W nw s : Nat} {vs wl : Nat → Nat} : ∀ d, d + k ≤ 3 → ffg k vs W nw wl s (4 - k) k = ffg k vs W nw wl s (4 - (k + d)) (k + d) := by
  intro d
  induction d with
  | zero => intro _; rfl
  | succ d ih =>
    intro hd
    rw [ih (by omega), show 4 - (k + d) = (4 - (k + (d + 1))) + 1 by omega, ffg]
    have e : gM k vs nw (k + d) = 0 := by rw [gM, if_neg (by omega), if_neg (by omega)]
    rw [e]
    rfl
theorem sb_word {W nw s : Nat} {wl : Nat → Nat} {mw : Nat → Int32} (h9 : W ≤ 9) (hw : WD W nw wl mw) (hs : s < 2 ^ W) : ∀ (m i n : Nat), i + m = nw → m < n → ∀ v, fnd (fun i => wl i == s) m i = some v → P_X11_signBy_53 (nI s) mw (fun a => some (30 + a)) n (nI i) = some (nI (30 + v)) := by
  have ⟨p1, p2⟩ := p9 h9
  have h3 := hw.1
  intro m
  induction m with
  | zero => intro i n _ _ v hv; cases hv
  | succ m ih =>
    intro i n hi hn v hv
    obtain ⟨n, rfl⟩ : ∃ q, n = q + 1 := ⟨n - 1, by omega⟩
    obtain ⟨l1, l2⟩ := hw.2 i (by omega)
    rw [P_X11_signBy_53, ck_in _ (show i < 9 by omega) (by decide), nI_clamp (by omega), l1]
    rw [fnd] at hv
    by_cases e : wl i = s
    · rw [if_pos (by rw [e]; simp)] at hv
      cases hv
      rw [if_pos (by rw [e]), e30, nI_add]
    · rw [if_neg (by simp [e])] at hv
      rw [if_neg (fun z => e ((nI_eq (by omega) (by omega)).mp z)), nI_1]
      exact ih (i + 1) n (by omega) (by omega) v hv
theorem signBy_eq {k W nw s v : Nat} {vs wl : Nat → Nat} {mv mw : Nat → Int32} (h : MT k vs W mv) (hw : WD W nw wl mw) (hs : s < 2 ^ W) (hv : ffg k vs W nw wl s 4 0 = some v) : P_X11_signBy (nI s) (nI k) (nI W) mv mw = some (nI v) := by
  have h3 := h.1.k3
  unfold P_X11_signBy
  rw [jn, jn]
  refine sb_out (nw := nw) (wl := wl) h hs k 0 QF (by omega) (by unfold QF; omega) (fun u hu => ?_) v hv
  show jn (fun x69_l2 => some (30 + x69_l2)) (fun k69 => P_X11_signBy_53 (nI s) mw k69 QF 0) = some (nI u)
  rw [jn]
  rw [ffg_empty (3 - k) (by omega), show k + (3 - k) = 3 by omega, ffg] at hu
  have eM : gM k vs nw 3 = nw := by rw [gM, if_pos rfl]
  have eF : (fun i => gF vs W wl 3 i == s) = (fun i => wl i == s) := funext (fun i => by rw [gF, if_pos rfl])
  rw [eM, eF] at hu
  cases hf : fnd (fun i => wl i == s) nw 0 with
  | none => rw [hf] at hu; cases hu
  | some i =>
    rw [hf] at hu
    cases hu
    exact sb_word h.1.le hw hs nw 0 QF (by omega) (by have := hw.1; unfold QF; omega) i hf
