/-! worst: the signs in their order -/
def fld {α : Type} (f : Nat → α → α) : Nat → Nat → α → α
  | 0, _, a => a
  | m + 1, i, a => fld f m (i + 1) (f i a)
theorem fld_add {α : Type} (f : Nat → α → α) (b : Nat) : ∀ (a i : Nat) (x : α), fld f (a + b) i x = fld f b (i + a) (fld f a i x) := by
  intro a
  induction a with
  | zero => intro i x; rw [Nat.zero_add]; rfl
  | succ a ih =>
    intro i x
    rw [show a + 1 + b = (a + b) + 1 by omega, fld, ih, fld, show i + 1 + a = i + (a + 1) by omega]
theorem fld_congr {α : Type} {f g : Nat → α → α} : ∀ (m i : Nat) (a : α), (∀ j a, i ≤ j → j < i + m → f j a = g j a) → fld f m i a = fld g m i a := by
  intro m
  induction m with
  | zero => intro i a _; rfl
  | succ m ih =>
    intro i a h
    rw [fld, fld, h i a (Nat.le_refl _) (by omega)]
    exact ih _ _ (fun j a h1 h2 => h j a (by omega) (by omega))
theorem fld_shift {α : Type} (f : Nat → α → α) (b : Nat) : ∀ (m i : Nat) (a : α), fld f m (b + i) a = fld (fun j => f (b + j)) m i a := by
  intro m
  induction m with
  | zero => intro i a; rfl
  | succ m ih => intro i a; rw [fld, fld]; exact ih (i + 1) _
theorem fld_cut {α : Type} (f : Nat → α → α) (n : Nat) : ∀ (m i : Nat) (a : α), n ≤ i + m → fld (fun v a => if v < n then f v a else a) m i a = fld f (n - i) i a := by
  intro m
  induction m with
  | zero => intro i a h; rw [show n - i = 0 by omega]; rfl
  | succ m ih =>
    intro i a h
    rw [fld, ih _ _ (by omega)]
    by_cases q : i < n
    · rw [if_pos q, show n - i = (n - (i + 1)) + 1 by omega, fld]
    · rw [if_neg q, show n - i = 0 by omega, show n - (i + 1) = 0 by omega]; rfl
theorem fld_map {α β : Type} {f : Nat → α → α} {g : Nat → β → β} (φ : α → β) : ∀ (m i : Nat) (a : α), (∀ j a, i ≤ j → j < i + m → φ (f j a) = g j (φ a)) → φ (fld f m i a) = fld g m i (φ a) := by
  intro m
  induction m with
  | zero => intro i a _; rfl
  | succ m ih =>
    intro i a h
    rw [fld, fld, ih _ _ (fun j a h1 h2 => h j a (by omega) (by omega)), h i a (Nat.le_refl _) (by omega)]
def sgs {α : Type} (vs : Nat → Nat) (F : Nat → Nat → α → α) (s : Nat) (a : α) : α := if s % 10 < vs (s / 10) then F (s / 10) (s % 10) a else a
def nst {α : Type} (vs : Nat → Nat) (F : Nat → Nat → α → α) (c : Nat) (a : α) : α := fld (F c) (vs c) 0 a
theorem fld_signs {α : Type} {vs : Nat → Nat} (F : Nat → Nat → α → α) (hv : ∀ c, vs c ≤ 9) : ∀ (m c : Nat) (a : α), fld (sgs vs F) (10 * m) (10 * c) a = fld (nst vs F) m c a := by
  intro m
  induction m with
  | zero => intro c a; rfl
  | succ m ih =>
    intro c a
    rw [show 10 * (m + 1) = 10 + 10 * m by omega, fld_add, show 10 * c + 10 = 10 * (c + 1) by omega, ih]
    have e : fld (sgs vs F) 10 (10 * c) a = nst vs F c a := by
      have a1 := fld_shift (sgs vs F) (10 * c) 10 0 a
      rw [Nat.add_zero] at a1
      rw [a1, nst, fld_congr (g := fun v a => if v < vs c then F c v a else a) 10 0 a (fun j a _ hj => by
        rw [sgs, show (10 * c + j) / 10 = c by omega, show (10 * c + j) % 10 = j by omega]), fld_cut _ _ _ _ _ (by have := hv c; omega), Nat.sub_zero]
    rw [e]; rfl
/-- what refusing a sign leaves -/
def rfs (vs : Nat → Nat) (W c v : Nat) : Nat := cm (2 ^ W - 1) (mk vs W c v)
theorem rfs_lt (vs : Nat → Nat) (W c v : Nat) : rfs vs W c v < 2 ^ W := cmW_lt _ _
theorem sdiv {s : Nat} (hs : s < 2 ^ 31) : nI s / 10 = nI (s / 10) := by rw [e10, pk_div hs (by decide) (by decide)]
theorem srem {s : Nat} (hs : s < 2 ^ 31) : nI s - nI s / 10 * 10 = nI (s % 10) := by rw [e10, pk_rem hs (by decide) (by decide)]
theorem isSign_eq {k W s : Nat} {vs : Nat → Nat} {fv fl : Nat → Int32} (h : CT k vs W fv fl) (hs : s < 10 * k) : P_X3_isSign (nI s) (nI k) fv = some (bI (decide (s % 10 < vs (s / 10)))) := by
  have h3 := h.1.k3
  have hv := h.1.pos (s / 10)
  unfold P_X3_isSign
  rw [srem (by omega), sdiv (by omega), valuesOf_in h (by omega), Option.bind_some]
  by_cases q : s % 10 < vs (s / 10)
  · rw [if_neg (nI_ge q (by omega)), decide_eq_true q]; rfl
  · rw [if_pos (nI_le (by omega) (by omega)), decide_eq_false q]; rfl
theorem allBut_eq {k W s : Nat} {vs : Nat → Nat} {fv fl : Nat → Int32} (h : CT k vs W fv fl) (hs : s < 10 * k) (hv : s % 10 < vs (s / 10)) : P_X3_allBut (nI s) (nI W) fl = some (nI (rfs vs W (s / 10) (s % 10))) := by
  have h3 := h.1.k3
  unfold P_X3_allBut
  rw [srem (by omega), sdiv (by omega), leftBy_in h (by omega) hv, Option.bind_some, others_eq h.1.le, Option.bind_some]
  rfl
theorem lnI_pos {t : Nat → Nat} {s : Nat} (h : 1 ≤ t s) : lnI t s = nI (t s) := by rw [lnI, if_neg (by omega)]
/-- the length of a sign's refusal -/
def rl (t : Nat → Nat) (vs : Nat → Nat) (W s : Nat) : Nat := t (rfs vs W (s / 10) (s % 10))
theorem lengthFor_eq {k W s : Nat} {vs : Nat → Nat} {fv fl ll : Nat → Int32} {t : Nat → Nat} (h : CT k vs W fv fl) (hL : LT W ll t) (ht : ∀ s, s < 2 ^ W → 1 ≤ t s) (hs : s < 10 * k) (hv : s % 10 < vs (s / 10)) : P_X3_lengthFor (nI s) (nI W) fl ll = some (nI (rl t vs W s)) := by
  unfold P_X3_lengthFor
  rw [allBut_eq h hs hv, Option.bind_some, of_eq h.1.le hL (rfs_lt _ _ _ _), lnI_pos (ht _ (rfs_lt _ _ _ _)), Option.bind_some]
  rfl
def wF (L : Nat → Nat) (c v q : Nat) : Nat := if L q < L (10 * c + v) then 10 * c + v else q
theorem longestSign_loop {k W : Nat} {vs : Nat → Nat} {fv fl ll : Nat → Int32} {t : Nat → Nat} (h : CT k vs W fv fl) (hL : LT W ll t) (ht : ∀ s, s < 2 ^ W → 1 ≤ t s) : ∀ (m s n q : Nat), s + m = 10 * k → m < n → q < 10 * k → q % 10 < vs (q / 10) → ∃ q', P_X3_longestSign_4 (nI k) (nI W) fv fl ll n (nI q) (nI s) = some (nI q') ∧ q' = fld (sgs vs (wF (rl t vs W))) m s q ∧ q' < 10 * k ∧ q' % 10 < vs (q' / 10) := by
  have h3 := h.1.k3
  intro m
  induction m with
  | zero =>
    intro s n q hi hn hq hv
    obtain ⟨n, rfl⟩ : ∃ q, n = q + 1 := ⟨n - 1, by omega⟩
    refine ⟨q, ?_, rfl, hq, hv⟩
    rw [P_X3_longestSign_4]
    unfold P_X8_choices
    rw [Option.bind_some, e10, pk_mul, if_pos (nI_le (by omega) (by omega))]
  | succ m ih =>
    intro s n q hi hn hq hv
    obtain ⟨n, rfl⟩ : ∃ q, n = q + 1 := ⟨n - 1, by omega⟩
    rw [P_X3_longestSign_4]
    unfold P_X8_choices
    rw [Option.bind_some, e10, pk_mul, if_neg (nI_ge (by omega) (by omega)), isSign_eq h (by omega), Option.bind_some, jn, nI_1, fld, sgs]
    by_cases hs : s % 10 < vs (s / 10)
    · rw [decide_eq_true hs, if_neg (show ¬ bI true = 0 by decide), if_pos hs, lengthFor_eq h hL ht (by omega) hs, lengthFor_eq h hL ht hq hv, Option.bind_some, Option.bind_some]
      have l1 : rl t vs W s ≤ 27 := (hL _ (rfs_lt _ _ _ _)).2
      have l2 : rl t vs W q ≤ 27 := (hL _ (rfs_lt _ _ _ _)).2
      have e : 10 * (s / 10) + s % 10 = s := Nat.div_add_mod s 10
      rw [wF, e]
      by_cases hl : rl t vs W q < rl t vs W s
      · rw [if_neg (nI_ge hl (by omega)), if_pos hl]
        exact ih (s + 1) n s (by omega) (by omega) (by omega) hs
      · rw [if_pos (nI_le (by omega) (by omega)), if_neg hl]
        exact ih (s + 1) n q (by omega) (by omega) hq hv
    · rw [decide_eq_false hs, if_pos (show bI false = 0 from rfl), if_neg hs]
      exact ih (s + 1) n q (by omega) (by omega) hq hv
/-- the sign whose refusal is longest -/
def wst (k : Nat) (vs : Nat → Nat) (L : Nat → Nat) : Nat := fld (nst vs (wF L)) k 0 0
theorem vs0 {k W : Nat} {vs : Nat → Nat} (h : TG k vs W) (hk : 1 ≤ k) : 2 ≤ vs 0 := (h.2.1 0 hk).1
theorem longestSign_eq {k W : Nat} {vs : Nat → Nat} {fv fl ll : Nat → Int32} {t : Nat → Nat} (h : CT k vs W fv fl) (hk : 1 ≤ k) (hL : LT W ll t) (ht : ∀ s, s < 2 ^ W → 1 ≤ t s) : P_X3_longestSign (nI k) (nI W) fv fl ll = some (nI (wst k vs (rl t vs W))) ∧ wst k vs (rl t vs W) < 10 * k ∧ wst k vs (rl t vs W) % 10 < vs (wst k vs (rl t vs W) / 10) := by
  have h3 := h.1.k3
  have h0 := vs0 h.1 hk
  obtain ⟨q', a1, a2, a3, a4⟩ := longestSign_loop h hL ht (10 * k) 0 QF 0 (by omega) (by unfold QF; omega) (by omega) (by simpa using (by omega : 0 < vs 0))
  have e := fld_signs (wF (rl t vs W)) (fun c => (h.1.pos c).2) k 0 0
  rw [Nat.mul_zero] at e
  rw [e] at a2
  rw [show wst k vs (rl t vs W) = q' from a2.symm]
  exact ⟨a1, a3, a4⟩
/-! the model's -/
def wO (L : Nat → Nat) (c v : Nat) (o : Option Nat) : Option Nat := match o with
  | none => some (10 * c + v)
  | some q => some (wF L c v q)
def olI (L : Nat → Nat) (o : Option Nat) : Int32 := match o with
  | none => -9
  | some q => nI (L q)
theorem wO_some (L : Nat → Nat) (c : Nat) : ∀ (m i q : Nat), fld (wO L c) m i (some q) = some (fld (wF L c) m i q) := fun m i q => (fld_map some m i q (fun _ _ _ _ => rfl)).symm
theorem wO_nst {k : Nat} {vs : Nat → Nat} {L : Nat → Nat} (hk : 1 ≤ k) (h0 : 1 ≤ vs 0) : fld (nst vs (wO L)) k 0 none = some (wst k vs L) := by
  obtain ⟨k, rfl⟩ : ∃ q, k = q + 1 := ⟨k - 1, by omega⟩
  rw [fld, wst, fld, nst, nst]
  obtain ⟨x, hx⟩ : ∃ q, vs 0 = q + 1 := ⟨vs 0 - 1, by omega⟩
  rw [hx, fld, fld]
  show fld (nst vs (wO L)) k (0 + 1) (fld (wO L 0) x (0 + 1) (some (10 * 0 + 0))) = _
  rw [wO_some, show wF L 0 0 0 = 10 * 0 + 0 by rw [wF]; split <;> rfl]
  exact (fld_map some k (0 + 1) _ (fun j a _ _ => (wO_some L j (vs j) 0 a).symm)).symm
theorem n_gt9 {n : Nat} (h : n < 2 ^ 31) : ¬ nI n ≤ -9 := by
  rw [Int32.le_iff_toInt_le, nI_toInt h]
  have : (-9 : Int32).toInt = -9 := by decide
  omega
theorem rl_at {t vs : Nat → Nat} {W c v : Nat} (hv : v < 10) : rl t vs W (10 * c + v) = t (rfs vs W c v) := by
  rw [rl, show (10 * c + v) / 10 = c by omega, show (10 * c + v) % 10 = v by omega]
theorem worstm_in {k W c : Nat} {vs : Nat → Nat} {mv : Nat → Int32} {z : Int32 × (Nat → Int32) × (Nat → Int32)} {t : Nat → Nat} {K : Int32 → Int32 → Option (Int32 × Int32 × (Nat → Int32) × (Nat → Int32))} (h : MT k vs W mv) (hc : c < k) (hL : LT W z.2.1 t) (ht : ∀ s, s < 2 ^ W → 1 ≤ t s) : ∀ (m v n : Nat) (o : Option Nat), v + m = vs c → m < n → P_X11_worst_37 (nI W) mv z (nI c) K n (t9 o) (olI (rl t vs W) o) (nI v) = K (t9 (fld (wO (rl t vs W) c) m v o)) (olI (rl t vs W) (fld (wO (rl t vs W) c) m v o)) := by
  have h3 := h.1.k3
  have hp := h.1.pos c
  intro m
  induction m with
  | zero =>
    intro v n o hi hn
    obtain ⟨n, rfl⟩ : ∃ q, n = q + 1 := ⟨n - 1, by omega⟩
    rw [P_X11_worst_37, ck_in _ (by omega) (by decide), nI_clamp (by omega), h.2 c (by omega), if_pos (nI_le (by omega) (by omega))]
    rfl
  | succ m ih =>
    intro v n o hi hn
    obtain ⟨n, rfl⟩ : ∃ q, n = q + 1 := ⟨n - 1, by omega⟩
    have nx := fun o => ih (v + 1) n o (by omega) (by omega)
    have hl := (hL (rfs vs W c v) (rfs_lt _ _ _ _)).2
    have hl1 := ht (rfs vs W c v) (rfs_lt _ _ _ _)
    rw [P_X11_worst_37, ck_in _ (by omega) (by decide), nI_clamp (by omega), h.2 c (by omega), if_neg (nI_ge (by omega) (by omega)), allSets_eq h.1.le, worldsOf_eq h (by omega) (by omega), Option.bind_some, Option.bind_some, cm_I]
    have e : P_X11_lengthOf (nI (cm (2 ^ W - 1) (mk vs W c v))) z.2.1 = some (nI (t (rfs vs W c v))) := by
      rw [lengthOf_eq h.1.le hL (cmW_lt _ _)]
      exact congrArg some (lnI_pos hl1)
    rw [e, Option.bind_some, jn, fld, nI_1]
    have big : t9 (some (10 * c + v)) = 10 * nI c + nI v := by
      show nI (10 * c + v) = _
      rw [e10, pk_mul, nI_add]
    have val : olI (rl t vs W) (some (10 * c + v)) = nI (t (rfs vs W c v)) := by
      show nI (rl t vs W (10 * c + v)) = _
      rw [rl_at (by omega)]
    have up : ¬ nI (t (rfs vs W c v)) ≤ olI (rl t vs W) o → wO (rl t vs W) c v o = some (10 * c + v) := by
      intro q
      cases o with
      | none => rfl
      | some r =>
        show some (wF _ c v r) = _
        rw [wF, rl_at (by omega), if_pos]
        have q : ¬ nI (t (rfs vs W c v)) ≤ nI (rl t vs W r) := q
        have l2 : rl t vs W r ≤ 27 := (hL _ (rfs_lt _ _ _ _)).2
        rcases Nat.lt_or_ge (rl t vs W r) (t (rfs vs W c v)) with y | y
        · exact y
        · exact absurd (nI_le y (by omega)) q
    have stay : nI (t (rfs vs W c v)) ≤ olI (rl t vs W) o → wO (rl t vs W) c v o = o := by
      intro q
      cases o with
      | none => exact absurd q (n_gt9 (by omega))
      | some r =>
        show some (wF _ c v r) = _
        have q : nI (t (rfs vs W c v)) ≤ nI (rl t vs W r) := q
        have l2 : rl t vs W r ≤ 27 := (hL _ (rfs_lt _ _ _ _)).2
        rw [wF, rl_at (by omega), if_neg]
        have := (nI_leI (by omega) (by omega)).mp q
        omega
    by_cases q : nI (t (rfs vs W c v)) ≤ olI (rl t vs W) o
    · rw [if_pos q]
      show jn _ _ = _
      rw [jn, if_pos q, stay q]
      exact nx o
    · rw [if_neg q]
      show jn _ _ = _
      rw [jn, if_neg q, up q, ← big, ← val]
      exact nx _
theorem worstm_out {k W : Nat} {vs : Nat → Nat} {mv : Nat → Int32} {z : Int32 × (Nat → Int32) × (Nat → Int32)} {t : Nat → Nat} {K : Int32 → Int32 → Option (Int32 × Int32 × (Nat → Int32) × (Nat → Int32))} (h : MT k vs W mv) (hL : LT W z.2.1 t) (ht : ∀ s, s < 2 ^ W → 1 ≤ t s) : ∀ (m c n : Nat) (o : Option Nat), c + m = k → m < n → P_X11_worst_25 (nI k) (nI W) mv z K n (t9 o) (olI (rl t vs W) o) (nI c) = K (t9 (fld (nst vs (wO (rl t vs W))) m c o)) (olI (rl t vs W) (fld (nst vs (wO (rl t vs W))) m c o)) := by
  have h3 := h.1.k3
  intro m
  induction m with
  | zero =>
    intro c n o hi hn
    obtain ⟨n, rfl⟩ : ∃ q, n = q + 1 := ⟨n - 1, by omega⟩
    rw [P_X11_worst_25, if_pos (nI_le (by omega) (by omega))]
    rfl
  | succ m ih =>
    intro c n o hi hn
    obtain ⟨n, rfl⟩ : ∃ q, n = q + 1 := ⟨n - 1, by omega⟩
    have hp := h.1.pos c
    rw [P_X11_worst_25, if_neg (nI_ge (by omega) (by omega)), jn]
    have a1 := worstm_in (K := fun a b => P_X11_worst_25 (nI k) (nI W) mv z K n a b (nI c + 1)) h (show c < k by omega) hL ht (vs c) 0 QF o (by omega) (by unfold QF; omega)
    have a1' : P_X11_worst_37 (nI W) mv z (nI c) _ QF (t9 o) (olI (rl t vs W) o) (0 : Int32) = _ := a1
    rw [a1', nI_1, fld]
    exact ih (c + 1) n _ (by omega) (by omega)
theorem k0 {k W : Nat} {mv : Nat → Int32} {z : Int32 × (Nat → Int32) × (Nat → Int32)} {K : Int32 → Int32 → Option (Int32 × Int32 × (Nat → Int32) × (Nat → Int32))} (h : k = 0) : P_X11_worst_25 (nI k) (nI W) mv z K QF (-9) (-9) 0 = K (-9) (-9) := by
  obtain ⟨q, hq⟩ : ∃ q, QF = q + 1 := ⟨999999, rfl⟩
  rw [hq, P_X11_worst_25, h, if_pos (show nI 0 ≤ 0 by decide)]
theorem choices_0 {k : Nat} (h : k ≤ 3) : nI k = 0 ↔ k = 0 := by
  constructor
  · intro z
    exact (nI_eq (b := 0) (by omega) (by decide)).mp z
  · rintro rfl; rfl
theorem bt1 {α : Type} {b : Nat} {A B : α} (h : b ≤ 1) : (if nI b < 0 then A else if nI b ≤ 1 then B else A) = B := bt_in (c := 1) h (by decide)
theorem bt1_out {α : Type} {p : Int32} {A B : α} (h : p < 0 ∨ 1 < p) : (if p < 0 then A else if p ≤ 1 then B else A) = A := bt_out (c := 1) h
theorem in01 {b : Nat} (h : b ≤ 1) : P_X11_in (nI b) 0 1 = some 1 := in0 (c := 1) h (by decide)
theorem one_cases (p : Int32) : (∃ s, s ≤ 1 ∧ p = nI s) ∨ (p < 0 ∨ 1 < p) := int_cases (c := 1) (by decide) p
theorem worst_m {k W nw c : Nat} {vs wl : Nat → Nat} {mv mws mw : Nat → Int32} (h : MT k vs W mv) (h0 : mws 0 = nI nw) (hw : WD W nw wl mw) (hc : c ≤ 1) (dd : Int32) (dl dO : Nat → Int32) : ∃ d' e' f', P_X11_worst (nI c) (nI k) (nI W) dd mv mws mw dl dO = some (if k = 0 then -9 else if nI c = 0 then nI (wst k vs (rl (TF (GS k vs W nw wl none)) vs W)) else nI (rl (TF (GS k vs W nw wl none)) vs W (wst k vs (rl (TF (GS k vs W nw wl none)) vs W))), d', e', f') := by
  obtain ⟨d', e', f', b1, b2⟩ := findNow_eq h h0 hw dd dl dO
  refine ⟨d', e', f', ?_⟩
  unfold P_X11_worst
  rw [in01 hc, Option.bind_some, if_neg one_ne, b1, Option.bind_some, jn]
  by_cases hk : k = 0
  · rw [k0 hk, if_pos hk]
    by_cases c0 : nI c = 0
    · rw [if_pos c0]
    · rw [if_neg c0]
  · have ht : ∀ s, s < 2 ^ W → 1 ≤ TF (GS k vs W nw wl none) s := fun s hs => TF_pos h.1 (by omega) hs
    have md := worstm_out (K := fun a b => if nI c = 0 then some (a, d', e', f') else some (b, d', e', f')) (z := (d', e', f')) h b2 ht k 0 QF none (by omega) (by have := h.1.k3; unfold QF; omega)
    rw [wO_nst (by omega) (by have := vs0 h.1 (show 1 ≤ k by omega); omega)] at md
    have md' : P_X11_worst_25 (nI k) (nI W) mv (d', e', f') _ QF (-9) (-9) 0 = _ := md
    rw [md', if_neg hk]
    by_cases c0 : nI c = 0
    · rw [if_pos c0, if_pos c0]; rfl
    · rw [if_neg c0, if_neg c0]; rfl
theorem worst_c {k W nw c : Nat} {vs wl : Nat → Nat} {fv fl fw : Nat → Int32} (h : CT k vs W fv fl) (hw : WD W nw wl fw) (hc : c ≤ 1) {m : Int32} {ll : Nat → Int32} (hm : ME k vs W nw wl m ll) (cc : Int32) (lo ls : Nat → Int32) : ∃ m' c' l' o' s', P_X10_worst (nI c) m (nI k) (nI W) fv fl (nI nw) fw cc ll lo ls = some (if k = 0 then -9 else if nI c = 0 then nI (wst k vs (rl (TF (GS k vs W nw wl none)) vs W)) else nI (rl (TF (GS k vs W nw wl none)) vs W (wst k vs (rl (TF (GS k vs W nw wl none)) vs W))), m', c', l', o', s') ∧ ME k vs W nw wl m' l' := by
  have h3 := h.1.k3
  unfold P_X10_worst P_X8_choices
  rw [bt1 hc, Option.bind_some]
  by_cases hk : k = 0
  · rw [if_pos ((choices_0 h3).mpr hk), if_pos hk]
    exact ⟨_, _, _, _, _, rfl, hm⟩
  · have ht : ∀ s, s < 2 ^ W → 1 ≤ TF (GS k vs W nw wl none) s := fun s hs => TF_pos h.1 (by omega) hs
    obtain ⟨m', c', l', o', s', a1, a2, a3⟩ := lengthsNow_eq h hw hm cc lo ls
    obtain ⟨m2, c2, l2, o2, s2, a4, a5, a6⟩ := lengthsNow_eq h hw (m := m') (Or.inr a3) c' o' s'
    obtain ⟨w1, w2, w3⟩ := longestSign_eq h (by omega) a3 ht
    rw [if_neg (fun z => hk ((choices_0 h3).mp z)), if_neg hk, a1, Option.bind_some]
    by_cases c0 : nI c = 0
    · refine ⟨m', c', l', o', s', ?_, Or.inr a3⟩
      show (P_X3_longestSign (nI k) (nI W) fv fl l').bind (fun z => if nI c = 0 then some (z, m', c', l', o', s') else _) = _
      rw [w1, Option.bind_some, if_pos c0, if_pos c0]
    · refine ⟨m2, c2, l2, o2, s2, ?_, Or.inr a6⟩
      show (P_X3_longestSign (nI k) (nI W) fv fl l').bind (fun z => if nI c = 0 then _ else (P_X10_lengthsNow m' (nI k) (nI W) fv fl (nI nw) fw c' l' o' s').bind _) = _
      rw [w1, Option.bind_some, if_neg c0, if_neg c0, a4, Option.bind_some]
      show (P_X3_lengthFor _ (nI W) fl l2).bind _ = _
      rw [lengthFor_eq h a6 ht w2 w3]
      rfl
theorem worst_eq {k W nw : Nat} {vs wl : Nat → Nat} {fv fl fw mv mws mw : Nat → Int32} (h : SPW k vs W nw wl fv fl fw mv mws mw) (p : Int32) {m : Int32} {ll : Nat → Int32} (hm : ME k vs W nw wl m ll) (cc : Int32) (lo ls : Nat → Int32) (dd : Int32) (dl dO : Nat → Int32) : ∃ r m' c' l' o' s' d' e' f', P_X10_worst p m (nI k) (nI W) fv fl (nI nw) fw cc ll lo ls = some (r, m', c', l', o', s') ∧ P_X11_worst p (nI k) (nI W) dd mv mws mw dl dO = some (r, d', e', f') ∧ ME k vs W nw wl m' l' := by
  rcases one_cases p with ⟨c, hc, rfl⟩ | hq
  · obtain ⟨m', c', l', o', s', a1, a2⟩ := worst_c h.c h.w hc hm cc lo ls
    obtain ⟨d', e', f', b1⟩ := worst_m h.m h.n h.x hc dd dl dO
    exact ⟨_, _, _, _, _, _, _, _, _, a1, b1, a2⟩
  · unfold P_X10_worst P_X11_worst
    rw [bt1_out hq, in_out hq, Option.bind_some, if_pos rfl]
    exact ⟨_, _, _, _, _, _, _, _, _, rfl, rfl, hm⟩
