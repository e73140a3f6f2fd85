/-! saves: a word more -/
def sF (t vs : Nat → Nat) (W c v a : Nat) : Nat := a + t (rfs vs W c v)
def sumr (k : Nat) (vs : Nat → Nat) (W : Nat) (t : Nat → Nat) : Nat := fld (nst vs (sF t vs W)) k 0 0
theorem fld_le {f : Nat → Nat → Nat} {b : Nat} : ∀ (m i a : Nat), (∀ j a, f j a ≤ a + b) → fld f m i a ≤ a + b * m := by
  intro m
  induction m with
  | zero => intro i a _; exact Nat.le_refl _
  | succ m ih =>
    intro i a h
    rw [fld, Nat.mul_succ]
    have := ih (i + 1) (f i a) h
    have := h i a
    omega
theorem nst_le {k W : Nat} {vs t : Nat → Nat} (h : TG k vs W) (ht : ∀ s, t s ≤ 27) (c a : Nat) : nst vs (sF t vs W) c a ≤ a + 243 := by
  have h1 := fld_le (f := sF t vs W c) (b := 27) (vs c) 0 a (fun j a => by rw [sF]; have := ht (rfs vs W c j); omega)
  have h2 := (h.pos c).2
  rw [nst]
  omega
theorem sumr_le {k W : Nat} {vs t : Nat → Nat} (h : TG k vs W) (ht : ∀ s, t s ≤ 27) : sumr k vs W t ≤ 729 := by
  have h1 := fld_le (f := nst vs (sF t vs W)) (b := 243) k 0 0 (nst_le h ht)
  have h2 := h.k3
  rw [sumr]
  omega
noncomputable def SM (k : Nat) (vs : Nat → Nat) (W nw : Nat) (wl : Nat → Nat) (s : Nat) : Nat := sumr k vs W (TF (GS k vs W nw wl (some (rfs vs W (s / 10) (s % 10)))))
theorem SM_le {k W nw : Nat} {vs wl : Nat → Nat} (h : TG k vs W) (s : Nat) : SM k vs W nw wl s ≤ 729 := sumr_le h (fun _ => TF_le _ _)
theorem SM_at {k W nw c v : Nat} {vs wl : Nat → Nat} (hv : v < 10) : SM k vs W nw wl (10 * c + v) = sumr k vs W (TF (GS k vs W nw wl (some (rfs vs W c v)))) := by
  rw [SM, show (10 * c + v) / 10 = c by omega, show (10 * c + v) % 10 = v by omega]
theorem sumOfTried_loop {k W : Nat} {vs : Nat → Nat} {fv fl ll : Nat → Int32} {t : Nat → Nat} (h : CT k vs W fv fl) (hL : LT W ll t) (ht : ∀ s, s < 2 ^ W → 1 ≤ t s) : ∀ (m s n a : Nat), s + m = 10 * k → m < n → P_X3_sumOfTried_4 (nI k) (nI W) fv fl ll n (nI a) (nI s) = some (nI (fld (sgs vs (sF t vs W)) m s a)) := by
  have h3 := h.1.k3
  intro m
  induction m with
  | zero =>
    intro s n a hi hn
    obtain ⟨n, rfl⟩ : ∃ q, n = q + 1 := ⟨n - 1, by omega⟩
    rw [P_X3_sumOfTried_4]
    unfold P_X8_choices
    rw [Option.bind_some, e10, pk_mul, if_pos (nI_le (by omega) (by omega))]
    rfl
  | succ m ih =>
    intro s n a hi hn
    obtain ⟨n, rfl⟩ : ∃ q, n = q + 1 := ⟨n - 1, by omega⟩
    rw [P_X3_sumOfTried_4]
    unfold P_X8_choices
    rw [Option.bind_some, e10, pk_mul, if_neg (nI_ge (by omega) (by omega)), isSign_eq h (by omega), Option.bind_some, jn, nI_1, fld, sgs]
    by_cases hs : s % 10 < vs (s / 10)
    · rw [decide_eq_true hs, if_neg (show ¬ bI true = 0 by decide), if_pos hs, allBut_eq h (by omega) hs, Option.bind_some, of_eq h.1.le hL (rfs_lt _ _ _ _), lnI_pos (ht _ (rfs_lt _ _ _ _)), Option.bind_some, nI_add]
      exact ih (s + 1) n _ (by omega) (by omega)
    · rw [decide_eq_false hs, if_pos (show bI false = 0 from rfl), if_neg hs]
      exact ih (s + 1) n a (by omega) (by omega)
theorem sumOfTried_eq {k W : Nat} {vs : Nat → Nat} {fv fl ll : Nat → Int32} {t : Nat → Nat} (h : CT k vs W fv fl) (hL : LT W ll t) (ht : ∀ s, s < 2 ^ W → 1 ≤ t s) : P_X3_sumOfTried (nI k) (nI W) fv fl ll = some (nI (sumr k vs W t)) := by
  have h3 := h.1.k3
  have a1 := sumOfTried_loop h hL ht (10 * k) 0 QF 0 (by omega) (by unfold QF; omega)
  have e := fld_signs (sF t vs W) (fun c => (h.1.pos c).2) k 0 0
  rw [Nat.mul_zero] at e
  rw [e] at a1
  exact a1
theorem allRef_in {k W c : Nat} {vs : Nat → Nat} {mv ll : Nat → Int32} {t : Nat → Nat} {K : Int32 → Option Int32} (h : MT k vs W mv) (hc : c < k) (hL : LT W ll t) (ht : ∀ s, s < 2 ^ W → 1 ≤ t s) : ∀ (m v n a : Nat), v + m = vs c → m < n → P_X11_allRefusals_14 (nI W) mv ll (nI c) K n (nI a) (nI v) = K (nI (fld (sF t vs W c) m v a)) := by
  have h3 := h.1.k3
  have hp := h.1.pos c
  intro m
  induction m with
  | zero =>
    intro v n o hi hn
    obtain ⟨n, rfl⟩ : ∃ q, n = q + 1 := ⟨n - 1, by omega⟩
    rw [P_X11_allRefusals_14, ck_in _ (by omega) (by decide), nI_clamp (by omega), h.2 c (by omega), if_pos (nI_le (by omega) (by omega))]
    rfl
  | succ m ih =>
    intro v n a hi hn
    obtain ⟨n, rfl⟩ : ∃ q, n = q + 1 := ⟨n - 1, by omega⟩
    rw [P_X11_allRefusals_14, ck_in _ (by omega) (by decide), nI_clamp (by omega), h.2 c (by omega), if_neg (nI_ge (by omega) (by omega)), allSets_eq h.1.le, worldsOf_eq h (by omega) (by omega), Option.bind_some, Option.bind_some, cm_I]
    have e : P_X11_lengthOf (nI (cm (2 ^ W - 1) (mk vs W c v))) ll = some (nI (t (rfs vs W c v))) := by
      rw [lengthOf_eq h.1.le hL (cmW_lt _ _)]
      exact congrArg some (lnI_pos (ht (rfs vs W c v) (rfs_lt _ _ _ _)))
    rw [e, Option.bind_some, nI_add, nI_1]
    exact ih (v + 1) n _ (by omega) (by omega)
theorem allRef_out {k W : Nat} {vs : Nat → Nat} {mv ll : Nat → Int32} {t : Nat → Nat} (h : MT k vs W mv) (hL : LT W ll t) (ht : ∀ s, s < 2 ^ W → 1 ≤ t s) : ∀ (m c n a : Nat), c + m = k → m < n → P_X11_allRefusals_4 (nI k) (nI W) mv ll n (nI a) (nI c) = some (nI (fld (nst vs (sF t vs W)) m c a)) := by
  have h3 := h.1.k3
  intro m
  induction m with
  | zero =>
    intro c n o hi hn
    obtain ⟨n, rfl⟩ : ∃ q, n = q + 1 := ⟨n - 1, by omega⟩
    rw [P_X11_allRefusals_4, if_pos (nI_le (by omega) (by omega))]
    rfl
  | succ m ih =>
    intro c n a hi hn
    obtain ⟨n, rfl⟩ : ∃ q, n = q + 1 := ⟨n - 1, by omega⟩
    have hp := h.1.pos c
    rw [P_X11_allRefusals_4, if_neg (nI_ge (by omega) (by omega)), jn]
    have a1 := allRef_in (K := fun a => P_X11_allRefusals_4 (nI k) (nI W) mv ll n a (nI c + 1)) h (show c < k by omega) hL ht (vs c) 0 QF a (by omega) (by unfold QF; omega)
    have a1' : P_X11_allRefusals_14 (nI W) mv ll (nI c) _ QF (nI a) (0 : Int32) = _ := a1
    rw [a1', nI_1, fld]
    exact ih (c + 1) n _ (by omega) (by omega)
theorem allRef_eq {k W : Nat} {vs : Nat → Nat} {mv ll : Nat → Int32} {t : Nat → Nat} (h : MT k vs W mv) (hL : LT W ll t) (ht : ∀ s, s < 2 ^ W → 1 ≤ t s) : P_X11_allRefusals (nI k) (nI W) mv ll = some (nI (sumr k vs W t)) := by
  have h3 := h.1.k3
  exact allRef_out h hL ht k 0 QF 0 (by omega) (by unfold QF; omega)
/-! the best -/
def bF (L : Nat → Nat) (c v q : Nat) : Nat := if L (10 * c + v) < L q then 10 * c + v else q
def bO (L : Nat → Nat) (c v : Nat) (o : Option Nat) : Option Nat := match o with
  | none => some (10 * c + v)
  | some q => some (bF L c v q)
theorem bO_some (L : Nat → Nat) (c : Nat) : ∀ (m i q : Nat), fld (bO L c) m i (some q) = some (fld (bF L c) m i q) := fun m i q => (fld_map some m i q (fun _ _ _ _ => rfl)).symm
def bst (k : Nat) (vs : Nat → Nat) (L : Nat → Nat) : Nat := fld (nst vs (bF L)) k 0 0
theorem bO_nst {k : Nat} {vs : Nat → Nat} {L : Nat → Nat} (hk : 1 ≤ k) (h0 : 1 ≤ vs 0) : fld (nst vs (bO L)) k 0 none = some (bst k vs L) := by
  obtain ⟨k, rfl⟩ : ∃ q, k = q + 1 := ⟨k - 1, by omega⟩
  rw [fld, bst, fld, nst, nst]
  obtain ⟨x, hx⟩ : ∃ q, vs 0 = q + 1 := ⟨vs 0 - 1, by omega⟩
  rw [hx, fld, fld]
  show fld (nst vs (bO L)) k (0 + 1) (fld (bO L 0) x (0 + 1) (some (10 * 0 + 0))) = _
  rw [bO_some, show bF L 0 0 0 = 10 * 0 + 0 by rw [bF]; split <;> rfl]
  exact (fld_map some k (0 + 1) _ (fun j a _ _ => (bO_some L j (vs j) 0 a).symm)).symm
theorem MO_rfs (vs : Nat → Nat) (W c v : Nat) : MO W (some (rfs vs W c v)) := fun s h => by cases h; exact rfs_lt _ _ _ _
theorem findBest_loop {k W nw : Nat} {vs wl : Nat → Nat} {fv fl fw : Nat → Int32} {K : Int32 → Int32 → Int32 → (Nat → Int32) → (Nat → Int32) → (Nat → Int32) → Option (Int32 × Int32 × Int32 × Int32 × (Nat → Int32) × (Nat → Int32) × (Nat → Int32))} (h : CT k vs W fv fl) (hw : WD W nw wl fw) (hk : 1 ≤ k) : ∀ (m s n q : Nat) (a b cc : Int32) (ll lo ls : Nat → Int32), s + m = 10 * k → m < n → (s = 0 → q = 0) → (1 ≤ s → a = nI q ∧ b = nI (SM k vs W nw wl q)) → ∃ c' l' o' s', P_X3_findBest_2 0 (nI k) (nI W) fv fl (nI nw) fw K n (nI s) a b cc ll lo ls = K (nI (fld (sgs vs (bF (SM k vs W nw wl))) m s q)) (nI (SM k vs W nw wl (fld (sgs vs (bF (SM k vs W nw wl))) m s q))) c' l' o' s' := by
  have h3 := h.1.k3
  intro m
  induction m with
  | zero =>
    intro s n q a b cc ll lo ls hi hn h0 h1
    obtain ⟨n, rfl⟩ : ∃ q, n = q + 1 := ⟨n - 1, by omega⟩
    obtain ⟨g1, g2⟩ := h1 (by omega)
    refine ⟨cc, ll, lo, ls, ?_⟩
    rw [P_X3_findBest_2]
    unfold P_X8_choices
    rw [Option.bind_some, e10, pk_mul, if_pos (nI_le (by omega) (by omega)), g1, g2]
    rfl
  | succ m ih =>
    intro s n q a b cc ll lo ls hi hn h0 h1
    obtain ⟨n, rfl⟩ : ∃ q, n = q + 1 := ⟨n - 1, by omega⟩
    rw [P_X3_findBest_2]
    unfold P_X8_choices
    rw [Option.bind_some, e10, pk_mul, if_neg (nI_ge (by omega) (by omega)), if_pos rfl, isSign_eq h (by omega), Option.bind_some, jn, nI_1, fld, sgs]
    by_cases hs : s % 10 < vs (s / 10)
    · have sl1 := SM_le (nw := nw) (wl := wl) h.1 s
      have sl2 := SM_le (nw := nw) (wl := wl) h.1 q
      have e : 10 * (s / 10) + s % 10 = s := Nat.div_add_mod s 10
      obtain ⟨c', l', o', s', a1, a2⟩ := measure_c (mo := some (rfs vs W (s / 10) (s % 10))) h hw (MO_rfs _ _ _ _) (CAP_GS h.1 hw (MO_rfs _ _ _ _)) cc ll lo ls
      have a1' : P_X1_measure (nI (rfs vs W (s / 10) (s % 10))) cc (nI k) (nI W) fv fl (nI nw) fw ll lo ls = some (c', l', o', s') := a1
      have a3 : P_X3_sumOfTried (nI k) (nI W) fv fl l' = some (nI (SM k vs W nw wl s)) := sumOfTried_eq h (fun x hx => ⟨a2 x hx, TF_le _ _⟩) (fun x hx => TF_pos h.1 hk hx)
      rw [decide_eq_true hs, if_neg (show ¬ bI true = 0 by decide), if_pos hs, allBut_eq h (by omega) hs, Option.bind_some, a1', Option.bind_some]
      show ∃ c'' l'' o'' s'', (P_X3_sumOfTried (nI k) (nI W) fv fl l').bind _ = _
      rw [a3, Option.bind_some, jn, bF, e]
      by_cases s0 : s = 0
      · have := h0 s0
        rw [if_pos (show nI s = 0 by rw [s0]; rfl), this, s0, if_neg (by omega)]
        exact ih (0 + 1) n 0 _ _ _ _ _ _ (by omega) (by omega) (by omega) (fun _ => ⟨rfl, rfl⟩)
      · obtain ⟨g1, g2⟩ := h1 (by omega)
        rw [if_neg (show ¬ nI s = 0 from nI_ne0 (by omega) (by omega)), g2, g1]
        by_cases hl : SM k vs W nw wl s < SM k vs W nw wl q
        · rw [if_neg (nI_ge hl (by omega)), if_pos hl]
          exact ih (s + 1) n s _ _ _ _ _ _ (by omega) (by omega) (by omega) (fun _ => ⟨rfl, rfl⟩)
        · rw [if_pos (nI_le (by omega) (by omega)), if_neg hl]
          exact ih (s + 1) n q _ _ _ _ _ _ (by omega) (by omega) (by omega) (fun _ => ⟨rfl, rfl⟩)
    · have s0 : 1 ≤ s := by
        rcases Nat.eq_zero_or_pos s with y | y
        · exact absurd (by rw [y]; have := vs0 h.1 hk; simpa using (by omega : 0 < vs 0)) hs
        · exact y
      rw [decide_eq_false hs, if_pos (show bI false = 0 from rfl), if_neg hs]
      exact ih (s + 1) n q _ _ _ _ _ _ (by omega) (by omega) (by omega) (fun _ => h1 s0)
theorem n9_ne' {L : Nat → Nat} {o : Option Nat} (h : ∀ s, L s ≤ 729) : olI L o = -9 ↔ o = none := by
  cases o with
  | none => exact ⟨fun _ => rfl, fun _ => rfl⟩
  | some q => exact ⟨fun z => absurd z (n9_ne (by have := h q; omega)), fun z => by cases z⟩
theorem savesm_in {k W nw c : Nat} {vs wl : Nat → Nat} {mv mws mw : Nat → Int32} {K : Int32 → Int32 → Int32 → (Nat → Int32) → (Nat → Int32) → Option (Int32 × Int32 × (Nat → Int32) × (Nat → Int32))} (h : MT k vs W mv) (hn0 : mws 0 = nI nw) (hw : WD W nw wl mw) (hc : c < k) : ∀ (m v n : Nat) (o : Option Nat) (cc : Int32) (ll lo : Nat → Int32), v + m = vs c → m < n → ∃ c' l' o', P_X11_saves_45 (nI k) (nI W) mv mws mw (nI c) K n (t9 o) (olI (SM k vs W nw wl) o) (nI v) cc ll lo = K (t9 (fld (bO (SM k vs W nw wl) c) m v o)) (olI (SM k vs W nw wl) (fld (bO (SM k vs W nw wl) c) m v o)) c' l' o' := by
  have h3 := h.1.k3
  have hp := h.1.pos c
  intro m
  induction m with
  | zero =>
    intro v n o cc ll lo hi hn
    obtain ⟨n, rfl⟩ : ∃ q, n = q + 1 := ⟨n - 1, by omega⟩
    refine ⟨cc, ll, lo, ?_⟩
    rw [P_X11_saves_45, ck_in _ (by omega) (by decide), nI_clamp (by omega), h.2 c (by omega), if_pos (nI_le (by omega) (by omega))]
    rfl
  | succ m ih =>
    intro v n o cc ll lo hi hn
    obtain ⟨n, rfl⟩ : ∃ q, n = q + 1 := ⟨n - 1, by omega⟩
    have nx := fun o cc ll lo => ih (v + 1) n o cc ll lo (by omega) (by omega)
    obtain ⟨c', l', o', a1, a2⟩ := findAll_m (mo := some (rfs vs W c v)) h hn0 hw (MO_rfs _ _ _ _) cc ll lo
    have a1' : P_X11_findAll (nI (cm (2 ^ W - 1) (mk vs W c v))) (nI k) (nI W) cc mv mws mw ll lo = some (c', l', o') := a1
    have a3 : P_X11_allRefusals (nI k) (nI W) mv l' = some (nI (SM k vs W nw wl (10 * c + v))) := by
      rw [SM_at (by omega)]
      exact allRef_eq h (fun x hx => ⟨a2 x hx, TF_le _ _⟩) (fun x hx => TF_pos h.1 (by omega) hx)
    rw [P_X11_saves_45, ck_in _ (by omega) (by decide), nI_clamp (by omega), h.2 c (by omega), if_neg (nI_ge (by omega) (by omega)), allSets_eq h.1.le, worldsOf_eq h (by omega) (by omega), Option.bind_some, Option.bind_some, cm_I, a1', Option.bind_some]
    show ∃ c'' l'' o'', (P_X11_allRefusals (nI k) (nI W) mv l').bind _ = _
    rw [a3, Option.bind_some, jn, fld, nI_1]
    have sl := SM_le (nw := nw) (wl := wl) h.1
    have big : (10 * nI c) + nI v = t9 (some (10 * c + v)) := by
      show _ = nI (10 * c + v)
      rw [e10, pk_mul, nI_add]
    rw [big, show nI (SM k vs W nw wl (10 * c + v)) = olI (SM k vs W nw wl) (some (10 * c + v)) from rfl]
    cases o with
    | none =>
      show ∃ c'' l'' o'', jn _ _ = _
      rw [jn, if_pos (show olI (SM k vs W nw wl) none = -9 from rfl)]
      exact nx (some (10 * c + v)) _ _ _
    | some q =>
      show ∃ c'' l'' o'', jn _ _ = _
      rw [jn, if_neg (fun z => by cases (n9_ne' sl).mp z), bO, bF]
      by_cases hl : SM k vs W nw wl (10 * c + v) < SM k vs W nw wl q
      · rw [if_neg (show ¬ olI (SM k vs W nw wl) (some q) ≤ olI (SM k vs W nw wl) (some (10 * c + v)) from nI_ge hl (by have := sl q; omega)), if_pos hl]
        exact nx (some (10 * c + v)) _ _ _
      · rw [if_pos (show olI (SM k vs W nw wl) (some q) ≤ olI (SM k vs W nw wl) (some (10 * c + v)) from nI_le (by omega) (by have := sl (10 * c + v); omega)), if_neg hl]
        exact nx (some q) _ _ _
theorem savesm_out {k W nw : Nat} {vs wl : Nat → Nat} {mv mws mw : Nat → Int32} {K : Int32 → Int32 → Int32 → (Nat → Int32) → (Nat → Int32) → Option (Int32 × Int32 × (Nat → Int32) × (Nat → Int32))} (h : MT k vs W mv) (hn0 : mws 0 = nI nw) (hw : WD W nw wl mw) : ∀ (m c n : Nat) (o : Option Nat) (cc : Int32) (ll lo : Nat → Int32), c + m = k → m < n → ∃ c' l' o', P_X11_saves_33 (nI k) (nI W) mv mws mw K n (t9 o) (olI (SM k vs W nw wl) o) (nI c) cc ll lo = K (t9 (fld (nst vs (bO (SM k vs W nw wl))) m c o)) (olI (SM k vs W nw wl) (fld (nst vs (bO (SM k vs W nw wl))) m c o)) c' l' o' := by
  have h3 := h.1.k3
  intro m
  induction m with
  | zero =>
    intro c n o cc ll lo hi hn
    obtain ⟨n, rfl⟩ : ∃ q, n = q + 1 := ⟨n - 1, by omega⟩
    refine ⟨cc, ll, lo, ?_⟩
    rw [P_X11_saves_33, if_pos (nI_le (by omega) (by omega))]
    rfl
  | succ m ih =>
    intro c n o cc ll lo hi hn
    obtain ⟨n, rfl⟩ : ∃ q, n = q + 1 := ⟨n - 1, by omega⟩
    have hp := h.1.pos c
    rw [P_X11_saves_33, if_neg (nI_ge (by omega) (by omega)), jn]
    obtain ⟨c', l', o', a1⟩ := savesm_in (K := fun a b d e f => P_X11_saves_33 (nI k) (nI W) mv mws mw K n a b (nI c + 1) d e f) h hn0 hw (show c < k by omega) (vs c) 0 QF o cc ll lo (by omega) (by unfold QF; omega)
    have a1' : P_X11_saves_45 (nI k) (nI W) mv mws mw (nI c) _ QF (t9 o) (olI (SM k vs W nw wl) o) (0 : Int32) cc ll lo = _ := a1
    rw [a1', nI_1, fld]
    exact ih (c + 1) n _ _ _ _ (by omega) (by omega)
def KN (k : Nat) (vs : Nat → Nat) (W nw : Nat) (wl : Nat → Nat) (kn sg sm : Int32) : Prop := kn = 0 ∨ (1 ≤ k ∧ sg = nI (bst k vs (SM k vs W nw wl)) ∧ sm = nI (SM k vs W nw wl (bst k vs (SM k vs W nw wl))))
theorem findBest_eq {k W nw : Nat} {vs wl : Nat → Nat} {fv fl fw : Nat → Int32} (h : CT k vs W fv fl) (hw : WD W nw wl fw) (hk : 1 ≤ k) {kn sg sm : Int32} (hn : KN k vs W nw wl kn sg sm) (cc : Int32) (ll lo ls : Nat → Int32) : ∃ c' l' o' s', P_X3_findBest sg sm kn (nI k) (nI W) fv fl cc (nI nw) fw ll lo ls = some (nI (bst k vs (SM k vs W nw wl)), nI (SM k vs W nw wl (bst k vs (SM k vs W nw wl))), 1, c', l', o', s') := by
  have h3 := h.1.k3
  unfold P_X3_findBest
  rw [jn]
  by_cases h0 : kn = 0
  · rw [h0]
    obtain ⟨c', l', o', s', a1⟩ := findBest_loop (K := fun a b c d e f => some (a, b, 1, c, d, e, f)) h hw hk (10 * k) 0 QF 0 sg sm cc ll lo ls (by omega) (by unfold QF; omega) (fun _ => rfl) (fun z => absurd z (by decide))
    have e := fld_signs (bF (SM k vs W nw wl)) (fun c => (h.1.pos c).2) k 0 0
    rw [Nat.mul_zero] at e
    rw [e] at a1
    exact ⟨c', l', o', s', a1⟩
  · obtain ⟨-, g1, g2⟩ := hn.resolve_left h0
    refine ⟨cc, ll, lo, ls, ?_⟩
    obtain ⟨q, hq⟩ : ∃ q, QF = q + 1 := ⟨999999, rfl⟩
    rw [hq, P_X3_findBest_2]
    unfold P_X8_choices
    rw [Option.bind_some, e10, pk_mul, if_neg (show ¬ nI (10 * k) ≤ 0 from nI_ge (b := 10 * k) (a := 0) (by omega) (by omega)), if_neg h0, g1, g2]
theorem cl0 : (0 : Int32).toNatClampNeg = 0 := rfl
theorem ck0 {α : Type} {n : Nat} (a : Option α) (h : 0 < n) (hn : n < 2 ^ 31) : ck 0 n a = a := ck_in (j := 0) a h hn
theorem ks0 {k : Nat} {W : Int32} {mv mws mw : Nat → Int32} {K : Int32 → Int32 → Int32 → (Nat → Int32) → (Nat → Int32) → Option (Int32 × Int32 × (Nat → Int32) × (Nat → Int32))} {cc : Int32} {ll lo : Nat → Int32} (h : k = 0) : P_X11_saves_33 (nI k) W mv mws mw K QF (-9) (-9) 0 cc ll lo = K (-9) (-9) cc ll lo := by
  obtain ⟨q, hq⟩ : ∃ q, QF = q + 1 := ⟨999999, rfl⟩
  rw [hq, P_X11_saves_33, h, if_pos (show nI 0 ≤ 0 by decide)]
theorem saves_eq {k W nw : Nat} {vs wl : Nat → Nat} {fv fl fw mv mws mw : Nat → Int32} (h : SPW k vs W nw wl fv fl fw mv mws mw) (p : Int32) {kn sg sm : Int32} (hn : KN k vs W nw wl kn sg sm) (cc : Int32) (ll lo ls : Nat → Int32) (dd : Int32) (dl dO : Nat → Int32) : ∃ r sg' sm' kn' c' l' o' s' d' e' f', P_X10_saves p (nI k) (nI W) fv fl (nI nw) fw sg sm kn cc ll lo ls = some (r, sg', sm', kn', c', l', o', s') ∧ P_X11_saves p (nI k) (nI W) dd mv mws mw dl dO = some (r, d', e', f') ∧ KN k vs W nw wl kn' sg' sm' := by
  have h3 := h.t.k3
  have hw3 := h.w.1
  unfold P_X10_saves P_X11_saves
  rcases one_cases p with ⟨c, hc, rfl⟩ | hq
  · unfold P_X0_words P_X8_choices
    rw [bt1 hc, in01 hc, Option.bind_some, Option.bind_some, Option.bind_some, if_neg one_ne, ck0 _ (by decide) (by decide), cl0, h.n]
    by_cases n3 : nw = 3
    · rw [if_neg (show ¬ nI nw < 3 by rw [n3]; decide), if_pos (show nI nw = 3 by rw [n3]; rfl)]
      exact ⟨_, _, _, _, _, _, _, _, _, _, _, rfl, rfl, hn⟩
    · rw [if_pos (show nI nw < 3 from nI_lt (b := 3) (by omega) (by decide)), if_neg (show ¬ nI nw = 3 from fun z => n3 ((nI_eq (b := 3) (by omega) (by decide)).mp z)), jn]
      by_cases hk : k = 0
      · rw [ks0 hk, if_pos ((choices_0 h3).mpr hk)]
        by_cases c0 : nI c = 0
        · rw [if_pos c0]; exact ⟨_, _, _, _, _, _, _, _, _, _, _, rfl, rfl, hn⟩
        · rw [if_neg c0]; exact ⟨_, _, _, _, _, _, _, _, _, _, _, rfl, rfl, hn⟩
      · obtain ⟨c', l', o', s', a1⟩ := findBest_eq h.c h.w (by omega) hn cc ll lo ls
        obtain ⟨d', e', f', b1⟩ := savesm_out (K := fun a b d e f => if nI c = 0 then some (a, d, e, f) else some (b, d, e, f)) h.m h.n h.x k 0 QF none dd dl dO (by omega) (by unfold QF; omega)
        rw [bO_nst (by omega) (by have := vs0 h.t (show 1 ≤ k by omega); omega)] at b1
        have b1' : P_X11_saves_33 (nI k) (nI W) mv mws mw _ QF (-9) (-9) 0 dd dl dO = _ := b1
        rw [b1', if_neg (fun z => hk ((choices_0 h3).mp z)), a1, Option.bind_some]
        by_cases c0 : nI c = 0
        · rw [if_pos c0, if_pos c0]
          exact ⟨_, _, _, _, _, _, _, _, _, _, _, rfl, rfl, Or.inr ⟨by omega, rfl, rfl⟩⟩
        · rw [if_neg c0, if_neg c0]
          exact ⟨_, _, _, _, _, _, _, _, _, _, _, rfl, rfl, Or.inr ⟨by omega, rfl, rfl⟩⟩
  · rw [bt1_out hq, in_out hq, Option.bind_some, if_pos rfl]
    exact ⟨_, _, _, _, _, _, _, _, _, _, _, rfl, rfl, hn⟩
