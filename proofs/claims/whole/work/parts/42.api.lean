/-! short sayings, call by call -/
/-- speech and words, as both hold them -/
def SPW (k : Nat) (vs : Nat → Nat) (W nw : Nat) (wl : Nat → Nat) (fv fl fw mv mws mw : Nat → Int32) : Prop := CT k vs W fv fl ∧ MT k vs W mv ∧ mws 0 = nI nw ∧ WD W nw wl fw ∧ WD W nw wl mw
theorem SPW.c {k W nw : Nat} {vs wl : Nat → Nat} {fv fl fw mv mws mw : Nat → Int32} (h : SPW k vs W nw wl fv fl fw mv mws mw) : CT k vs W fv fl := h.1
theorem SPW.m {k W nw : Nat} {vs wl : Nat → Nat} {fv fl fw mv mws mw : Nat → Int32} (h : SPW k vs W nw wl fv fl fw mv mws mw) : MT k vs W mv := h.2.1
theorem SPW.n {k W nw : Nat} {vs wl : Nat → Nat} {fv fl fw mv mws mw : Nat → Int32} (h : SPW k vs W nw wl fv fl fw mv mws mw) : mws 0 = nI nw := h.2.2.1
theorem SPW.w {k W nw : Nat} {vs wl : Nat → Nat} {fv fl fw mv mws mw : Nat → Int32} (h : SPW k vs W nw wl fv fl fw mv mws mw) : WD W nw wl fw := h.2.2.2.1
theorem SPW.x {k W nw : Nat} {vs wl : Nat → Nat} {fv fl fw mv mws mw : Nat → Int32} (h : SPW k vs W nw wl fv fl fw mv mws mw) : WD W nw wl mw := h.2.2.2.2
theorem SPW.t {k W nw : Nat} {vs wl : Nat → Nat} {fv fl fw mv mws mw : Nat → Int32} (h : SPW k vs W nw wl fv fl fw mv mws mw) : TG k vs W := h.c.1
def ME (k : Nat) (vs : Nat → Nat) (W nw : Nat) (wl : Nat → Nat) (m : Int32) (fl : Nat → Int32) : Prop := m = 0 ∨ LT W fl (TF (GS k vs W nw wl none))
theorem MO_none (W : Nat) : MO W none := fun _ h => by cases h
theorem toI_none : toI none = -1 := rfl
theorem lengthsNow_eq {k W nw : Nat} {vs wl : Nat → Nat} {fv fl fw : Nat → Int32} (h : CT k vs W fv fl) (hw : WD W nw wl fw) {m : Int32} {ll : Nat → Int32} (hm : ME k vs W nw wl m ll) (cc : Int32) (lo ls : Nat → Int32) : ∃ m' c' l' o' s', P_X10_lengthsNow m (nI k) (nI W) fv fl (nI nw) fw cc ll lo ls = some (m', c', l', o', s') ∧ ¬ m' = 0 ∧ LT W l' (TF (GS k vs W nw wl none)) := by
  unfold P_X10_lengthsNow
  by_cases h0 : m = 0
  · obtain ⟨c', l', o', s', a1, a2⟩ := measure_c (mo := none) h hw (MO_none W) (CAP_GS h.1 hw (MO_none W)) cc ll lo ls
    rw [jn, if_pos h0]
    rw [toI_none] at a1
    rw [a1, Option.bind_some]
    exact ⟨1, c', l', o', s', rfl, one_ne, fun s hs => ⟨a2 s hs, TF_le _ _⟩⟩
  · rw [jn, if_neg h0]
    exact ⟨m, cc, ll, lo, ls, rfl, h0, hm.resolve_left h0⟩
theorem findNow_eq {k W nw : Nat} {vs wl : Nat → Nat} {mv mws mw : Nat → Int32} (h : MT k vs W mv) (h0 : mws 0 = nI nw) (hw : WD W nw wl mw) (cc : Int32) (ll lo : Nat → Int32) : ∃ c' l' o', P_X11_findAll (-1) (nI k) (nI W) cc mv mws mw ll lo = some (c', l', o') ∧ LT W l' (TF (GS k vs W nw wl none)) := by
  obtain ⟨c', l', o', a1, a2⟩ := findAll_m (mo := none) h h0 hw (MO_none W) cc ll lo
  exact ⟨c', l', o', a1, fun s hs => ⟨a2 s hs, TF_le _ _⟩⟩
theorem shortest_eq {k W nw : Nat} {vs wl : Nat → Nat} {fv fl fw mv mws mw : Nat → Int32} (h : SPW k vs W nw wl fv fl fw mv mws mw) (p : Int32) {m : Int32} {ll : Nat → Int32} (hm : ME k vs W nw wl m ll) (cc : Int32) (lo ls : Nat → Int32) (dd : Int32) (dl dO : Nat → Int32) : ∃ r m' c' l' o' s' d' e' f', P_X10_shortest p m (nI k) (nI W) fv fl (nI nw) fw cc ll lo ls = some (r, m', c', l', o', s') ∧ P_X11_shortest p (nI k) (nI W) dd mv mws mw dl dO = some (r, d', e', f') ∧ ME k vs W nw wl m' l' := by
  unfold P_X10_shortest P_X11_shortest
  have h9 := h.t.le
  rcases set_cases h9 p with ⟨s, hs, rfl⟩ | hp
  · obtain ⟨m', c', l', o', s', a1, a2, a3⟩ := lengthsNow_eq h.c h.w hm cc lo ls
    obtain ⟨d', e', f', b1, b2⟩ := findNow_eq h.m h.n h.x dd dl dO
    rw [isSet_in h9 hs, isSet_in_m h9 hs, Option.bind_some, Option.bind_some, if_neg one_ne, if_neg one_ne, a1, b1, Option.bind_some, Option.bind_some, of_eq h9 a3 hs, lengthOf_eq h9 b2 hs]
    exact ⟨_, _, _, _, _, _, _, _, _, rfl, rfl, Or.inr a3⟩
  · rw [isSet_out h9 hp, isSet_out_m h9 hp, Option.bind_some, Option.bind_some, if_pos rfl, if_pos rfl]
    exact ⟨_, _, _, _, _, _, _, _, _, rfl, rfl, hm⟩
theorem cmW_lt (W s : Nat) : cm (2 ^ W - 1) s < 2 ^ W := cm_lt (by have := Nat.one_le_two_pow (n := W); omega)
theorem refusal_eq {k W nw : Nat} {vs wl : Nat → Nat} {fv fl fw mv mws mw : Nat → Int32} (h : SPW k vs W nw wl fv fl fw mv mws mw) (p : Int32) {m : Int32} {ll : Nat → Int32} (hm : ME k vs W nw wl m ll) (cc : Int32) (lo ls : Nat → Int32) (dd : Int32) (dl dO : Nat → Int32) : ∃ r m' c' l' o' s' d' e' f', P_X10_refusal p m (nI k) (nI W) fv fl (nI nw) fw cc ll lo ls = some (r, m', c', l', o', s') ∧ P_X11_refusal p (nI k) (nI W) dd mv mws mw dl dO = some (r, d', e', f') ∧ ME k vs W nw wl m' l' := by
  unfold P_X10_refusal P_X11_refusal
  have h9 := h.t.le
  rcases set_cases h9 p with ⟨s, hs, rfl⟩ | hp
  · obtain ⟨m', c', l', o', s', a1, a2, a3⟩ := lengthsNow_eq h.c h.w hm cc lo ls
    obtain ⟨d', e', f', b1, b2⟩ := findNow_eq h.m h.n h.x dd dl dO
    rw [isSet_in h9 hs, isSet_in_m h9 hs, Option.bind_some, Option.bind_some, if_neg one_ne, if_neg one_ne, a1, b1, Option.bind_some, Option.bind_some, others_eq h9, allSets_eq h9, Option.bind_some, Option.bind_some, cm_I, of_eq h9 a3 (cmW_lt W s), lengthOf_eq h9 b2 (cmW_lt W s)]
    exact ⟨_, _, _, _, _, _, _, _, _, rfl, rfl, Or.inr a3⟩
  · rw [isSet_out h9 hp, isSet_out_m h9 hp, Option.bind_some, Option.bind_some, if_pos rfl, if_pos rfl]
    exact ⟨_, _, _, _, _, _, _, _, _, rfl, rfl, hm⟩
theorem int_cases {c : Nat} (hc : c < 2 ^ 31) (p : Int32) : (∃ s, s ≤ c ∧ p = nI s) ∨ (p < 0 ∨ nI c < p) := by
  by_cases h : p < 0
  · exact Or.inr (Or.inl h)
  · obtain ⟨j, hj, rfl⟩ := nI_of h
    rcases Nat.lt_or_ge c j with q | q
    · exact Or.inr (Or.inr (nI_lt q hj))
    · exact Or.inl ⟨j, q, rfl⟩
theorem in0 {b c : Nat} (h : b ≤ c) (hc : c < 2 ^ 31) : P_X11_in (nI b) 0 (nI c) = some 1 := in_in (a := 0) (Nat.zero_le _) h hc
/-- the class's way to ask the same -/
theorem bt_in {α : Type} {b c : Nat} {A B : α} (h : b ≤ c) (hc : c < 2 ^ 31) : (if nI b < 0 then A else if nI b ≤ nI c then B else A) = B := by
  rw [if_neg (nI_pos (by omega)), if_pos (nI_le h hc)]
theorem bt_out {α : Type} {p : Int32} {c : Nat} {A B : α} (h : p < 0 ∨ nI c < p) : (if p < 0 then A else if p ≤ nI c then B else A) = A := by
  by_cases q : p < 0
  · rw [if_pos q]
  · rw [if_neg q, if_neg (Int32.not_le.mpr (h.resolve_left q))]
theorem pairPart_eq {a b c : Nat} {st : Int32} (hb : b < 512) (ha : a < 512) (hc : c ≤ 2) : P_X10_pairPart st (nI (a * 512 + b)) (nI c) = some (if nI c = 0 then st else if nI c = 1 then nI a else nI b) := by
  unfold P_X10_pairPart
  by_cases h0 : nI c = 0
  · rw [if_pos h0, if_pos h0]
  · rw [if_neg h0, if_neg h0]
    by_cases h1 : nI c = 1
    · rw [if_pos h1, if_pos h1]
      unfold P_X1_firstOf
      rw [e512, pk_div (by omega) (by decide) (by decide), Option.bind_some, show (a * 512 + b) / 512 = a by omega]
    · rw [if_neg h1, if_neg h1]
      unfold P_X1_secondOf
      rw [e512, pk_rem (by omega) (by decide) (by decide), Option.bind_some, show (a * 512 + b) % 512 = b by omega]
def prt (st : Int32) (p : Nat × Nat) (c : Nat) : Int32 := if nI c = 0 then st else if nI c = 1 then nI p.1 else nI p.2
noncomputable def mdr (k : Nat) (vs : Nat → Nat) (W nw : Nat) (wl : Nat → Nat) (s c : Nat) : Int32 := match ffg k vs W nw wl s 4 0 with
  | some v => if nI c = 1 then nI v else 0
  | none => match fpr (TF (GS k vs W nw wl none)) true s W (2 ^ W) 0 with
    | some p => prt 1 p c
    | none => match fpr (TF (GS k vs W nw wl none)) false s W (2 ^ W) 0 with
      | some p => prt 2 p c
      | none => -9
theorem fpr_none0 {t : Nat → Nat} {b : Bool} {s W : Nat} (h : t s = 0) : ∀ m x, fpr t b s W m x = none := by
  intro m
  induction m with
  | zero => intro x; rfl
  | succ m ih =>
    intro x
    rw [fpr]
    have : fpy t b s W x = none := by
      cases hf : fpy t b s W x with
      | none => rfl
      | some y =>
        have := pcb_iff.mp (fnd_some _ _ _ hf).2.2.1
        omega
    rw [this]
    exact ih (x + 1)
theorem prI_ne {W : Nat} {p : Nat × Nat} (h9 : W ≤ 9) (h1 : p.1 < 0 + 2 ^ W) (h2 : p.2 < 2 ^ W) : ¬ prI (some p) = -9 := by
  have ⟨p1, p2⟩ := p9 h9
  exact n9_ne (n := p.1 * 512 + p.2) (by omega)
theorem prt_eq {W c : Nat} {st : Int32} {p : Nat × Nat} (h9 : W ≤ 9) (h1 : p.1 < 0 + 2 ^ W) (h2 : p.2 < 2 ^ W) (hc : c ≤ 2) : P_X10_pairPart st (prI (some p)) (nI c) = some (prt st p c) := by
  have ⟨p1, p2⟩ := p9 h9
  exact pairPart_eq (by omega) (by omega) hc
theorem ffg_lt {k W nw s v : Nat} {vs wl : Nat → Nat} (h : TG k vs W) (hn : nw ≤ 3) (hf : ffg k vs W nw wl s 4 0 = some v) : v < 40 := by
  obtain ⟨g, i, -, g2, i2, -, rfl⟩ := ffg_some _ _ hf
  have := gM_lt (c := g) h hn
  omega
theorem made_c {k W nw s c : Nat} {vs wl : Nat → Nat} {fv fl fw : Nat → Int32} (h : CT k vs W fv fl) (hw : WD W nw wl fw) (hs : s < 2 ^ W) (hc : c ≤ 2) {m : Int32} {ll : Nat → Int32} (hm : ME k vs W nw wl m ll) (cc : Int32) (lo ls : Nat → Int32) : ∃ m' c' l' o' s', P_X10_made (nI s) (nI c) m (nI k) (nI W) fv fl (nI nw) fw cc ll lo ls = some (mdr k vs W nw wl s c, m', c', l', o', s') ∧ ME k vs W nw wl m' l' := by
  unfold P_X10_made
  have h9 := h.1.le
  obtain ⟨m', c', l', o', s', a1, a2, a3⟩ := lengthsNow_eq h hw hm cc lo ls
  rw [isSet_in h9 hs, Option.bind_some, if_neg one_ne, e2, bt_in hc (by decide), firstFor_eq h hw hs, Option.bind_some, mdr]
  cases hf : ffg k vs W nw wl s 4 0 with
  | some v =>
    have hv := ffg_lt h.1 hw.1 hf
    rw [if_neg (show ¬ t9 (some v) = -9 from n9_ne (by omega))]
    by_cases hc1 : nI c = 1
    · rw [if_pos hc1]
      show ∃ m' c' l' o' s', _ = some (if nI c = 1 then nI v else 0, _) ∧ _
      rw [if_pos hc1]
      exact ⟨_, _, _, _, _, rfl, hm⟩
    · rw [if_neg hc1]
      show ∃ m' c' l' o' s', _ = some (if nI c = 1 then nI v else 0, _) ∧ _
      rw [if_neg hc1]
      exact ⟨_, _, _, _, _, rfl, hm⟩
  | none =>
    rw [if_pos (show t9 none = -9 from rfl), a1, Option.bind_some]
    have f1 : P_X1_firstPair (nI s) 1 (nI W) l' = _ := firstPair_eq (b := true) h9 a3 hs
    have f2 : P_X1_firstPair (nI s) 0 (nI W) l' = _ := firstPair_eq (b := false) h9 a3 hs
    refine ⟨m', c', l', o', s', ?_, Or.inr a3⟩
    show (P_X1_firstPair (nI s) 1 (nI W) l').bind _ = _
    rw [f1, Option.bind_some]
    cases g1 : fpr (TF (GS k vs W nw wl none)) true s W (2 ^ W) 0 with
    | some p =>
      obtain ⟨q1, q2⟩ := fpr_lt _ _ g1
      rw [if_neg (prI_ne h9 q1 q2), prt_eq h9 q1 q2 hc]
      rfl
    | none =>
      rw [if_pos (show prI none = -9 from rfl)]
      show (P_X1_firstPair (nI s) 0 (nI W) l').bind _ = _
      rw [f2, Option.bind_some]
      cases g2 : fpr (TF (GS k vs W nw wl none)) false s W (2 ^ W) 0 with
      | some p =>
        obtain ⟨q1, q2⟩ := fpr_lt _ _ g2
        rw [if_neg (prI_ne h9 q1 q2), prt_eq h9 q1 q2 hc]
        rfl
      | none =>
        rw [if_pos (show prI none = -9 from rfl)]
theorem made_m {k W nw s c : Nat} {vs wl : Nat → Nat} {mv mws mw : Nat → Int32} (h : MT k vs W mv) (h0 : mws 0 = nI nw) (hw : WD W nw wl mw) (hs : s < 2 ^ W) (hc : c ≤ 2) (dd : Int32) (dl dO : Nat → Int32) : ∃ d' e' f', P_X11_made (nI s) (nI c) (nI k) (nI W) dd mv mws mw dl dO = some (mdr k vs W nw wl s c, d', e', f') := by
  unfold P_X11_made
  have h9 := h.1.le
  have ⟨p1, p2⟩ := p9 h9
  obtain ⟨d', e', f', b1, b2⟩ := findNow_eq h h0 hw dd dl dO
  have bs : e' s = nI (TF (GS k vs W nw wl none) s) := (b2 s hs).1
  have t27 : TF (GS k vs W nw wl none) s ≤ 27 := TF_le _ _
  refine ⟨d', e', f', ?_⟩
  rw [isSet_in_m h9 hs, Option.bind_some, if_neg one_ne, e2, in0 hc (by decide), Option.bind_some, if_neg one_ne, b1, Option.bind_some]
  show ck (nI s) 512 (if e' (nI s).toNatClampNeg = 0 then some (-9, d', e', f') else ck (nI s) 512 (if e' (nI s).toNatClampNeg = 1 then if nI c = 1 then (P_X11_signBy (nI s) (nI k) (nI W) mv mw).bind fun z_53 => some (z_53, d', e', f') else some (0, d', e', f') else jn (fun x170_l3 x170_l4 x170_l5 => if nI c = 0 then some (x170_l3, d', e', f') else if nI c = 1 then some (x170_l4, d', e', f') else some (x170_l5, d', e', f')) fun k170 => P_X11_made_63 (nI s) (nI W) (d', e', f') k170 QF 1)) = _
  rw [ck_in _ (show s < 512 by omega) (by decide), ck_in _ (show s < 512 by omega) (by decide), nI_clamp (show s < 2 ^ 31 by omega), bs, mdr]
  cases hf : ffg k vs W nw wl s 4 0 with
  | some v =>
    have hG : GS k vs W nw wl none s := (ffg_iff h.1).mp (by rw [hf]; exact fun z => by cases z)
    have h1 : TF (GS k vs W nw wl none) s = 1 := TF_one.mpr hG
    rw [h1, if_neg (show ¬ nI 1 = 0 by decide), if_pos (show nI 1 = 1 from rfl)]
    show _ = some (if nI c = 1 then nI v else 0, d', e', f')
    by_cases hc1 : nI c = 1
    · rw [if_pos hc1, if_pos hc1, signBy_eq h hw hs hf]; rfl
    · rw [if_neg hc1, if_neg hc1]
  | none =>
    have hG : ¬ TF (GS k vs W nw wl none) s = 1 := fun z => (ffg_iff h.1).mpr (TF_one.mp z) hf
    by_cases h0 : TF (GS k vs W nw wl none) s = 0
    · rw [if_pos (by rw [h0]; rfl), fpr_none0 h0, fpr_none0 h0]
    · rw [if_neg (nI_ne0 (by omega) (by omega)), if_neg (show ¬ nI (TF (GS k vs W nw wl none) s) = 1 from fun z => hG ((nI_eq (b := 1) (by omega) (by decide)).mp z)), jn]
      rw [mh_eq (z := (d', e', f')) h9 b2 hs]
      have fin : ∀ (st : Int32) (p : Nat × Nat), (if nI c = 0 then some (st, d', e', f') else if nI c = 1 then some (nI p.1, d', e', f') else some (nI p.2, d', e', f')) = some (prt st p c, d', e', f') := by
        intro st p
        rw [prt]
        by_cases c0 : nI c = 0
        · rw [if_pos c0, if_pos c0]
        · rw [if_neg c0, if_neg c0]
          by_cases c1 : nI c = 1
          · rw [if_pos c1, if_pos c1]
          · rw [if_neg c1, if_neg c1]
      cases g1 : fpr (TF (GS k vs W nw wl none)) true s W (2 ^ W) 0 with
      | some p => exact fin 1 p
      | none =>
        cases g2 : fpr (TF (GS k vs W nw wl none)) false s W (2 ^ W) 0 with
        | some p => exact fin 2 p
        | none => rfl
theorem made_eq {k W nw : Nat} {vs wl : Nat → Nat} {fv fl fw mv mws mw : Nat → Int32} (h : SPW k vs W nw wl fv fl fw mv mws mw) (p q : Int32) {m : Int32} {ll : Nat → Int32} (hm : ME k vs W nw wl m ll) (cc : Int32) (lo ls : Nat → Int32) (dd : Int32) (dl dO : Nat → Int32) : ∃ r m' c' l' o' s' d' e' f', P_X10_made p q m (nI k) (nI W) fv fl (nI nw) fw cc ll lo ls = some (r, m', c', l', o', s') ∧ P_X11_made p q (nI k) (nI W) dd mv mws mw dl dO = some (r, d', e', f') ∧ ME k vs W nw wl m' l' := by
  have h9 := h.t.le
  rcases set_cases h9 p with ⟨s, hs, rfl⟩ | hp
  · rcases int_cases (show 2 < 2 ^ 31 by decide) q with ⟨c, hc, rfl⟩ | hq
    · obtain ⟨m', c', l', o', s', a1, a2⟩ := made_c h.c h.w hs hc hm cc lo ls
      obtain ⟨d', e', f', b1⟩ := made_m h.m h.n h.x hs hc dd dl dO
      exact ⟨_, _, _, _, _, _, _, _, _, a1, b1, a2⟩
    · unfold P_X10_made P_X11_made
      rw [isSet_in h9 hs, isSet_in_m h9 hs, Option.bind_some, Option.bind_some, if_neg one_ne, if_neg one_ne, e2, bt_out hq, in_out hq, Option.bind_some, if_pos rfl]
      exact ⟨_, _, _, _, _, _, _, _, _, rfl, rfl, hm⟩
  · unfold P_X10_made P_X11_made
    rw [isSet_out h9 hp, isSet_out_m h9 hp, Option.bind_some, Option.bind_some, if_pos rfl, if_pos rfl]
    exact ⟨_, _, _, _, _, _, _, _, _, rfl, rfl, hm⟩
