/-! clause -/
def cM (t : Nat → Nat) (x : Nat) : Option Nat → Option Nat
  | none => some x
  | some q => if t x < t q then some x else some q
def cO (t : Nat → Nat) (a s x : Nat) (o : Option Nat) : Option Nat := if t x ≠ 0 ∧ x &&& a = s &&& a then cM t x o else o
def olz (t : Nat → Nat) (o : Option Nat) : Int32 := match o with
  | none => 0
  | some q => nI (t q)
def oK (W : Nat) (t : Nat → Nat) (o : Option Nat) : Prop := ∀ q, o = some q → q < 2 ^ W ∧ t q ≠ 0
theorem oK_none (W : Nat) (t : Nat → Nat) : oK W t none := fun _ h => by cases h
theorem cO_ok {W a s x : Nat} {t : Nat → Nat} {o : Option Nat} (h : oK W t o) (hx : x < 2 ^ W) : oK W t (cO t a s x o) := by
  rw [cO]
  by_cases c : t x ≠ 0 ∧ x &&& a = s &&& a
  · rw [if_pos c]
    cases o with
    | none => intro q hq; cases hq; exact ⟨hx, c.1⟩
    | some r =>
      show oK W t (if t x < t r then some x else some r)
      by_cases l : t x < t r
      · rw [if_pos l]; intro q hq; cases hq; exact ⟨hx, c.1⟩
      · rw [if_neg l]; exact h
  · rw [if_neg c]; exact h
theorem t9_9 {W : Nat} {t : Nat → Nat} {o : Option Nat} (h9 : W ≤ 9) (h : oK W t o) : t9 o = -9 ↔ o = none := by
  have ⟨p1, p2⟩ := p9 h9
  cases o with
  | none => exact ⟨fun _ => rfl, fun _ => rfl⟩
  | some q => exact ⟨fun z => absurd z (n9_ne (by have := (h q rfl).1; omega)), fun z => by cases z⟩
theorem within_loop {W a s : Nat} {t : Nat → Nat} {z : Int32 × Int32 × (Nat → Int32) × (Nat → Int32) × (Nat → Int32)} (h9 : W ≤ 9) (hL : LT W z.2.2.1 t) (hs : s < 2 ^ W) (ha : a < 2 ^ W) : ∀ (m x n : Nat) (o : Option Nat), x + m = 2 ^ W → m < n → oK W t o → ∃ o', P_X10_shortestWithin_15 (nI a) (nI s) (nI W) z n (t9 o) (olz t o) (nI x) = some (t9 o', z.1, z.2.1, z.2.2.1, z.2.2.2.1, z.2.2.2.2) ∧ o' = fld (cO t a s) m x o ∧ oK W t o' := by
  have ⟨p1, p2⟩ := p9 h9
  intro m
  induction m with
  | zero =>
    intro x n o hi hn ho
    obtain ⟨n, rfl⟩ : ∃ q, n = q + 1 := ⟨n - 1, by omega⟩
    refine ⟨o, ?_, rfl, ho⟩
    rw [P_X10_shortestWithin_15, all_eq h9, Option.bind_some, if_pos (nI_lt (by omega) (by omega))]
  | succ m ih =>
    intro x n o hi hn ho
    obtain ⟨n, rfl⟩ : ∃ q, n = q + 1 := ⟨n - 1, by omega⟩
    have hx : x < 2 ^ W := by omega
    have htx := (hL x hx).2
    have nx := fun o ho => ih (x + 1) n o (by omega) (by omega) ho
    have hxa : x &&& a < 2 ^ W := Nat.lt_of_le_of_lt Nat.and_le_left hx
    have hsa : s &&& a < 2 ^ W := Nat.lt_of_le_of_lt Nat.and_le_left hs
    rw [P_X10_shortestWithin_15, all_eq h9, Option.bind_some, if_neg (nI_nlt (by omega) (by omega)), jn, nx_and, nx_and, nI_1, fld, cO]
    by_cases e : x &&& a = s &&& a
    · rw [if_pos (show nI (x &&& a) = nI (s &&& a) by rw [e]), of_eq h9 hL hx, Option.bind_some]
      show ∃ o', jn _ _ = _ ∧ _
      rw [jn]
      by_cases h0 : t x = 0
      · rw [if_pos ((lnI_9 htx).mpr h0), if_neg (fun q => q.1 h0)]
        exact nx o ho
      · rw [if_neg (fun q => h0 ((lnI_9 htx).mp q)), jn, if_pos (show t x ≠ 0 ∧ x &&& a = s &&& a from ⟨h0, e⟩), lnI, if_neg h0]
        cases o with
        | none =>
          rw [if_pos (show t9 none = -9 from rfl)]
          exact nx (some x) (fun q hq => by cases hq; exact ⟨hx, h0⟩)
        | some r =>
          have hr := ho r rfl
          have htr := (hL r hr.1).2
          rw [if_neg (show ¬ t9 (some r) = -9 from n9_ne (by omega))]
          show ∃ o', (if nI (t r) ≤ nI (t x) then _ else _) = _ ∧ o' = fld (cO t a s) m (x + 1) (if t x < t r then some x else some r) ∧ _
          by_cases l : t x < t r
          · rw [if_neg (nI_ge l (by omega)), if_pos l]
            exact nx (some x) (fun q hq => by cases hq; exact ⟨hx, h0⟩)
          · rw [if_pos (nI_le (by omega) (by omega)), if_neg l]
            exact nx (some r) ho
    · rw [if_neg (fun z => e ((nI_eq (by omega) (by omega)).mp z))]
      show ∃ o', jn _ _ = _ ∧ _
      rw [jn, if_pos rfl, if_neg (fun q => e q.2)]
      exact nx o ho
theorem clausem_loop {W a s : Nat} {t : Nat → Nat} {z : Int32 × (Nat → Int32) × (Nat → Int32)} {K : Int32 → Option (Int32 × Int32 × (Nat → Int32) × (Nat → Int32))} (h9 : W ≤ 9) (hL : LT W z.2.1 t) (hs : s < 2 ^ W) (ha : a < 2 ^ W) : ∀ (m x n : Nat) (o : Option Nat), x + m = 2 ^ W → m < n → oK W t o → P_X11_clause_38 (nI s) (nI W) z (nI a) K n (t9 o) (nI x) = K (t9 (fld (cO t a s) m x o)) := by
  have ⟨p1, p2⟩ := p9 h9
  intro m
  induction m with
  | zero =>
    intro x n o hi hn ho
    obtain ⟨n, rfl⟩ : ∃ q, n = q + 1 := ⟨n - 1, by omega⟩
    rw [P_X11_clause_38, allSets_eq h9, Option.bind_some, if_pos (nI_lt (by omega) (by omega))]
    rfl
  | succ m ih =>
    intro x n o hi hn ho
    obtain ⟨n, rfl⟩ : ∃ q, n = q + 1 := ⟨n - 1, by omega⟩
    have hx : x < 2 ^ W := by omega
    have htx := (hL x hx).2
    have nx := fun o ho => ih (x + 1) n o (by omega) (by omega) ho
    have hxa : x &&& a < 2 ^ W := Nat.lt_of_le_of_lt Nat.and_le_left hx
    have hsa : s &&& a < 2 ^ W := Nat.lt_of_le_of_lt Nat.and_le_left hs
    rw [P_X11_clause_38, allSets_eq h9, Option.bind_some, if_neg (nI_nlt (by omega) (by omega)), ck_in _ (show x < 512 by omega) (by decide), jn, jn, nI_clamp (show x < 2 ^ 31 by omega), (hL x hx).1, nx_and, nx_and, nI_1, Nat.and_comm a x, Nat.and_comm a s, fld, cO]
    by_cases h0 : t x = 0
    · rw [if_pos (show nI (t x) ≤ 0 by rw [h0]; decide), jn, jn, if_pos rfl, if_neg (fun q => q.1 h0)]
      exact nx o ho
    · rw [if_neg (show ¬ nI (t x) ≤ 0 from nI_nle (by omega) (by omega))]
      by_cases e : x &&& a = s &&& a
      · rw [if_pos (show nI (x &&& a) = nI (s &&& a) by rw [e])]
        show jn _ _ = _
        rw [jn, jn, if_neg one_ne, jn, if_pos (show t x ≠ 0 ∧ x &&& a = s &&& a from ⟨h0, e⟩)]
        cases o with
        | none =>
          rw [if_pos (show t9 none = -9 from rfl)]
          exact nx (some x) (fun q hq => by cases hq; exact ⟨hx, h0⟩)
        | some r =>
          have hr := ho r rfl
          have htr := (hL r hr.1).2
          rw [if_neg (show ¬ t9 (some r) = -9 from n9_ne (by omega)), ck_in _ (show x < 512 by omega) (by decide)]
          show ck (nI r) 512 (if z.2.1 (nI r).toNatClampNeg ≤ nI (t x) then _ else _) = K (t9 (fld (cO t a s) m (x + 1) (if t x < t r then some x else some r)))
          rw [ck_in _ (show r < 512 by omega) (by decide), nI_clamp (show r < 2 ^ 31 by omega), (hL r hr.1).1]
          by_cases l : t x < t r
          · rw [if_neg (nI_ge l (by omega)), if_pos l]
            exact nx (some x) (fun q hq => by cases hq; exact ⟨hx, h0⟩)
          · rw [if_pos (nI_le (by omega) (by omega)), if_neg l]
            exact nx (some r) ho
      · rw [if_neg (show ¬ nI (x &&& a) = nI (s &&& a) from fun z => e ((nI_eq (by omega) (by omega)).mp z)), jn, jn, if_pos rfl, if_neg (fun q => e q.2)]
        exact nx o ho
def clr (W : Nat) (t : Nat → Nat) (a s c : Nat) : Int32 := match fld (cO t a s) (2 ^ W) 0 none with
  | none => -9
  | some q => if nI c = 0 then nI q else nI (t q)
theorem clause_c {k W nw ns s c : Nat} {vs wl sl : Nat → Nat} {fv fl fw f : Nat → Int32} (h : CT k vs W fv fl) (hw : WD W nw wl fw) (hn : ns ≤ 8) (hf : ∀ j, j < ns → f j = nI (sl j)) (hs : s < 2 ^ W) (hc : c ≤ 1) {m : Int32} {ll : Nat → Int32} (hm : ME k vs W nw wl m ll) (cc : Int32) (lo ls : Nat → Int32) : ∃ m' c' l' o' s', P_X10_clause (nI s) (nI c) m (nI k) (nI W) fv fl (nI ns) (nI nw) f fw cc ll lo ls = some (clr W (TF (GS k vs W nw wl none)) (cta W sl ns) s c, m', c', l', o', s') ∧ ME k vs W nw wl m' l' := by
  have h9 := h.1.le
  have ⟨p1, p2⟩ := p9 h9
  obtain ⟨m', c', l', o', s', a1, a2, a3⟩ := lengthsNow_eq h hw hm cc lo ls
  obtain ⟨m2, c2, l2, o2, s2, a4, a5, a6⟩ := lengthsNow_eq h hw (m := m') (Or.inr a3) c' o' s'
  obtain ⟨q, b1, b2, b3⟩ := within_loop (z := (m', c', l', o', s')) h9 a3 hs (cta_lt W sl ns) (2 ^ W) 0 QF none (by omega) (by unfold QF; omega) (oK_none _ _)
  have b1' : P_X10_shortestWithin_15 (nI (cta W sl ns)) (nI s) (nI W) (m', c', l', o', s') QF (-9) 0 0 = _ := b1
  unfold P_X10_clause P_X10_shortestWithin
  rw [isSet_in h9 hs, Option.bind_some, if_neg one_ne, bt1 hc, contract_c h9 hn hf, Option.bind_some, a1, Option.bind_some, b1', Option.bind_some, clr, ← b2]
  cases q with
  | none =>
    refine ⟨m', c', l', o', s', ?_, Or.inr a3⟩
    rw [if_pos (show t9 none = -9 from rfl)]
  | some q =>
    have hq := b3 q rfl
    rw [if_neg (show ¬ t9 (some q) = -9 from n9_ne (by omega))]
    by_cases c0 : nI c = 0
    · refine ⟨m', c', l', o', s', ?_, Or.inr a3⟩
      rw [if_pos c0]
      show _ = some (if nI c = 0 then nI q else nI _, _)
      rw [if_pos c0]
      rfl
    · refine ⟨m2, c2, l2, o2, s2, ?_, Or.inr a6⟩
      rw [if_neg c0]
      show (P_X10_lengthsNow m' (nI k) (nI W) fv fl (nI nw) fw c' l' o' s').bind _ = some (if nI c = 0 then nI q else nI _, _)
      rw [if_neg c0, a4, Option.bind_some]
      show (P_X1_of (nI q) l2).bind _ = _
      rw [of_eq h9 a6 hq.1, lnI, if_neg hq.2]
      rfl
theorem clause_m {k W nw ns s c : Nat} {vs wl sl : Nat → Nat} {mv mws mw ms f : Nat → Int32} (h : MT k vs W mv) (h0 : mws 0 = nI nw) (hw : WD W nw wl mw) (hn : ns ≤ 8) (hms : ms 0 = nI ns) (hf : ∀ j, j < ns → f j = nI (sl j)) (hs : s < 2 ^ W) (hc : c ≤ 1) (dd : Int32) (dl dO : Nat → Int32) : ∃ d' e' f', P_X11_clause (nI s) (nI c) (nI k) (nI W) dd mv ms f mws mw dl dO = some (clr W (TF (GS k vs W nw wl none)) (cta W sl ns) s c, d', e', f') := by
  have h9 := h.1.le
  have ⟨p1, p2⟩ := p9 h9
  obtain ⟨d', e', f', b1, b2⟩ := findNow_eq h h0 hw dd dl dO
  refine ⟨d', e', f', ?_⟩
  unfold P_X11_clause
  rw [isSet_in_m h9 hs, Option.bind_some, if_neg one_ne, in01 hc, Option.bind_some, if_neg one_ne, b1, Option.bind_some, contract_m h9 hn hms hf, Option.bind_some, jn]
  have md := clausem_loop (K := fun x => jn (fun (_ : Unit) => some (x, d', e', f')) (fun j => if x = -9 then j () else if nI c = 0 then j () else ck x 512 (some (e' x.toNatClampNeg, d', e', f')))) (z := (d', e', f')) h9 b2 hs (cta_lt W sl ns) (2 ^ W) 0 QF none (by omega) (by unfold QF; omega) (oK_none _ _)
  have md' : P_X11_clause_38 (nI s) (nI W) (d', e', f') (nI (cta W sl ns)) _ QF (-9) 0 = _ := md
  rw [md', clr, jn]
  have ok : oK W (TF (GS k vs W nw wl none)) (fld (cO (TF (GS k vs W nw wl none)) (cta W sl ns) s) (2 ^ W) 0 none) := by
    obtain ⟨q, -, b2', b3⟩ := within_loop (z := (0, d', e', f', f')) h9 b2 hs (cta_lt W sl ns) (2 ^ W) 0 QF none (by omega) (by unfold QF; omega) (oK_none _ _)
    rw [← b2']; exact b3
  cases hq : fld (cO (TF (GS k vs W nw wl none)) (cta W sl ns) s) (2 ^ W) 0 none with
  | none => rw [if_pos (show t9 none = -9 from rfl)]; rfl
  | some q =>
    have hk := ok q hq
    rw [if_neg (show ¬ t9 (some q) = -9 from n9_ne (by omega))]
    show _ = some (if nI c = 0 then nI q else nI _, _)
    by_cases c0 : nI c = 0
    · rw [if_pos c0, if_pos c0]; rfl
    · rw [if_neg c0, if_neg c0]
      show ck (nI q) 512 (some (e' (nI q).toNatClampNeg, d', e', f')) = _
      rw [ck_in _ (show q < 512 by omega) (by decide), nI_clamp (show q < 2 ^ 31 by omega), (b2 q hk.1).1]
theorem clause_eq {k W nw ns : Nat} {vs wl sl : Nat → Nat} {fv fl fw mv mws mw ms cf mf : Nat → Int32} (h : SPW k vs W nw wl fv fl fw mv mws mw) (hn : ns ≤ 8) (hms : ms 0 = nI ns) (hf : ∀ j, j < ns → cf j = nI (sl j)) (hg : ∀ j, j < ns → mf j = nI (sl j)) (p q : Int32) {m : Int32} {ll : Nat → Int32} (hm : ME k vs W nw wl m ll) (cc : Int32) (lo ls : Nat → Int32) (dd : Int32) (dl dO : Nat → Int32) : ∃ r m' c' l' o' s' d' e' f', P_X10_clause p q m (nI k) (nI W) fv fl (nI ns) (nI nw) cf fw cc ll lo ls = some (r, m', c', l', o', s') ∧ P_X11_clause p q (nI k) (nI W) dd mv ms mf mws mw dl dO = some (r, d', e', f') ∧ ME k vs W nw wl m' l' := by
  have h9 := h.t.le
  rcases set_cases h9 p with ⟨s, hs, rfl⟩ | hp
  · rcases one_cases q with ⟨c, hc, rfl⟩ | hq
    · obtain ⟨m', c', l', o', s', a1, a2⟩ := clause_c h.c h.w hn hf hs hc hm cc lo ls
      obtain ⟨d', e', f', b1⟩ := clause_m h.m h.n h.x hn hms hg hs hc dd dl dO
      exact ⟨_, _, _, _, _, _, _, _, _, a1, b1, a2⟩
    · unfold P_X10_clause P_X11_clause
      rw [isSet_in h9 hs, isSet_in_m h9 hs, Option.bind_some, Option.bind_some, if_neg one_ne, if_neg one_ne, bt1_out hq, in_out hq, Option.bind_some, if_pos rfl]
      exact ⟨_, _, _, _, _, _, _, _, _, rfl, rfl, hm⟩
  · unfold P_X10_clause P_X11_clause
    rw [isSet_out h9 hp, isSet_out_m h9 hp, Option.bind_some, Option.bind_some, if_pos rfl, if_pos rfl]
    exact ⟨_, _, _, _, _, _, _, _, _, rfl, rfl, hm⟩
