/-! lengths of sets by levels -/
/-- the length of a set, if it is at most n; 0: it isn't -/
noncomputable def T (G : Nat → Prop) : Nat → Nat → Nat
  | 0, _ => 0
  | n + 1, s => if T G n s ≠ 0 then T G n s else @ite _ ((n = 0 ∧ G s) ∨ ∃ x y, T G n x ≠ 0 ∧ T G n y ≠ 0 ∧ T G n x + T G n y = n + 1 ∧ (x &&& y = s ∨ x ||| y = s)) (Classical.propDecidable _) (n + 1) 0
def TN (G : Nat → Prop) (n s : Nat) : Prop := (n = 0 ∧ G s) ∨ ∃ x y, T G n x ≠ 0 ∧ T G n y ≠ 0 ∧ T G n x + T G n y = n + 1 ∧ (x &&& y = s ∨ x ||| y = s)
theorem T_old {G : Nat → Prop} {n s : Nat} (h : T G n s ≠ 0) : T G (n + 1) s = T G n s := by rw [T, if_pos h]
theorem T_new {G : Nat → Prop} {n s : Nat} (h : T G n s = 0) (g : TN G n s) : T G (n + 1) s = n + 1 := by rw [T, if_neg (fun z => z h)]; exact @if_pos _ (Classical.propDecidable _) g _ _ _
theorem T_no {G : Nat → Prop} {n s : Nat} (h : T G n s = 0) (g : ¬ TN G n s) : T G (n + 1) s = 0 := by rw [T, if_neg (fun z => z h)]; exact @if_neg _ (Classical.propDecidable _) g _ _ _
theorem T_le (G : Nat → Prop) : ∀ n s, T G n s ≤ n := by
  intro n
  induction n with
  | zero => intro s; exact Nat.le_refl 0
  | succ n ih =>
    intro s
    by_cases h : T G n s = 0
    · by_cases g : TN G n s
      · rw [T_new h g]; omega
      · rw [T_no h g]; omega
    · rw [T_old h]; have := ih s; omega
theorem T_stay {G : Nat → Prop} {n s : Nat} (h : T G n s ≠ 0) : ∀ m, T G (n + m) s = T G n s := by
  intro m
  induction m with
  | zero => rfl
  | succ m ih => rw [← Nat.add_assoc, T_old (by rw [ih]; exact h), ih]
theorem T_up {G : Nat → Prop} {n m s : Nat} (h : T G n s ≠ 0) (hm : n ≤ m) : T G m s = T G n s := by
  obtain ⟨d, rfl⟩ : ∃ d, m = n + d := ⟨m - n, by omega⟩
  exact T_stay h d
theorem T_val {G : Nat → Prop} : ∀ n s, T G n s ≠ 0 → T G (T G n s) s = T G n s := by
  intro n
  induction n with
  | zero => intro s h; exact absurd rfl h
  | succ n ih =>
    intro s h
    by_cases g : T G n s = 0
    · by_cases q : TN G n s
      · rw [T_new g q]; exact T_new g q
      · exact absurd (T_no g q) h
    · rw [T_old g]; exact ih s g
theorem T_comb {G : Nat → Prop} {a b x y s : Nat} (hx : T G a x ≠ 0) (hy : T G b y ≠ 0) (hs : x &&& y = s ∨ x ||| y = s) : T G (a + b) s ≠ 0 := by
  have ha := T_le G a x
  have hb := T_le G b y
  have vx := T_val a x hx
  have vy := T_val b y hy
  obtain ⟨n, hn⟩ : ∃ n, T G a x + T G b y = n + 1 := ⟨T G a x + T G b y - 1, by omega⟩
  have x1 : T G n x = T G a x := by
    rw [← vx]
    exact (T_up (n := T G a x) (by rw [vx]; exact hx) (by omega)).trans (by rw [vx])
  have y1 : T G n y = T G b y := by
    rw [← vy]
    exact (T_up (n := T G b y) (by rw [vy]; exact hy) (by omega)).trans (by rw [vy])
  by_cases g : T G n s = 0
  · have h1 : T G (n + 1) s = n + 1 := T_new g (Or.inr ⟨x, y, by rw [x1]; exact hx, by rw [y1]; exact hy, by rw [x1, y1]; exact hn, hs⟩)
    rw [T_up (n := n + 1) (by omega) (by omega), h1]
    omega
  · rw [T_up g (by omega)]; exact g
theorem T_lt {G : Nat → Prop} {W : Nat} (hG : ∀ s, G s → s < 2 ^ W) : ∀ n s, T G n s ≠ 0 → s < 2 ^ W := by
  intro n
  induction n with
  | zero => intro s h; exact absurd rfl h
  | succ n ih =>
    intro s h
    by_cases g : T G n s = 0
    · by_cases q : TN G n s
      · rcases q with ⟨-, q⟩ | ⟨x, y, q1, q2, -, q3 | q3⟩
        · exact hG s q
        · rw [← q3]; exact Nat.lt_of_le_of_lt Nat.and_le_left (ih x q1)
        · rw [← q3]; exact Nat.or_lt_two_pow (ih x q1) (ih y q2)
      · exact absurd (T_no g q) h
    · exact ih s g
/-- nothing new behind n: nothing new ever -/
theorem T_cap {G : Nat → Prop} {W n : Nat} (hG : ∀ s, G s → s < 2 ^ W) (h : ∀ m, n ≤ m → ∀ s, s < 2 ^ W → T G (m + 1) s = T G m s) : ∀ m, n ≤ m → ∀ s, s < 2 ^ W → T G m s = T G n s := by
  intro m hm
  obtain ⟨d, rfl⟩ : ∃ d, m = n + d := ⟨m - n, by omega⟩
  clear hm
  induction d with
  | zero => intro s _; rfl
  | succ d ih => intro s hs; rw [← Nat.add_assoc, h (n + d) (by omega) s hs, ih s hs]
/-- twice the greatest length passed: nothing new -/
theorem T_end {G : Nat → Prop} {n : Nat} (h : ∀ s, 2 * T G n s < n + 1) (hn : 1 ≤ n) : ∀ m s, T G (n + m) s = T G n s := by
  intro m
  induction m with
  | zero => intro s; rfl
  | succ m ih =>
    intro s
    rw [← Nat.add_assoc]
    by_cases g : T G (n + m) s = 0
    · have q : ¬ TN G (n + m) s := by
        rintro (⟨q, -⟩ | ⟨x, y, -, -, q3, -⟩)
        · omega
        · rw [ih x, ih y] at q3
          have h1 := h x
          have h2 := h y
          omega
      rw [T_no g q, ← ih s, g]
    · rw [T_old g, ih s]
theorem T_full {G : Nat → Prop} {W n : Nat} (h : ∀ s, s < 2 ^ W → T G n s ≠ 0) {m s : Nat} (hm : n ≤ m) (hs : s < 2 ^ W) : T G m s = T G n s := T_up (h s hs) hm
/-- how many are not 0 -/
def cnt (t : Nat → Nat) : Nat → Nat
  | 0 => 0
  | n + 1 => cnt t n + (if t n = 0 then 0 else 1)
theorem cnt_le (t : Nat → Nat) : ∀ n, cnt t n ≤ n := by
  intro n
  induction n with
  | zero => exact Nat.le_refl 0
  | succ n ih => rw [cnt]; split <;> omega
def un (f : Nat → Nat) (k x : Nat) : Nat → Nat := fun j => if j = k then x else f j
theorem un_s (f : Nat → Nat) (k x : Nat) : un f k x k = x := if_pos rfl
theorem un_n (f : Nat → Nat) {k j : Nat} (x : Nat) (h : j ≠ k) : un f k x j = f j := if_neg h
theorem cnt_out {t : Nat → Nat} {s v : Nat} : ∀ n, n ≤ s → cnt (un t s v) n = cnt t n := by
  intro n
  induction n with
  | zero => intro _; rfl
  | succ n ih => intro h; rw [cnt, cnt, ih (by omega), un_n t v (by omega)]
theorem cnt_un {t : Nat → Nat} {s v : Nat} (h0 : t s = 0) (hv : v ≠ 0) : ∀ n, s < n → cnt (un t s v) n = cnt t n + 1 := by
  intro n
  induction n with
  | zero => intro h; omega
  | succ n ih =>
    intro h
    rw [cnt, cnt]
    by_cases hs : s = n
    · subst hs
      rw [cnt_out s (Nat.le_refl _), un_s, if_neg hv, if_pos h0]
    · rw [ih (by omega), un_n t v (show n ≠ s by omega)]
      omega
theorem cnt_full {t : Nat → Nat} : ∀ n, cnt t n = n → ∀ s, s < n → t s ≠ 0 := by
  intro n
  induction n with
  | zero => intro _ s h; omega
  | succ n ih =>
    intro h s hs
    rw [cnt] at h
    have := cnt_le t n
    by_cases g : t n = 0
    · rw [if_pos g] at h; omega
    · rw [if_neg g] at h
      by_cases q : s = n
      · subst q; exact g
      · exact ih (by omega) s (by omega)
/-- what was found: how many, the lengths, the sets in their order -/
abbrev SG : Type := Nat × (Nat → Nat) × (Nat → Nat)
def nt (N : Nat) (g : SG) (s : Nat) : SG := if g.2.1 s = 0 then (g.1 + 1, un g.2.1 s N, un g.2.2 g.1 s) else g
def nts (N : Nat) (g : SG) (L : List Nat) : SG := L.foldl (nt N) g
def INV (W : Nat) (g : SG) : Prop := g.1 = cnt g.2.1 (2 ^ W) ∧ (∀ s, s < 2 ^ W → (g.2.1 s ≠ 0 ↔ ∃ j, j < g.1 ∧ g.2.2 j = s)) ∧ ∀ j, j < g.1 → g.2.2 j < 2 ^ W
theorem INV.le {W : Nat} {g : SG} (h : INV W g) : g.1 ≤ 2 ^ W := by rw [h.1]; exact cnt_le _ _
theorem INV.lt {W : Nat} {g : SG} (h : INV W g) {s : Nat} (hs : s < 2 ^ W) (h0 : g.2.1 s = 0) : g.1 < 2 ^ W := by
  rcases Nat.lt_or_ge g.1 (2 ^ W) with q | q
  · exact q
  · have := h.le
    exact absurd h0 (cnt_full (2 ^ W) (by rw [← h.1]; omega) s hs)
theorem nt_inv {W N : Nat} {g : SG} {s : Nat} (hN : N ≠ 0) (h : INV W g) (hs : s < 2 ^ W) : INV W (nt N g s) := by
  rw [nt]
  by_cases h0 : g.2.1 s = 0
  · rw [if_pos h0]
    refine ⟨?_, fun x hx => ?_, fun j hj => ?_⟩
    · show g.1 + 1 = cnt (un g.2.1 s N) (2 ^ W)
      rw [cnt_un h0 hN _ hs, h.1]
    · show un g.2.1 s N x ≠ 0 ↔ ∃ j, j < g.1 + 1 ∧ un g.2.2 g.1 s j = x
      by_cases hq : x = s
      · subst hq
        rw [un_s]
        exact ⟨fun _ => ⟨g.1, by omega, un_s _ _ _⟩, fun _ => hN⟩
      · rw [un_n _ _ hq, h.2.1 x hx]
        constructor
        · rintro ⟨j, h1, h2⟩
          exact ⟨j, by omega, by rw [un_n _ _ (by omega)]; exact h2⟩
        · rintro ⟨j, h1, h2⟩
          by_cases hj : j = g.1
          · subst hj; rw [un_s] at h2; exact absurd h2.symm hq
          · rw [un_n _ _ hj] at h2; exact ⟨j, by omega, h2⟩
    · show un g.2.2 g.1 s j < 2 ^ W
      have hj : j < g.1 + 1 := hj
      by_cases hq : j = g.1
      · subst hq; rw [un_s]; exact hs
      · rw [un_n _ _ hq]; exact h.2.2 j (by omega)
  · rw [if_neg h0]; exact h
/-- what a later state keeps of an earlier one -/
def EXT (g g' : SG) : Prop := g.1 ≤ g'.1 ∧ (∀ j, j < g.1 → g'.2.2 j = g.2.2 j) ∧ ∀ s, g.2.1 s ≠ 0 → g'.2.1 s = g.2.1 s
theorem EXT.refl (g : SG) : EXT g g := ⟨Nat.le_refl _, fun _ _ => rfl, fun _ _ => rfl⟩
theorem EXT.trans {a b c : SG} (h : EXT a b) (k : EXT b c) : EXT a c := ⟨Nat.le_trans h.1 k.1, fun j hj => by rw [k.2.1 j (by have := h.1; omega), h.2.1 j hj], fun s hs => by rw [k.2.2 s (by rw [h.2.2 s hs]; exact hs), h.2.2 s hs]⟩
theorem nt_ext (N : Nat) (g : SG) (s : Nat) : EXT g (nt N g s) := by
  rw [nt]
  by_cases h0 : g.2.1 s = 0
  · rw [if_pos h0]
    refine ⟨Nat.le_succ _, fun j hj => un_n _ _ (by omega), fun x hx => un_n _ _ (fun e => hx (by rw [e]; exact h0))⟩
  · rw [if_neg h0]; exact EXT.refl g
theorem nts_nil (N : Nat) (g : SG) : nts N g [] = g := rfl
theorem nts_cons (N : Nat) (g : SG) (s : Nat) (L : List Nat) : nts N g (s :: L) = nts N (nt N g s) L := rfl
theorem nts_app (N : Nat) (g : SG) (L M : List Nat) : nts N g (L ++ M) = nts N (nts N g L) M := List.foldl_append
theorem nts_ext (N : Nat) : ∀ (L : List Nat) (g : SG), EXT g (nts N g L) := by
  intro L
  induction L with
  | nil => intro g; exact EXT.refl g
  | cons s L ih => intro g; rw [nts_cons]; exact (nt_ext N g s).trans (ih _)
theorem nts_inv {W N : Nat} (hN : N ≠ 0) : ∀ (L : List Nat) (g : SG), INV W g → (∀ s ∈ L, s < 2 ^ W) → INV W (nts N g L) := by
  intro L
  induction L with
  | nil => intro g h _; exact h
  | cons s L ih => intro g h hL; rw [nts_cons]; exact ih _ (nt_inv hN h (hL s List.mem_cons_self)) (fun x hx => hL x (List.mem_cons_of_mem _ hx))
theorem nts_val {N : Nat} (hN : N ≠ 0) : ∀ (L : List Nat) (g : SG) (s : Nat), g.2.1 s = 0 → (s ∈ L → (nts N g L).2.1 s = N) ∧ (s ∉ L → (nts N g L).2.1 s = 0) := by
  intro L
  induction L with
  | nil => intro g s h; exact ⟨fun q => absurd q List.not_mem_nil, fun _ => h⟩
  | cons x L ih =>
    intro g s h
    rw [nts_cons]
    by_cases hx : s = x
    · subst hx
      have e : (nt N g s).2.1 s = N := by rw [nt, if_pos h]; exact un_s _ _ _
      refine ⟨fun _ => ?_, fun q => absurd List.mem_cons_self q⟩
      rw [(nts_ext N L (nt N g s)).2.2 s (by rw [e]; exact hN), e]
    · have e : (nt N g x).2.1 s = 0 := by
        rw [nt]
        split
        · show un g.2.1 x N s = 0
          rw [un_n _ _ hx]; exact h
        · exact h
      obtain ⟨i1, i2⟩ := ih (nt N g x) s e
      exact ⟨fun q => i1 ((List.mem_cons.mp q).resolve_left hx), fun q => i2 (fun z => q (List.mem_cons_of_mem _ z))⟩
/-- what is new stands behind, and is of this length -/
theorem nts_new {N : Nat} (hN : N ≠ 0) : ∀ (L : List Nat) (g : SG) (j : Nat), g.1 ≤ j → j < (nts N g L).1 → (nts N g L).2.1 ((nts N g L).2.2 j) = N := by
  intro L
  induction L with
  | nil => intro g j h1 h2; exact absurd h2 (Nat.not_lt.mpr h1)
  | cons x L ih =>
    intro g j h1 h2
    rw [nts_cons] at h2 ⊢
    have he := nts_ext N L (nt N g x)
    by_cases h0 : g.2.1 x = 0
    · have e : nt N g x = (g.1 + 1, un g.2.1 x N, un g.2.2 g.1 x) := by rw [nt, if_pos h0]
      by_cases hj : j = g.1
      · subst hj
        rw [he.2.1 g.1 (by rw [e]; exact Nat.lt_succ_self _)]
        have e2 : (nt N g x).2.2 g.1 = x := by rw [e]; exact un_s _ _ _
        have e3 : (nt N g x).2.1 x = N := by rw [e]; exact un_s _ _ _
        rw [e2, he.2.2 x (by rw [e3]; exact hN), e3]
      · exact ih (nt N g x) j (by rw [e]; show g.1 + 1 ≤ j; omega) h2
    · have e : nt N g x = g := by rw [nt, if_neg h0]
      rw [e] at h2 ⊢
      exact ih g j h1 h2
