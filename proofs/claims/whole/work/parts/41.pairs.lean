/-! made: the first pair -/
def opb (b : Bool) (x y : Nat) : Nat := if b then x &&& y else x ||| y
def pcb (t : Nat → Nat) (b : Bool) (s x y : Nat) : Bool := decide (t x ≠ 0) && (decide (t y ≠ 0) && (decide (t x + t y = t s) && (opb b x y == s)))
theorem pcb_iff {t : Nat → Nat} {b : Bool} {s x y : Nat} : pcb t b s x y = true ↔ t x ≠ 0 ∧ t y ≠ 0 ∧ t x + t y = t s ∧ opb b x y = s := by
  simp [pcb]
def fpy (t : Nat → Nat) (b : Bool) (s W x : Nat) : Option Nat := fnd (pcb t b s x) (2 ^ W) 0
def fpr (t : Nat → Nat) (b : Bool) (s W : Nat) : Nat → Nat → Option (Nat × Nat)
  | 0, _ => none
  | m + 1, x => match fpy t b s W x with
    | some y => some (x, y)
    | none => fpr t b s W m (x + 1)
theorem opb_lt {W x y : Nat} (b : Bool) (hx : x < 2 ^ W) (hy : y < 2 ^ W) : opb b x y < 2 ^ W := by
  rw [opb]
  split
  · exact Nat.lt_of_le_of_lt Nat.and_le_left hx
  · exact Nat.or_lt_two_pow hx hy
theorem opb_I (b : Bool) (x y : Nat) : (if bI b = 0 then nI x ||| nI y else nI x &&& nI y) = nI (opb b x y) := by
  cases b with
  | true => rw [if_neg (show ¬ bI true = 0 by decide), nx_and]; rfl
  | false => rw [if_pos (show bI false = 0 from rfl), nx_or]; rfl
theorem fnd_congr {p q : Nat → Bool} : ∀ (m i : Nat), (∀ u, i ≤ u → u < i + m → p u = q u) → fnd p m i = fnd q m i := by
  intro m
  induction m with
  | zero => intro i _; rfl
  | succ m ih =>
    intro i h
    rw [fnd, fnd, h i (Nat.le_refl _) (by omega), ih (i + 1) (fun u h1 h2 => h u (by omega) (by omega))]
theorem fp_partner {W s x r : Nat} {b : Bool} {fl : Nat → Int32} {t : Nat → Nat} (h9 : W ≤ 9) (h : LT W fl t) (hs : s < 2 ^ W) (hx : x < 2 ^ W) (hr0 : 1 ≤ r) (hr : r ≤ 27) : ∀ (m i n : Nat), i + m = 2 ^ W → m < n → P_X1_firstPartner_15 (nI x) (nI r) (nI s) (bI b) fl (nI (2 ^ W - 1)) n (nI i) = some (t9 (fnd (fun y => (opb b x y == s) && (t y == r)) m i)) := by
  have ⟨p1, p2⟩ := p9 h9
  intro m
  induction m with
  | zero =>
    intro i n hi hn
    obtain ⟨n, rfl⟩ : ∃ q, n = q + 1 := ⟨n - 1, by omega⟩
    rw [P_X1_firstPartner_15, if_pos (nI_lt (by omega) (by omega))]
    rfl
  | succ m ih =>
    intro i n hi hn
    obtain ⟨n, rfl⟩ : ∃ q, n = q + 1 := ⟨n - 1, by omega⟩
    have hi2 : i < 2 ^ W := by omega
    have ho := opb_lt b hx hi2
    have ht := (h i hi2).2
    have nx := ih (i + 1) n (by omega) (by omega)
    rw [P_X1_firstPartner_15, if_neg (nI_nlt (by omega) (by omega)), fnd]
    have main : ∀ z, z = nI (opb b x i) → jn (fun (_ : Unit) => P_X1_firstPartner_15 (nI x) (nI r) (nI s) (bI b) fl (nI (2 ^ W - 1)) n (nI i + 1)) (fun j55 => if z = nI s then (P_X1_of (nI i) fl).bind fun z_45 => if z_45 = nI r then some (nI i) else j55 () else j55 ()) = some (t9 (if ((opb b x i == s) && (t i == r)) = true then some i else fnd (fun y => (opb b x y == s) && (t y == r)) m (i + 1))) := by
      intro z hz
      rw [jn, hz, nI_1]
      by_cases e : opb b x i = s
      · rw [if_pos (by rw [e]), of_eq h9 h hi2, Option.bind_some, lnI]
        by_cases h0 : t i = 0
        · rw [if_pos h0, if_neg (fun q => n9_ne (show r < 2 ^ 31 by omega) q.symm), if_neg (by simp; omega)]
          exact nx
        · rw [if_neg h0]
          by_cases q : t i = r
          · rw [if_pos (by rw [q]), if_pos (by simp [e, q])]; rfl
          · rw [if_neg (fun z => q ((nI_eq (by omega) (by omega)).mp z)), if_neg (by simp [q])]
            exact nx
      · rw [if_neg (fun z => e ((nI_eq (by omega) (by omega)).mp z)), if_neg (by simp [e])]
        exact nx
    rw [jn]
    cases hb : b with
    | true => rw [if_neg (show ¬ bI true = 0 by decide)]; rw [hb] at main; exact main _ (nx_and _ _)
    | false => rw [if_pos (show bI false = 0 from rfl)]; rw [hb] at main; exact main _ (nx_or _ _)
theorem canStep_eq {W s x : Nat} {b : Bool} {fl : Nat → Int32} {t : Nat → Nat} (h9 : W ≤ 9) (h : LT W fl t) (hs : s < 2 ^ W) (hx : x < 2 ^ W) : P_X1_canStep (nI x) (nI s) (bI b) fl = some (bI ((opb b x s == s) && decide (t x ≠ 0))) := by
  have ⟨p1, p2⟩ := p9 h9
  have ho := opb_lt b hx hs
  have ht := (h x hx).2
  unfold P_X1_canStep
  have main : ∀ z, z = nI (opb b x s) → (if z = nI s then (P_X1_of (nI x) fl).bind fun z_19 => if z_19 = -9 then some 0 else some 1 else some 0) = some (bI ((opb b x s == s) && decide (t x ≠ 0))) := by
    intro z hz
    rw [hz]
    by_cases e : opb b x s = s
    · rw [if_pos (by rw [e]), of_eq h9 h hx, Option.bind_some, e]
      by_cases h0 : t x = 0
      · rw [if_pos ((lnI_9 ht).mpr h0)]; simp [h0, bI]
      · rw [if_neg (fun q => h0 ((lnI_9 ht).mp q))]; simp [h0, bI]
    · rw [if_neg (fun z => e ((nI_eq (by omega) (by omega)).mp z)), beq_eq_false_iff_ne.mpr e]; rfl
  rw [jn]
  cases hb : b with
  | true => rw [if_neg (show ¬ bI true = 0 by decide)]; rw [hb] at main; exact main _ (nx_and _ _)
  | false => rw [if_pos (show bI false = 0 from rfl)]; rw [hb] at main; exact main _ (nx_or _ _)
theorem sub_le0 {a b : Nat} (ha : a < 2 ^ 30) (hb : b < 2 ^ 30) (h : a ≤ b) : nI a - nI b ≤ 0 := by
  rw [Int32.le_iff_toInt_le, pk_sub_toInt ha hb]
  have : (0 : Int32).toInt = 0 := by decide
  omega
theorem m9_le0 : ∀ b, b < 28 → (-9 : Int32) - nI b ≤ 0 := by decide +kernel
theorem opb_step {b : Bool} {x y s : Nat} (h : opb b x y = s) : opb b x s = s := by
  subst h
  cases b with
  | true =>
    show x &&& (x &&& y) = x &&& y
    rw [← Nat.and_assoc, Nat.and_self]
  | false =>
    show x ||| (x ||| y) = x ||| y
    rw [← Nat.or_assoc, Nat.or_self]
def prI (o : Option (Nat × Nat)) : Int32 := match o with
  | some p => nI (p.1 * 512 + p.2)
  | none => -9
theorem fp_loop {W s : Nat} {b : Bool} {fl : Nat → Int32} {t : Nat → Nat} (h9 : W ≤ 9) (h : LT W fl t) (hs : s < 2 ^ W) : ∀ (m x n : Nat), x + m = 2 ^ W → m < n → P_X1_firstPair_21 (nI s) (bI b) (nI W) fl (lnI t s) (nI (2 ^ W - 1)) (fun a c => some ((a * 512) + c)) n (nI x) = some (prI (fpr t b s W m x)) := by
  have ⟨p1, p2⟩ := p9 h9
  have hts := (h s hs).2
  intro m
  induction m with
  | zero =>
    intro x n hi hn
    obtain ⟨n, rfl⟩ : ∃ q, n = q + 1 := ⟨n - 1, by omega⟩
    rw [P_X1_firstPair_21, if_pos (nI_lt (by omega) (by omega))]
    rfl
  | succ m ih =>
    intro x n hi hn
    obtain ⟨n, rfl⟩ : ∃ q, n = q + 1 := ⟨n - 1, by omega⟩
    have hx : x < 2 ^ W := by omega
    have htx := (h x hx).2
    have nx := ih (x + 1) n (by omega) (by omega)
    rw [P_X1_firstPair_21, if_neg (nI_nlt (by omega) (by omega)), canStep_eq h9 h hs hx, Option.bind_some, fpr]
    rw [jn]
    have nothing : (∀ y, pcb t b s x y = false) → fpy t b s W x = none := by
      intro hy
      cases hf : fpy t b s W x with
      | none => rfl
      | some y => have := (fnd_some _ _ _ hf).2.2.1; rw [hy y] at this; cases this
    by_cases hc : (opb b x s == s) && decide (t x ≠ 0)
    · rw [if_neg (by rw [bI_0, hc]; decide), of_eq h9 h hx, Option.bind_some]
      simp only [Bool.and_eq_true, beq_iff_eq, decide_eq_true_eq] at hc
      obtain ⟨hc1, hc2⟩ := hc
      show jn _ _ = _
      rw [jn, lnI, lnI, if_neg hc2]
      by_cases hlt : t x < t s
      · rw [if_neg (show ¬ t s = 0 by omega), pk_sub (by omega), if_neg (nI_nle (by omega) (by omega))]
        unfold P_X1_firstPartner
        rw [all_eq h9, Option.bind_some]
        have a1 := fp_partner (b := b) (r := t s - t x) h9 h hs hx (by omega) (by omega) (2 ^ W) 0 QF (by omega) (by unfold QF; omega)
        have a1' : P_X1_firstPartner_15 (nI x) (nI (t s - t x)) (nI s) (bI b) fl (nI (2 ^ W - 1)) QF (0 : Int32) = _ := a1
        rw [a1', Option.bind_some]
        have e : fnd (fun y => (opb b x y == s) && (t y == t s - t x)) (2 ^ W) 0 = fpy t b s W x := by
          rw [fpy]
          refine fnd_congr _ _ (fun u _ _ => ?_)
          rw [Bool.eq_iff_iff, pcb_iff]
          simp only [Bool.and_eq_true, beq_iff_eq]
          exact ⟨fun ⟨z1, z2⟩ => ⟨hc2, by omega, by omega, z1⟩, fun ⟨_, _, z1, z2⟩ => ⟨z2, by omega⟩⟩
        rw [e]
        cases hf : fpy t b s W x with
        | some y =>
          obtain ⟨-, hy2, -, -⟩ := fnd_some _ _ _ hf
          rw [if_neg (show ¬ t9 (some y) = -9 from n9_ne (by omega))]
          show some (nI x * 512 + nI y) = some (nI (x * 512 + y))
          rw [e512, pk_mul, nI_add]
        | none =>
          rw [if_pos (show t9 none = -9 from rfl), nI_1]
          rw [lnI, if_neg (show ¬ t s = 0 by omega)] at nx
          exact nx
      · have hle : (if t s = 0 then -9 else nI (t s)) - nI (t x) ≤ 0 := by
          by_cases h0 : t s = 0
          · rw [if_pos h0]; exact m9_le0 _ (by omega)
          · rw [if_neg h0]; exact sub_le0 (by omega) (by omega) (by omega)
        rw [if_pos hle, nI_1, nothing (fun y => by
          cases hp : pcb t b s x y with
          | false => rfl
          | true => have := pcb_iff.mp hp; omega)]
        exact nx
    · rw [if_pos (by rw [bI_0]; simpa using hc)]
      show jn _ _ = _
      rw [jn, if_pos (show (0 : Int32) ≤ 0 by decide), nI_1, nothing (fun y => by
          cases hp : pcb t b s x y with
          | false => rfl
          | true =>
            obtain ⟨q1, q2, q3, q4⟩ := pcb_iff.mp hp
            exact absurd (by simp only [Bool.and_eq_true, beq_iff_eq, decide_eq_true_eq]; exact ⟨opb_step q4, q1⟩) hc)]
      exact nx
theorem firstPair_eq {W s : Nat} {b : Bool} {fl : Nat → Int32} {t : Nat → Nat} (h9 : W ≤ 9) (h : LT W fl t) (hs : s < 2 ^ W) : P_X1_firstPair (nI s) (bI b) (nI W) fl = some (prI (fpr t b s W (2 ^ W) 0)) := by
  have ⟨p1, p2⟩ := p9 h9
  unfold P_X1_firstPair
  rw [of_eq h9 h hs, Option.bind_some, all_eq h9, Option.bind_some, jn]
  exact fp_loop h9 h hs (2 ^ W) 0 QF (by omega) (by unfold QF; omega)
theorem fpr_lt {W s : Nat} {b : Bool} {t : Nat → Nat} {p : Nat × Nat} : ∀ (m x : Nat), fpr t b s W m x = some p → p.1 < x + m ∧ p.2 < 2 ^ W := by
  intro m
  induction m with
  | zero => intro x h; cases h
  | succ m ih =>
    intro x h
    rw [fpr] at h
    cases hf : fpy t b s W x with
    | some y =>
      rw [hf] at h
      cases h
      obtain ⟨-, h2, -, -⟩ := fnd_some _ _ _ hf
      exact ⟨by show x < x + (m + 1); omega, by show y < 2 ^ W; omega⟩
    | none =>
      rw [hf] at h
      have := ih (x + 1) h
      exact ⟨by omega, this.2⟩
/-! the model's loops -/
theorem mb_loop {W s x : Nat} {b : Bool} {t : Nat → Nat} {z : Int32 × (Nat → Int32) × (Nat → Int32)} {K : Int32 → Int32 → Int32 → Option (Int32 × Int32 × (Nat → Int32) × (Nat → Int32))} {K2 : Unit → Option (Int32 × Int32 × (Nat → Int32) × (Nat → Int32))} {hw : Int32} (hhw : hw = 1 ↔ b = true) (h9 : W ≤ 9) (h : LT W z.2.1 t) (hs : s < 2 ^ W) (hx : x < 2 ^ W) : ∀ (m y n : Nat), y + m = 2 ^ W → m < n → P_X11_made_83 (nI s) (nI W) z K hw (nI x) K2 n (nI y) = match fnd (pcb t b s x) m y with
    | some y => K hw (nI x) (nI y)
    | none => K2 () := by
  have ⟨p1, p2⟩ := p9 h9
  have hts := (h s hs).2
  have htx := (h x hx).2
  intro m
  induction m with
  | zero =>
    intro y n hi hn
    obtain ⟨n, rfl⟩ : ∃ q, n = q + 1 := ⟨n - 1, by omega⟩
    rw [P_X11_made_83, allSets_eq h9, Option.bind_some, if_pos (nI_lt (by omega) (by omega))]
    rfl
  | succ m ih =>
    intro y n hi hn
    obtain ⟨n, rfl⟩ : ∃ q, n = q + 1 := ⟨n - 1, by omega⟩
    have hy : y < 2 ^ W := by omega
    have hty := (h y hy).2
    have nx := ih (y + 1) n (by omega) (by omega)
    have ho := opb_lt b hx hy
    rw [P_X11_made_83, allSets_eq h9, Option.bind_some, if_neg (nI_nlt (by omega) (by omega)), ck_in _ (show x < 512 by omega) (by decide), nI_clamp (show x < 2 ^ 31 by omega), nI_clamp (show y < 2 ^ 31 by omega), nI_clamp (show s < 2 ^ 31 by omega), (h x hx).1, (h y hy).1, (h s hs).1]
    by_cases h0 : t x = 0
    · rw [if_pos (by rw [h0]; decide)]
      have : fnd (pcb t b s x) (m + 1) y = none := by
        cases hf : fnd (pcb t b s x) (m + 1) y with
        | none => rfl
        | some u => have := (fnd_some _ _ _ hf).2.2.1; rw [pcb_iff] at this; omega
      rw [this]
    · rw [if_neg (nI_nle (by omega) (by omega)), ck_in _ (show y < 512 by omega) (by decide), jn, jn, if_pos rfl, fnd]
      have skip : pcb t b s x y = false → P_X11_made_83 (nI s) (nI W) z K hw (nI x) K2 n (nI y + 1) = match (if pcb t b s x y = true then some y else fnd (pcb t b s x) m (y + 1)) with
          | some y => K hw (nI x) (nI y)
          | none => K2 () := by
        intro hp
        rw [hp, if_neg (by decide), nI_1]
        exact nx
      by_cases hy0 : t y = 0
      · rw [if_pos (by rw [hy0]; decide)]
        exact skip (by cases hp : pcb t b s x y with
          | false => rfl
          | true => have := pcb_iff.mp hp; omega)
      · rw [if_neg (nI_nle (by omega) (by omega)), ck_in _ (show x < 512 by omega) (by decide), ck_in _ (show y < 512 by omega) (by decide), ck_in _ (show s < 512 by omega) (by decide), nI_add]
        by_cases hsum : t x + t y = t s
        · rw [if_pos (by rw [hsum]), jn]
          have main : ∀ q, q = nI (opb b x y) → (if q = nI s then (if (1 : Int32) = 0 then P_X11_made_83 (nI s) (nI W) z K hw (nI x) K2 n (nI y + 1) else K hw (nI x) (nI y)) else P_X11_made_83 (nI s) (nI W) z K hw (nI x) K2 n (nI y + 1)) = match (if pcb t b s x y = true then some y else fnd (pcb t b s x) m (y + 1)) with
              | some y => K hw (nI x) (nI y)
              | none => K2 () := by
            intro q hq
            rw [hq]
            by_cases e : opb b x y = s
            · rw [if_pos (by rw [e]), if_neg one_ne, if_pos (pcb_iff.mpr ⟨h0, hy0, hsum, e⟩)]
            · rw [if_neg (fun z => e ((nI_eq (by omega) (by omega)).mp z))]
              exact skip (by cases hp : pcb t b s x y with
                | false => rfl
                | true => exact absurd (pcb_iff.mp hp).2.2.2 e)
          by_cases hb : hw = 1
          · rw [if_pos hb]
            exact main _ (by rw [nx_and, opb, if_pos (hhw.mp hb)])
          · rw [if_neg hb]
            exact main _ (by rw [nx_or, opb, if_neg (fun z => hb (hhw.mpr z))])
        · rw [if_neg (fun z => hsum ((nI_eq (by omega) (by omega)).mp z))]
          exact skip (by cases hp : pcb t b s x y with
            | false => rfl
            | true => exact absurd (pcb_iff.mp hp).2.2.1 hsum)
theorem ma_loop {W s : Nat} {b : Bool} {t : Nat → Nat} {z : Int32 × (Nat → Int32) × (Nat → Int32)} {K : Int32 → Int32 → Int32 → Option (Int32 × Int32 × (Nat → Int32) × (Nat → Int32))} {K2 : Unit → Option (Int32 × Int32 × (Nat → Int32) × (Nat → Int32))} {hw : Int32} (hhw : hw = 1 ↔ b = true) (h9 : W ≤ 9) (h : LT W z.2.1 t) (hs : s < 2 ^ W) : ∀ (m x n : Nat), x + m = 2 ^ W → m < n → P_X11_made_71 (nI s) (nI W) z K hw K2 n (nI x) = match fpr t b s W m x with
    | some p => K hw (nI p.1) (nI p.2)
    | none => K2 () := by
  have ⟨p1, p2⟩ := p9 h9
  intro m
  induction m with
  | zero =>
    intro x n hi hn
    obtain ⟨n, rfl⟩ : ∃ q, n = q + 1 := ⟨n - 1, by omega⟩
    rw [P_X11_made_71, allSets_eq h9, Option.bind_some, if_pos (nI_lt (by omega) (by omega))]
    rfl
  | succ m ih =>
    intro x n hi hn
    obtain ⟨n, rfl⟩ : ∃ q, n = q + 1 := ⟨n - 1, by omega⟩
    have nx := ih (x + 1) n (by omega) (by omega)
    rw [P_X11_made_71, allSets_eq h9, Option.bind_some, if_neg (nI_nlt (by omega) (by omega)), jn]
    have a1 := mb_loop (K := K) (K2 := fun _ => P_X11_made_71 (nI s) (nI W) z K hw K2 n (nI x + 1)) hhw h9 h hs (show x < 2 ^ W by omega) (2 ^ W) 0 QF (by omega) (by unfold QF; omega)
    have a1' : P_X11_made_83 (nI s) (nI W) z K hw (nI x) _ QF (0 : Int32) = _ := a1
    rw [a1', fpr]
    show (match fpy t b s W x with
      | some y => K hw (nI x) (nI y)
      | none => P_X11_made_71 (nI s) (nI W) z K hw K2 n (nI x + 1)) = _
    cases hf : fpy t b s W x with
    | some y => rfl
    | none =>
      show P_X11_made_71 (nI s) (nI W) z K hw K2 n (nI x + 1) = _
      rw [nI_1]
      exact nx
theorem mh_eq {W s : Nat} {t : Nat → Nat} {z : Int32 × (Nat → Int32) × (Nat → Int32)} {K : Int32 → Int32 → Int32 → Option (Int32 × Int32 × (Nat → Int32) × (Nat → Int32))} (h9 : W ≤ 9) (h : LT W z.2.1 t) (hs : s < 2 ^ W) : P_X11_made_63 (nI s) (nI W) z K QF 1 = match fpr t true s W (2 ^ W) 0 with
    | some p => K 1 (nI p.1) (nI p.2)
    | none => match fpr t false s W (2 ^ W) 0 with
      | some p => K 2 (nI p.1) (nI p.2)
      | none => some ((-9), z.1, z.2.1, z.2.2) := by
  have ⟨p1, p2⟩ := p9 h9
  obtain ⟨q, hq⟩ : ∃ q, QF = q + 3 := ⟨999997, rfl⟩
  have hz : (2 : Nat) ^ W < QF := by unfold QF; omega
  rw [hq, P_X11_made_63, if_neg (show ¬ (2 : Int32) < 1 by decide), jn]
  have a1 := ma_loop (b := true) (hw := 1) (K := K) (K2 := fun _ => P_X11_made_63 (nI s) (nI W) z K (q + 2) (1 + 1)) (by decide) h9 h hs (2 ^ W) 0 QF (by omega) hz
  have a1' : P_X11_made_71 (nI s) (nI W) z K 1 _ QF (0 : Int32) = _ := a1
  rw [a1']
  cases hf : fpr t true s W (2 ^ W) 0 with
  | some p => rfl
  | none =>
    show P_X11_made_63 (nI s) (nI W) z K (q + 2) (1 + 1) = _
    rw [P_X11_made_63, if_neg (show ¬ (2 : Int32) < 1 + 1 by decide), jn]
    have a2 := ma_loop (b := false) (hw := 1 + 1) (K := K) (K2 := fun _ => P_X11_made_63 (nI s) (nI W) z K (q + 1) (1 + 1 + 1)) (by decide) h9 h hs (2 ^ W) 0 QF (by omega) hz
    have a2' : P_X11_made_71 (nI s) (nI W) z K (1 + 1) _ QF (0 : Int32) = _ := a2
    rw [a2']
    cases hg : fpr t false s W (2 ^ W) 0 with
    | some p => rfl
    | none =>
      show P_X11_made_63 (nI s) (nI W) z K (q + 1) (1 + 1 + 1) = _
      rw [P_X11_made_63, if_pos (show (2 : Int32) < 1 + 1 + 1 by decide)]
