/-! ===== expressions as trees over NAME tokens, and their words =====
   var i: NAME token i; num, natCast, intCast: NOTHING; neg: OPTION; add: CHOICE; mul: SEQ; sub: BOTH;
   pow x k: k < 16 TIMES with this value; 16 STAR; 17 PLUS -/
abbrev ex_T : Type := Lean.Grind.CommRing.Expr
def ex_lo (k : Nat) : Nat := if k < 16 then k / 4 else k - 16
def ex_hi (k j : Nat) : Prop := k < 16 → j ≤ k % 4
def ex_pw (L : List Nat → Prop) : Nat → List Nat → Prop
  | 0 => fun u => u = []
  | j + 1 => fun u => ∃ a b, u = a ++ b ∧ L a ∧ ex_pw L j b
def ex_cat (A B : List Nat → Prop) (u : List Nat) : Prop := ∃ a b, u = a ++ b ∧ A a ∧ B b
def ex_L (f : Nat → Nat) : ex_T → List Nat → Prop
  | .var i => fun u => u = [f i]
  | .num _ => fun u => u = []
  | .natCast _ => fun u => u = []
  | .intCast _ => fun u => u = []
  | .neg a => fun u => u = [] ∨ ex_L f a u
  | .add a b => fun u => ex_L f a u ∨ ex_L f b u
  | .mul a b => ex_cat (ex_L f a) (ex_L f b)
  | .sub a b => fun u => ex_cat (ex_L f a) (ex_L f b) u ∨ ex_cat (ex_L f b) (ex_L f a) u
  | .pow a k => fun u => ∃ j, ex_lo k ≤ j ∧ ex_hi k j ∧ ex_pw (ex_L f a) j u
/-- well made: TIMES as the document says -/
def ex_W : ex_T → Prop
  | .var _ => True
  | .num _ => True
  | .natCast _ => True
  | .intCast _ => True
  | .neg a => ex_W a
  | .add a b => ex_W a ∧ ex_W b
  | .mul a b => ex_W a ∧ ex_W b
  | .sub a b => ex_W a ∧ ex_W b
  | .pow a k => ex_W a ∧ k < 18 ∧ (k < 16 → k / 4 ≤ k % 4 ∧ 1 ≤ k % 4)
def ex_m (k : Nat) : Nat := if k < 16 then k % 4 else 1
def ex_w : ex_T → Nat
  | .var _ => 1
  | .num _ => 0
  | .natCast _ => 0
  | .intCast _ => 0
  | .neg a => ex_w a
  | .add a b => ex_w a + ex_w b
  | .mul a b => ex_w a + ex_w b
  | .sub a b => 2 * (ex_w a + ex_w b)
  | .pow a k => ex_m k * ex_w a
theorem ex_pw_mono {A B : List Nat → Prop} (h : ∀ u, A u → B u) : ∀ j u, ex_pw A j u → ex_pw B j u := by
  intro j
  induction j with
  | zero => intro u hu; exact hu
  | succ j ih =>
    rintro u ⟨a, b, e, ha, hb⟩
    exact ⟨a, b, e, h a ha, ih b hb⟩
theorem ex_pw_congr {A B : List Nat → Prop} (h : ∀ u, A u ↔ B u) (j : Nat) (u : List Nat) : ex_pw A j u ↔ ex_pw B j u :=
  ⟨ex_pw_mono (fun u => (h u).mp) j u, ex_pw_mono (fun u => (h u).mpr) j u⟩
theorem ex_pw_eps {L : List Nat → Prop} (h : L []) : ∀ j, ex_pw L j [] := by
  intro j
  induction j with
  | zero => exact rfl
  | succ j ih => exact ⟨[], [], rfl, h, ih⟩
theorem ex_pw_one {L : List Nat → Prop} {u : List Nat} : ex_pw L 1 u ↔ L u := by
  constructor
  · rintro ⟨a, b, e, ha, hb⟩
    have hb' : b = [] := hb
    rw [hb', List.append_nil] at e
    rw [e]; exact ha
  · intro h
    exact ⟨u, [], (List.append_nil u).symm, h, rfl⟩
/-- a nonempty word of a power begins with a nonempty word of the part -/
theorem ex_pw_cons {L : List Nat → Prop} : ∀ (j : Nat) (a : Nat) (u : List Nat), ex_pw L j (a :: u) → ∃ x y, u = x ++ y ∧ L (a :: x) ∧ ∃ j', j = j' + 1 ∧ (ex_pw L j' y ∨ (L [] ∧ ∃ i, i ≤ j' ∧ ex_pw L i y)) := by
  intro j
  induction j with
  | zero => intro a u h; cases h
  | succ j ih =>
    rintro a u ⟨x, y, e, hx, hy⟩
    cases x with
    | nil =>
      have e' : y = a :: u := e.symm
      rw [e'] at hy
      obtain ⟨x', y', e1, h1, j', ej, h2⟩ := ih a u hy
      refine ⟨x', y', e1, h1, j, rfl, Or.inr ⟨hx, ?_⟩⟩
      rcases h2 with h2 | ⟨_, i, hi, h2⟩
      · exact ⟨j', by omega, h2⟩
      · exact ⟨i, by omega, h2⟩
    | cons b x =>
      have e1 : a = b ∧ u = x ++ y := by
        rw [List.cons_append] at e
        exact ⟨(List.cons.inj e).1, (List.cons.inj e).2⟩
      rw [← e1.1] at hx
      exact ⟨x, y, e1.2, hx, j, rfl, Or.inl hy⟩
theorem ex_cat_congr {A B C D : List Nat → Prop} (h : ∀ u, A u ↔ C u) (h' : ∀ u, B u ↔ D u) (u : List Nat) : ex_cat A B u ↔ ex_cat C D u := by
  constructor
  · rintro ⟨a, b, e, ha, hb⟩; exact ⟨a, b, e, (h a).mp ha, (h' b).mp hb⟩
  · rintro ⟨a, b, e, ha, hb⟩; exact ⟨a, b, e, (h a).mpr ha, (h' b).mpr hb⟩
theorem ex_cat_map {A B : List Nat → Prop} {A' B' : List Nat → Prop} {f : Nat → Nat} (hA : ∀ w, A' w ↔ ∃ u, A u ∧ u.map f = w) (hB : ∀ w, B' w ↔ ∃ u, B u ∧ u.map f = w) (w : List Nat) : ex_cat A' B' w ↔ ∃ u, ex_cat A B u ∧ u.map f = w := by
  constructor
  · rintro ⟨a, b, e, ha, hb⟩
    obtain ⟨a', ha', ea⟩ := (hA a).mp ha
    obtain ⟨b', hb', eb⟩ := (hB b).mp hb
    exact ⟨a' ++ b', ⟨a', b', rfl, ha', hb'⟩, by rw [List.map_append, ea, eb, e]⟩
  · rintro ⟨u, ⟨a, b, e, ha, hb⟩, ew⟩
    refine ⟨a.map f, b.map f, ?_, (hA _).mpr ⟨a, ha, rfl⟩, (hB _).mpr ⟨b, hb, rfl⟩⟩
    rw [← ew, e, List.map_append]
theorem ex_pw_map {A A' : List Nat → Prop} {f : Nat → Nat} (hA : ∀ w, A' w ↔ ∃ u, A u ∧ u.map f = w) : ∀ (j : Nat) (w : List Nat), ex_pw A' j w ↔ ∃ u, ex_pw A j u ∧ u.map f = w := by
  intro j
  induction j with
  | zero =>
    intro w
    constructor
    · intro h
      have h' : w = [] := h
      exact ⟨[], rfl, by rw [h']; rfl⟩
    · rintro ⟨u, hu, e⟩
      have hu' : u = [] := hu
      rw [hu'] at e
      exact e.symm
  | succ j ih =>
    intro w
    exact ex_cat_map hA ih w
/-- the words by f are the images of the words by id -/
theorem ex_L_map (f : Nat → Nat) : ∀ (R : ex_T) (w : List Nat), ex_L f R w ↔ ∃ u, ex_L id R u ∧ u.map f = w := by
  intro R
  induction R with
  | num k => intro w; exact ⟨fun h => ⟨[], rfl, h.symm⟩, fun ⟨u, hu, e⟩ => by rw [show u = [] from hu] at e; exact e.symm⟩
  | natCast k => intro w; exact ⟨fun h => ⟨[], rfl, h.symm⟩, fun ⟨u, hu, e⟩ => by rw [show u = [] from hu] at e; exact e.symm⟩
  | intCast k => intro w; exact ⟨fun h => ⟨[], rfl, h.symm⟩, fun ⟨u, hu, e⟩ => by rw [show u = [] from hu] at e; exact e.symm⟩
  | var i => intro w; exact ⟨fun h => ⟨[i], rfl, h.symm⟩, fun ⟨u, hu, e⟩ => by rw [show u = [i] from hu] at e; exact e.symm⟩
  | neg a ih =>
    intro w
    constructor
    · rintro (h | h)
      · exact ⟨[], Or.inl rfl, h.symm⟩
      · obtain ⟨u, hu, e⟩ := (ih w).mp h
        exact ⟨u, Or.inr hu, e⟩
    · rintro ⟨u, hu | hu, e⟩
      · rw [hu] at e; exact Or.inl e.symm
      · exact Or.inr ((ih w).mpr ⟨u, hu, e⟩)
  | add a b iha ihb =>
    intro w
    constructor
    · rintro (h | h)
      · obtain ⟨u, hu, e⟩ := (iha w).mp h
        exact ⟨u, Or.inl hu, e⟩
      · obtain ⟨u, hu, e⟩ := (ihb w).mp h
        exact ⟨u, Or.inr hu, e⟩
    · rintro ⟨u, hu | hu, e⟩
      · exact Or.inl ((iha w).mpr ⟨u, hu, e⟩)
      · exact Or.inr ((ihb w).mpr ⟨u, hu, e⟩)
  | mul a b iha ihb => intro w; exact ex_cat_map iha ihb w
  | sub a b iha ihb =>
    intro w
    constructor
    · rintro (h | h)
      · obtain ⟨u, hu, e⟩ := (ex_cat_map iha ihb w).mp h
        exact ⟨u, Or.inl hu, e⟩
      · obtain ⟨u, hu, e⟩ := (ex_cat_map ihb iha w).mp h
        exact ⟨u, Or.inr hu, e⟩
    · rintro ⟨u, hu | hu, e⟩
      · exact Or.inl ((ex_cat_map iha ihb w).mpr ⟨u, hu, e⟩)
      · exact Or.inr ((ex_cat_map ihb iha w).mpr ⟨u, hu, e⟩)
  | pow a k ih =>
    intro w
    constructor
    · rintro ⟨j, h1, h2, h⟩
      obtain ⟨u, hu, e⟩ := (ex_pw_map ih j w).mp h
      exact ⟨u, ⟨j, h1, h2, hu⟩, e⟩
    · rintro ⟨u, ⟨j, h1, h2, hu⟩, e⟩
      exact ⟨j, h1, h2, (ex_pw_map ih j w).mpr ⟨u, hu, e⟩⟩
theorem ex_lohi {k : Nat} (h : k < 16 → k / 4 ≤ k % 4 ∧ 1 ≤ k % 4) : ex_hi k (ex_lo k) := by
  intro hk
  unfold ex_lo
  rw [if_pos hk]
  exact (h hk).1
theorem ex_pw_ne {L : List Nat → Prop} (h : ∃ u, L u) : ∀ j, ∃ u, ex_pw L j u := by
  intro j
  induction j with
  | zero => exact ⟨[], rfl⟩
  | succ j ih =>
    obtain ⟨a, ha⟩ := h
    obtain ⟨b, hb⟩ := ih
    exact ⟨a ++ b, a, b, rfl, ha, hb⟩
/-- every expression has a word -/
theorem ex_ne (f : Nat → Nat) : ∀ (R : ex_T), ex_W R → ∃ u, ex_L f R u := by
  intro R
  induction R with
  | num k => intro _; exact ⟨[], rfl⟩
  | natCast k => intro _; exact ⟨[], rfl⟩
  | intCast k => intro _; exact ⟨[], rfl⟩
  | var i => intro _; exact ⟨[f i], rfl⟩
  | neg a ih => intro _; exact ⟨[], Or.inl rfl⟩
  | add a b iha ihb => intro h; obtain ⟨u, hu⟩ := iha h.1; exact ⟨u, Or.inl hu⟩
  | mul a b iha ihb =>
    intro h
    obtain ⟨u, hu⟩ := iha h.1
    obtain ⟨v, hv⟩ := ihb h.2
    exact ⟨u ++ v, u, v, rfl, hu, hv⟩
  | sub a b iha ihb =>
    intro h
    obtain ⟨u, hu⟩ := iha h.1
    obtain ⟨v, hv⟩ := ihb h.2
    exact ⟨u ++ v, Or.inl ⟨u, v, rfl, hu, hv⟩⟩
  | pow a k ih =>
    intro h
    obtain ⟨u, hu⟩ := ex_pw_ne (ih h.1) (ex_lo k)
    exact ⟨u, ex_lo k, Nat.le_refl _, ex_lohi h.2.2, hu⟩
theorem ex_cat_eps {A B : List Nat → Prop} (hA : ∀ u, A u ↔ u = []) (hB : ∀ u, B u ↔ u = []) (u : List Nat) : ex_cat A B u ↔ u = [] := by
  constructor
  · rintro ⟨a, b, e, ha, hb⟩
    rw [(hA a).mp ha, (hB b).mp hb] at e
    exact e
  · intro h
    exact ⟨[], [], h, (hA _).mpr rfl, (hB _).mpr rfl⟩
theorem ex_pw_epsI {A : List Nat → Prop} (hA : ∀ u, A u ↔ u = []) : ∀ (j : Nat) (u : List Nat), ex_pw A j u ↔ u = [] := by
  intro j
  induction j with
  | zero => intro u; exact Iff.rfl
  | succ j ih => intro u; exact ex_cat_eps hA ih u
/-- an expression of weight 0 has the empty word alone -/
theorem ex_w0 (f : Nat → Nat) : ∀ (R : ex_T), ex_W R → ex_w R = 0 → ∀ u, ex_L f R u ↔ u = [] := by
  intro R
  induction R with
  | num k => intro _ _ u; exact Iff.rfl
  | natCast k => intro _ _ u; exact Iff.rfl
  | intCast k => intro _ _ u; exact Iff.rfl
  | var i => intro _ h; cases h
  | neg a ih =>
    intro h h0 u
    have := ih h h0 u
    constructor
    · rintro (h | h)
      · exact h
      · exact this.mp h
    · intro h; exact Or.inl h
  | add a b iha ihb =>
    intro h h0 u
    have h0' : ex_w a + ex_w b = 0 := h0
    have h1 := iha h.1 (by omega) u
    have h2 := ihb h.2 (by omega) u
    constructor
    · rintro (h | h)
      · exact h1.mp h
      · exact h2.mp h
    · intro h; exact Or.inl (h1.mpr h)
  | mul a b iha ihb =>
    intro h h0 u
    have h0' : ex_w a + ex_w b = 0 := h0
    exact ex_cat_eps (iha h.1 (by omega)) (ihb h.2 (by omega)) u
  | sub a b iha ihb =>
    intro h h0 u
    have h0' : 2 * (ex_w a + ex_w b) = 0 := h0
    have h1 := ex_cat_eps (iha h.1 (by omega)) (ihb h.2 (by omega)) u
    have h2 := ex_cat_eps (ihb h.2 (by omega)) (iha h.1 (by omega)) u
    constructor
    · rintro (h | h)
      · exact h1.mp h
      · exact h2.mp h
    · intro h; exact Or.inl (h1.mpr h)
  | pow a k ih =>
    intro h h0 u
    have h0' : ex_m k * ex_w a = 0 := h0
    have hm : 1 ≤ ex_m k := by
      unfold ex_m
      by_cases hk : k < 16
      · rw [if_pos hk]; exact (h.2.2 hk).2
      · rw [if_neg hk]; exact Nat.le_refl 1
    have ha : ex_w a = 0 := by
      rcases Nat.mul_eq_zero.mp h0' with h | h
      · omega
      · exact h
    have hp := ex_pw_epsI (ih h.1 ha)
    constructor
    · rintro ⟨j, _, _, hj⟩
      exact (hp j u).mp hj
    · intro hu
      exact ⟨ex_lo k, Nat.le_refl _, ex_lohi h.2.2, (hp _ u).mpr hu⟩
