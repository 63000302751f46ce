/-! ===== TIMES flat and nested, the expansion, tokens that spell a tree ===== -/
/-- as the component chains it -/
def ex_tm (L : List Nat → Prop) : Nat → Nat → List Nat → Prop
  | 0, _ => fun u => u = []
  | h + 1, lo => ex_cat (fun u => (lo = 0 ∧ u = []) ∨ L u) (ex_tm L h (lo - 1))
theorem ex_tm_iff {L : List Nat → Prop} : ∀ (hi lo : Nat), lo ≤ hi → ∀ u, (ex_tm L hi lo u ↔ ∃ j, lo ≤ j ∧ j ≤ hi ∧ ex_pw L j u) := by
  intro hi
  induction hi with
  | zero =>
    intro lo hlo u
    constructor
    · intro h; exact ⟨0, by omega, by omega, h⟩
    · rintro ⟨j, _, h2, h⟩
      obtain rfl : j = 0 := by omega
      exact h
  | succ n ih =>
    intro lo hlo u
    have ih' := ih (lo - 1) (by omega)
    constructor
    · rintro ⟨a, b, e, ha, hb⟩
      obtain ⟨j, j1, j2, hj⟩ := (ih' b).mp hb
      rcases ha with ⟨h0, ha⟩ | ha
      · rw [ha] at e
        exact ⟨j, by omega, by omega, by rw [e]; exact hj⟩
      · exact ⟨j + 1, by omega, by omega, a, b, e, ha, hj⟩
    · rintro ⟨j, h1, h2, h⟩
      cases j with
      | zero => exact ⟨[], u, rfl, Or.inl ⟨by omega, rfl⟩, (ih' u).mpr ⟨0, by omega, by omega, h⟩⟩
      | succ i =>
        obtain ⟨a, b, e, ha, hb⟩ := h
        exact ⟨a, b, e, Or.inr ha, (ih' b).mpr ⟨i, by omega, by omega, hb⟩⟩
/-- as the reference nests it -/
def ex_N (a : ex_T) : Nat → Nat → ex_T
  | 0, _ => .num 0
  | 1, lo => if lo = 0 then .neg a else a
  | h + 2, lo => if lo = 0 then .neg (.mul a (ex_N a (h + 1) (lo - 1))) else .mul a (ex_N a (h + 1) (lo - 1))
theorem ex_N_iff (f : Nat → Nat) (a : ex_T) : ∀ (hi lo : Nat), lo ≤ hi + 1 → ∀ u, (ex_L f (ex_N a (hi + 1) lo) u ↔ ∃ j, lo ≤ j ∧ j ≤ hi + 1 ∧ ex_pw (ex_L f a) j u) := by
  intro hi
  induction hi with
  | zero =>
    intro lo hlo u
    unfold ex_N
    by_cases h0 : lo = 0
    · rw [if_pos h0]
      constructor
      · rintro (h | h)
        · exact ⟨0, by omega, by omega, h⟩
        · exact ⟨1, by omega, by omega, ex_pw_one.mpr h⟩
      · rintro ⟨j, h1, h2, h⟩
        have hj : j = 0 ∨ j = 1 := by omega
        rcases hj with rfl | rfl
        · exact Or.inl h
        · exact Or.inr (ex_pw_one.mp h)
    · rw [if_neg h0]
      constructor
      · intro h; exact ⟨1, by omega, by omega, ex_pw_one.mpr h⟩
      · rintro ⟨j, h1, h2, h⟩
        obtain rfl : j = 1 := by omega
        exact ex_pw_one.mp h
  | succ n ih =>
    intro lo hlo u
    have ih' := ih (lo - 1) (by omega)
    unfold ex_N
    by_cases h0 : lo = 0
    · rw [if_pos h0]
      constructor
      · rintro (h | ⟨x, y, e, hx, hy⟩)
        · exact ⟨0, by omega, by omega, h⟩
        · obtain ⟨j, j1, j2, hj⟩ := (ih' y).mp hy
          exact ⟨j + 1, by omega, by omega, x, y, e, hx, hj⟩
      · rintro ⟨j, h1, h2, h⟩
        cases j with
        | zero => exact Or.inl h
        | succ i =>
          obtain ⟨x, y, e, hx, hy⟩ := h
          exact Or.inr ⟨x, y, e, hx, (ih' y).mpr ⟨i, by omega, by omega, hy⟩⟩
    · rw [if_neg h0]
      constructor
      · rintro ⟨x, y, e, hx, hy⟩
        obtain ⟨j, j1, j2, hj⟩ := (ih' y).mp hy
        exact ⟨j + 1, by omega, by omega, x, y, e, hx, hj⟩
      · rintro ⟨j, h1, h2, h⟩
        cases j with
        | zero => omega
        | succ i =>
          obtain ⟨x, y, e, hx, hy⟩ := h
          exact ⟨x, y, e, hx, (ih' y).mpr ⟨i, by omega, by omega, hy⟩⟩
def ex_E : ex_T → ex_T
  | .var i => .var i
  | .num _ => .num 0
  | .natCast _ => .num 0
  | .intCast _ => .num 0
  | .neg a => if ex_w a = 0 then .num 0 else .neg (ex_E a)
  | .add a b => if ex_w a + ex_w b = 0 then .num 0 else .add (ex_E a) (ex_E b)
  | .mul a b => if ex_w a + ex_w b = 0 then .num 0 else .mul (ex_E a) (ex_E b)
  | .sub a b => if 2 * (ex_w a + ex_w b) = 0 then .num 0 else .add (.mul (ex_E a) (ex_E b)) (.mul (ex_E b) (ex_E a))
  | .pow a k => if ex_m k * ex_w a = 0 then .num 0 else if k < 16 then ex_N (ex_E a) (k % 4) (k / 4) else .pow (ex_E a) k
/-- the expansion has the same words -/
theorem ex_E_L (f : Nat → Nat) : ∀ (R : ex_T), ex_W R → ∀ u, (ex_L f (ex_E R) u ↔ ex_L f R u) := by
  intro R
  induction R with
  | num k => intro _ u; exact Iff.rfl
  | natCast k => intro _ u; exact Iff.rfl
  | intCast k => intro _ u; exact Iff.rfl
  | var i => intro _ u; exact Iff.rfl
  | neg a ih =>
    intro h u
    unfold ex_E
    by_cases h0 : ex_w a = 0
    · rw [if_pos h0]
      exact (ex_w0 f (.neg a) h h0 u).symm
    · rw [if_neg h0]
      show (u = [] ∨ _) ↔ (u = [] ∨ _)
      rw [ih h u]
  | add a b iha ihb =>
    intro h u
    unfold ex_E
    by_cases h0 : ex_w a + ex_w b = 0
    · rw [if_pos h0]
      exact (ex_w0 f (.add a b) h h0 u).symm
    · rw [if_neg h0]
      show (_ ∨ _) ↔ (_ ∨ _)
      rw [iha h.1 u, ihb h.2 u]
  | mul a b iha ihb =>
    intro h u
    unfold ex_E
    by_cases h0 : ex_w a + ex_w b = 0
    · rw [if_pos h0]
      exact (ex_w0 f (.mul a b) h h0 u).symm
    · rw [if_neg h0]
      exact ex_cat_congr (iha h.1) (ihb h.2) u
  | sub a b iha ihb =>
    intro h u
    unfold ex_E
    by_cases h0 : 2 * (ex_w a + ex_w b) = 0
    · rw [if_pos h0]
      exact (ex_w0 f (.sub a b) h h0 u).symm
    · rw [if_neg h0]
      have h1 := ex_cat_congr (iha h.1) (ihb h.2) u
      have h2 := ex_cat_congr (ihb h.2) (iha h.1) u
      show (_ ∨ _) ↔ (_ ∨ _)
      exact ⟨fun h => h.elim (fun h => Or.inl (h1.mp h)) (fun h => Or.inr (h2.mp h)), fun h => h.elim (fun h => Or.inl (h1.mpr h)) (fun h => Or.inr (h2.mpr h))⟩
  | pow a k ih =>
    intro h u
    unfold ex_E
    by_cases h0 : ex_m k * ex_w a = 0
    · rw [if_pos h0]
      exact (ex_w0 f (.pow a k) h h0 u).symm
    · rw [if_neg h0]
      by_cases hk : k < 16
      · rw [if_pos hk]
        have hv := h.2.2 hk
        have e : k % 4 = (k % 4 - 1) + 1 := by omega
        have hi := ex_N_iff f (ex_E a) (k % 4 - 1) (k / 4) (by omega) u
        rw [← e] at hi
        rw [hi]
        constructor
        · rintro ⟨j, h1, h2, hj⟩
          exact ⟨j, by unfold ex_lo; rw [if_pos hk]; exact h1, fun _ => h2, (ex_pw_congr (ih h.1) j u).mp hj⟩
        · rintro ⟨j, h1, h2, hj⟩
          unfold ex_lo at h1
          rw [if_pos hk] at h1
          exact ⟨j, h1, h2 hk, (ex_pw_congr (ih h.1) j u).mpr hj⟩
      · rw [if_neg hk]
        constructor
        · rintro ⟨j, h1, h2, hj⟩; exact ⟨j, h1, h2, (ex_pw_congr (ih h.1) j u).mp hj⟩
        · rintro ⟨j, h1, h2, hj⟩; exact ⟨j, h1, h2, (ex_pw_congr (ih h.1) j u).mpr hj⟩
/-- how many tokens, how many leaves -/
def ex_n : ex_T → Nat
  | .var _ => 1
  | .num _ => 1
  | .natCast _ => 1
  | .intCast _ => 1
  | .neg a => 1 + ex_n a
  | .add a b => 1 + ex_n a + ex_n b
  | .mul a b => 1 + ex_n a + ex_n b
  | .sub a b => 1 + ex_n a + ex_n b
  | .pow a _ => 1 + ex_n a
def ex_l : ex_T → Nat
  | .var _ => 1
  | .num _ => 1
  | .natCast _ => 1
  | .intCast _ => 1
  | .neg a => ex_l a
  | .add a b => ex_l a + ex_l b
  | .mul a b => ex_l a + ex_l b
  | .sub a b => ex_l a + ex_l b
  | .pow a _ => ex_l a
theorem ex_n_pos : ∀ (R : ex_T), 1 ≤ ex_n R := by
  intro R
  cases R <;> simp only [ex_n] <;> omega
theorem ex_l_pos : ∀ (R : ex_T), 1 ≤ ex_l R := by
  intro R
  induction R <;> simp only [ex_l] <;> omega
theorem ex_N_n (a : ex_T) : ∀ hi lo, ex_n (ex_N a (hi + 1) lo) + 1 ≤ (hi + 1) * (ex_n a + 2) := by
  intro hi
  induction hi with
  | zero =>
    intro lo
    unfold ex_N
    by_cases h0 : lo = 0
    · rw [if_pos h0]; simp only [ex_n]; omega
    · rw [if_neg h0]; omega
  | succ n ih =>
    intro lo
    have ih' := ih (lo - 1)
    have e : (n + 1 + 1) * (ex_n a + 2) = (n + 1) * (ex_n a + 2) + (ex_n a + 2) := Nat.succ_mul _ _
    unfold ex_N
    by_cases h0 : lo = 0
    · rw [if_pos h0]; simp only [ex_n]; omega
    · rw [if_neg h0]; simp only [ex_n]; omega
theorem ex_N_l (a : ex_T) : ∀ hi lo, ex_l (ex_N a (hi + 1) lo) = (hi + 1) * ex_l a := by
  intro hi
  induction hi with
  | zero =>
    intro lo
    unfold ex_N
    by_cases h0 : lo = 0
    · rw [if_pos h0]; simp only [ex_l]; omega
    · rw [if_neg h0]; omega
  | succ n ih =>
    intro lo
    have ih' := ih (lo - 1)
    have e : (n + 1 + 1) * ex_l a = (n + 1) * ex_l a + ex_l a := Nat.succ_mul _ _
    unfold ex_N
    by_cases h0 : lo = 0
    · rw [if_pos h0]; simp only [ex_l]; omega
    · rw [if_neg h0]; simp only [ex_l]; omega
theorem ex_N_w (a : ex_T) : ∀ hi lo, ex_w (ex_N a (hi + 1) lo) = (hi + 1) * ex_w a := by
  intro hi
  induction hi with
  | zero =>
    intro lo
    unfold ex_N
    by_cases h0 : lo = 0
    · rw [if_pos h0]; simp only [ex_w]; omega
    · rw [if_neg h0]; omega
  | succ n ih =>
    intro lo
    have ih' := ih (lo - 1)
    have e : (n + 1 + 1) * ex_w a = (n + 1) * ex_w a + ex_w a := Nat.succ_mul _ _
    unfold ex_N
    by_cases h0 : lo = 0
    · rw [if_pos h0]; simp only [ex_w]; omega
    · rw [if_neg h0]; simp only [ex_w]; omega
theorem ex_E_0 : ∀ (R : ex_T), ex_w R = 0 → ex_E R = .num 0 := by
  intro R h
  cases R with
  | var i => cases h
  | num k => rfl
  | natCast k => rfl
  | intCast k => rfl
  | neg a => exact if_pos h
  | add a b => exact if_pos h
  | mul a b => exact if_pos h
  | sub a b => exact if_pos h
  | pow a k => exact if_pos h
theorem ex_E_w : ∀ (R : ex_T), ex_W R → ex_w (ex_E R) = ex_w R := by
  intro R
  induction R with
  | num k => intro _; rfl
  | natCast k => intro _; rfl
  | intCast k => intro _; rfl
  | var i => intro _; rfl
  | neg a ih =>
    intro h
    have e := ih h
    unfold ex_E
    by_cases h0 : ex_w a = 0
    · rw [if_pos h0]; simp only [ex_w]; omega
    · rw [if_neg h0]; simp only [ex_w]; omega
  | add a b iha ihb =>
    intro h
    have e1 := iha h.1
    have e2 := ihb h.2
    unfold ex_E
    by_cases h0 : ex_w a + ex_w b = 0
    · rw [if_pos h0]; simp only [ex_w]; omega
    · rw [if_neg h0]; simp only [ex_w]; omega
  | mul a b iha ihb =>
    intro h
    have e1 := iha h.1
    have e2 := ihb h.2
    unfold ex_E
    by_cases h0 : ex_w a + ex_w b = 0
    · rw [if_pos h0]; simp only [ex_w]; omega
    · rw [if_neg h0]; simp only [ex_w]; omega
  | sub a b iha ihb =>
    intro h
    have e1 := iha h.1
    have e2 := ihb h.2
    unfold ex_E
    by_cases h0 : 2 * (ex_w a + ex_w b) = 0
    · rw [if_pos h0]; simp only [ex_w]; omega
    · rw [if_neg h0]; simp only [ex_w]; omega
  | pow a k ih =>
    intro h
    have e := ih h.1
    unfold ex_E
    by_cases h0 : ex_m k * ex_w a = 0
    · rw [if_pos h0]; simp only [ex_w]; omega
    · rw [if_neg h0]
      by_cases hk : k < 16
      · rw [if_pos hk]
        have hv := h.2.2 hk
        have e3 : k % 4 = (k % 4 - 1) + 1 := by omega
        have e4 := ex_N_w (ex_E a) (k % 4 - 1) (k / 4)
        rw [← e3] at e4
        rw [e4, e]
        simp only [ex_w, ex_m, if_pos hk]
      · rw [if_neg hk]; simp only [ex_w]; rw [e]
theorem ex_m_pos {k : Nat} (h : k < 16 → k / 4 ≤ k % 4 ∧ 1 ≤ k % 4) : 1 ≤ ex_m k := by
  unfold ex_m
  by_cases hk : k < 16
  · rw [if_pos hk]; exact (h hk).2
  · rw [if_neg hk]; exact Nat.le_refl 1
/-- the length of the expansion: at most three times tokens times weight -/
theorem ex_E_n : ∀ (R : ex_T), ex_W R → 1 ≤ ex_w R → ex_n (ex_E R) ≤ 3 * (ex_n R * ex_w R) := by
  intro R
  induction R with
  | num k => intro _ h; simp only [ex_w] at h; omega
  | natCast k => intro _ h; simp only [ex_w] at h; omega
  | intCast k => intro _ h; simp only [ex_w] at h; omega
  | var i => intro _ _; simp only [ex_E, ex_n, ex_w]; omega
  | neg a ih =>
    intro h hw
    have hw' : 1 ≤ ex_w a := hw
    have e := ih h hw'
    unfold ex_E
    rw [if_neg (by omega)]
    simp only [ex_n, ex_w]
    have : (1 + ex_n a) * ex_w a = ex_w a + ex_n a * ex_w a := by rw [Nat.add_mul, Nat.one_mul]
    omega
  | add a b iha ihb =>
    intro h hw
    have hw' : 1 ≤ ex_w a + ex_w b := hw
    unfold ex_E
    rw [if_neg (by omega)]
    simp only [ex_n, ex_w]
    have g : ∀ (R : ex_T), ex_W R → (1 ≤ ex_w R → ex_n (ex_E R) ≤ 3 * (ex_n R * ex_w R)) → ex_n (ex_E R) ≤ 1 + 3 * (ex_n R * ex_w R) := by
      intro R hR ih
      rcases Nat.eq_zero_or_pos (ex_w R) with h0 | h0
      · rw [ex_E_0 R h0]; simp only [ex_n]; omega
      · have := ih h0; omega
    have g1 := g a h.1 (iha h.1)
    have g2 := g b h.2 (ihb h.2)
    have m1 : (1 + ex_n a + ex_n b) * (ex_w a + ex_w b) = (ex_w a + ex_w b) + (ex_n a * ex_w a + ex_n a * ex_w b) + (ex_n b * ex_w a + ex_n b * ex_w b) := by
      rw [Nat.add_mul, Nat.add_mul, Nat.one_mul, Nat.mul_add, Nat.mul_add]
    omega
  | mul a b iha ihb =>
    intro h hw
    have hw' : 1 ≤ ex_w a + ex_w b := hw
    unfold ex_E
    rw [if_neg (by omega)]
    simp only [ex_n, ex_w]
    have g : ∀ (R : ex_T), ex_W R → (1 ≤ ex_w R → ex_n (ex_E R) ≤ 3 * (ex_n R * ex_w R)) → ex_n (ex_E R) ≤ 1 + 3 * (ex_n R * ex_w R) := by
      intro R hR ih
      rcases Nat.eq_zero_or_pos (ex_w R) with h0 | h0
      · rw [ex_E_0 R h0]; simp only [ex_n]; omega
      · have := ih h0; omega
    have g1 := g a h.1 (iha h.1)
    have g2 := g b h.2 (ihb h.2)
    have m1 : (1 + ex_n a + ex_n b) * (ex_w a + ex_w b) = (ex_w a + ex_w b) + (ex_n a * ex_w a + ex_n a * ex_w b) + (ex_n b * ex_w a + ex_n b * ex_w b) := by
      rw [Nat.add_mul, Nat.add_mul, Nat.one_mul, Nat.mul_add, Nat.mul_add]
    omega
  | sub a b iha ihb =>
    intro h hw
    have hw' : 1 ≤ 2 * (ex_w a + ex_w b) := hw
    unfold ex_E
    rw [if_neg (by omega)]
    simp only [ex_n, ex_w]
    have pa := ex_n_pos a
    have pb := ex_n_pos b
    have g : ∀ (R : ex_T), ex_W R → (1 ≤ ex_w R → ex_n (ex_E R) ≤ 3 * (ex_n R * ex_w R)) → (ex_w R = 0 ∧ ex_n (ex_E R) = 1) ∨ (1 ≤ ex_w R ∧ ex_n (ex_E R) ≤ 3 * (ex_n R * ex_w R)) := by
      intro R hR ih
      rcases Nat.eq_zero_or_pos (ex_w R) with h0 | h0
      · rw [ex_E_0 R h0]; exact Or.inl ⟨h0, rfl⟩
      · exact Or.inr ⟨h0, ih h0⟩
    have g1 := g a h.1 (iha h.1)
    have g2 := g b h.2 (ihb h.2)
    have m1 : (1 + ex_n a + ex_n b) * (2 * (ex_w a + ex_w b)) = 2 * ((ex_w a + ex_w b) + (ex_n a * ex_w a + ex_n a * ex_w b) + (ex_n b * ex_w a + ex_n b * ex_w b)) := by
      rw [Nat.mul_left_comm]
      congr 1
      rw [Nat.add_mul, Nat.add_mul, Nat.one_mul, Nat.mul_add, Nat.mul_add]
    rcases g1 with ⟨z1, g1⟩ | ⟨z1, g1⟩
    · rcases g2 with ⟨z2, g2⟩ | ⟨z2, g2⟩
      · omega
      · have m2 : ex_w b ≤ ex_n a * ex_w b := Nat.le_mul_of_pos_left _ pa
        omega
    · rcases g2 with ⟨z2, g2⟩ | ⟨z2, g2⟩
      · have m2 : ex_w a ≤ ex_n b * ex_w a := Nat.le_mul_of_pos_left _ pb
        omega
      · omega
  | pow a k ih =>
    intro h hw
    have hw' : 1 ≤ ex_m k * ex_w a := hw
    have ha : 1 ≤ ex_w a := by
      rcases Nat.eq_zero_or_pos (ex_w a) with h0 | h0
      · rw [h0] at hw'; omega
      · exact h0
    have e := ih h.1 ha
    unfold ex_E
    rw [if_neg (by omega)]
    by_cases hk : k < 16
    · rw [if_pos hk]
      have hv := h.2.2 hk
      have e3 : k % 4 = (k % 4 - 1) + 1 := by omega
      have e4 := ex_N_n (ex_E a) (k % 4 - 1) (k / 4)
      rw [← e3] at e4
      simp only [ex_n, ex_w, ex_m, if_pos hk]
      have m0 : k % 4 * (ex_n (ex_E a) + 2) ≤ k % 4 * (3 * (ex_n a * ex_w a) + 2) := Nat.mul_le_mul_left _ (by omega)
      have m1 : k % 4 * (3 * (ex_n a * ex_w a) + 2) ≤ k % 4 * (3 * ((1 + ex_n a) * ex_w a)) := by
        apply Nat.mul_le_mul_left
        rw [Nat.add_mul, Nat.one_mul]
        omega
      have m2 : k % 4 * (3 * ((1 + ex_n a) * ex_w a)) = 3 * ((1 + ex_n a) * (k % 4 * ex_w a)) := by
        rw [Nat.mul_left_comm, Nat.mul_left_comm (1 + ex_n a)]
      omega
    · rw [if_neg hk]
      simp only [ex_n, ex_w, ex_m, if_neg hk, Nat.one_mul]
      have : (1 + ex_n a) * ex_w a = ex_w a + ex_n a * ex_w a := by rw [Nat.add_mul, Nat.one_mul]
      omega
/-- and its leaves: at most tokens times weight -/
theorem ex_E_l : ∀ (R : ex_T), ex_W R → 1 ≤ ex_w R → ex_l (ex_E R) ≤ ex_n R * ex_w R := by
  intro R
  have two : ∀ (a b : ex_T), 1 ≤ ex_w a + ex_w b → (1 ≤ ex_w a → ex_l (ex_E a) ≤ ex_n a * ex_w a) → (1 ≤ ex_w b → ex_l (ex_E b) ≤ ex_n b * ex_w b) → ex_l (ex_E a) + ex_l (ex_E b) ≤ (1 + ex_n a + ex_n b) * (ex_w a + ex_w b) := by
    intro a b hw iha ihb
    have pa := ex_n_pos a
    have pb := ex_n_pos b
    have m1 : (1 + ex_n a + ex_n b) * (ex_w a + ex_w b) = (ex_w a + ex_w b) + (ex_n a * ex_w a + ex_n a * ex_w b) + (ex_n b * ex_w a + ex_n b * ex_w b) := by
      rw [Nat.add_mul, Nat.add_mul, Nat.one_mul, Nat.mul_add, Nat.mul_add]
    rcases Nat.eq_zero_or_pos (ex_w a) with h0 | h0
    · rw [ex_E_0 a h0]
      rcases Nat.eq_zero_or_pos (ex_w b) with h1 | h1
      · omega
      · have := ihb h1
        simp only [ex_l]
        omega
    · have := iha h0
      rcases Nat.eq_zero_or_pos (ex_w b) with h1 | h1
      · rw [ex_E_0 b h1]
        simp only [ex_l]
        omega
      · have := ihb h1
        omega
  induction R with
  | num k => intro _ h; simp only [ex_w] at h; omega
  | natCast k => intro _ h; simp only [ex_w] at h; omega
  | intCast k => intro _ h; simp only [ex_w] at h; omega
  | var i => intro _ _; simp only [ex_E, ex_n, ex_w, ex_l]; omega
  | neg a ih =>
    intro h hw
    have hw' : 1 ≤ ex_w a := hw
    have e := ih h hw'
    unfold ex_E
    rw [if_neg (by omega)]
    simp only [ex_n, ex_w, ex_l]
    have : (1 + ex_n a) * ex_w a = ex_w a + ex_n a * ex_w a := by rw [Nat.add_mul, Nat.one_mul]
    omega
  | add a b iha ihb =>
    intro h hw
    have hw' : 1 ≤ ex_w a + ex_w b := hw
    unfold ex_E
    rw [if_neg (by omega)]
    exact two a b hw' (iha h.1) (ihb h.2)
  | mul a b iha ihb =>
    intro h hw
    have hw' : 1 ≤ ex_w a + ex_w b := hw
    unfold ex_E
    rw [if_neg (by omega)]
    exact two a b hw' (iha h.1) (ihb h.2)
  | sub a b iha ihb =>
    intro h hw
    have hw' : 1 ≤ 2 * (ex_w a + ex_w b) := hw
    unfold ex_E
    rw [if_neg (by omega)]
    have t := two a b (by omega) (iha h.1) (ihb h.2)
    simp only [ex_n, ex_w, ex_l]
    rw [Nat.mul_left_comm]
    omega
  | pow a k ih =>
    intro h hw
    have hw' : 1 ≤ ex_m k * ex_w a := hw
    have ha : 1 ≤ ex_w a := by
      rcases Nat.eq_zero_or_pos (ex_w a) with h0 | h0
      · rw [h0] at hw'; omega
      · exact h0
    have e := ih h.1 ha
    unfold ex_E
    rw [if_neg (by omega)]
    have m3 : (1 + ex_n a) * ex_w a = ex_w a + ex_n a * ex_w a := by rw [Nat.add_mul, Nat.one_mul]
    by_cases hk : k < 16
    · rw [if_pos hk]
      have hv := h.2.2 hk
      have e3 : k % 4 = (k % 4 - 1) + 1 := by omega
      have e4 := ex_N_l (ex_E a) (k % 4 - 1) (k / 4)
      rw [← e3] at e4
      rw [e4]
      simp only [ex_n, ex_w, ex_m, if_pos hk]
      rw [Nat.mul_left_comm]
      apply Nat.mul_le_mul_left
      omega
    · rw [if_neg hk]
      simp only [ex_n, ex_w, ex_m, ex_l, if_neg hk, Nat.one_mul]
      omega
/-- the tokens from b on spell the tree -/
def ex_S (kd vl : Nat → Nat) : ex_T → Nat → Prop
  | .var i => fun b => kd b = 0 ∧ i = b
  | .num _ => fun b => kd b = 6
  | .natCast _ => fun _ => False
  | .intCast _ => fun _ => False
  | .neg a => fun b => kd b = 3 ∧ ex_S kd vl a (b + 1)
  | .add x y => fun b => kd b = 2 ∧ ex_S kd vl x (b + 1) ∧ ex_S kd vl y (b + 1 + ex_n x)
  | .mul x y => fun b => kd b = 1 ∧ ex_S kd vl x (b + 1) ∧ ex_S kd vl y (b + 1 + ex_n x)
  | .sub x y => fun b => kd b = 7 ∧ ex_S kd vl x (b + 1) ∧ ex_S kd vl y (b + 1 + ex_n x)
  | .pow a k => fun b => ((k < 16 ∧ kd b = 8 ∧ vl b = k) ∨ (k = 16 ∧ kd b = 4) ∨ (k = 17 ∧ kd b = 5)) ∧ ex_S kd vl a (b + 1)
def ex_pt (k : Nat) : Nat := if k = 0 ∨ k = 6 then 0 else if k = 1 ∨ k = 2 ∨ k = 7 then 2 else 1
/-- m tokens from b on, c expressions wanted: none too early, none left -/
def ex_sc (kd : Nat → Nat) : Nat → Nat → Nat → Prop
  | 0, _, c => c = 0
  | m + 1, b, c => c ≠ 0 ∧ ex_sc kd m (b + 1) (c + ex_pt (kd b) - 1)
def ex_V (kd vl : Nat → Nat) (n : Nat) : Prop := ∀ b, b < n → kd b < 9 ∧ (kd b = 8 → vl b < 16 ∧ vl b / 4 ≤ vl b % 4 ∧ 1 ≤ vl b % 4)
theorem ex_parse {kd vl : Nat → Nat} : ∀ (m b c : Nat), ex_V kd vl (b + m) → ex_sc kd m b (c + 1) → ∃ R, ex_S kd vl R b ∧ ex_W R ∧ ex_n R ≤ m ∧ ex_sc kd (m - ex_n R) (b + ex_n R) c := by
  intro m
  induction m using Nat.strongRecOn with
  | ind m ih =>
    intro b c hV hs
    cases m with
    | zero => exact absurd hs (by unfold ex_sc; omega)
    | succ m =>
      obtain ⟨_, hs⟩ := hs
      obtain ⟨hk, hv⟩ := hV b (by omega)
      have one : ex_pt (kd b) = 1 → ∃ R, ex_S kd vl R (b + 1) ∧ ex_W R ∧ ex_n R ≤ m ∧ ex_sc kd (m - ex_n R) (b + 1 + ex_n R) c := by
        intro h1
        rw [h1] at hs
        exact ih m (by omega) (b + 1) c (by rw [show b + 1 + m = b + (m + 1) by omega]; exact hV) (by rw [show c + 1 = c + 1 + 1 - 1 by omega]; exact hs)
      have two : ex_pt (kd b) = 2 → ∃ R Q, ex_S kd vl R (b + 1) ∧ ex_S kd vl Q (b + 1 + ex_n R) ∧ ex_W R ∧ ex_W Q ∧ ex_n R + ex_n Q ≤ m ∧ ex_sc kd (m - (ex_n R + ex_n Q)) (b + 1 + ex_n R + ex_n Q) c := by
        intro h2
        rw [h2] at hs
        obtain ⟨R, r1, r2, r3, r4⟩ := ih m (by omega) (b + 1) (c + 1) (by rw [show b + 1 + m = b + (m + 1) by omega]; exact hV) (by rw [show c + 1 + 1 = c + 1 + 2 - 1 by omega]; exact hs)
        have rp := ex_n_pos R
        obtain ⟨Q, q1, q2, q3, q4⟩ := ih (m - ex_n R) (by omega) (b + 1 + ex_n R) c (by rw [show b + 1 + ex_n R + (m - ex_n R) = b + (m + 1) by omega]; exact hV) r4
        refine ⟨R, Q, r1, q1, r2, q2, by omega, ?_⟩
        rw [show m - (ex_n R + ex_n Q) = m - ex_n R - ex_n Q by omega]
        exact q4
      have zero : ex_pt (kd b) = 0 → ex_sc kd (m + 1 - 1) (b + 1) c := by
        intro h0
        rw [h0] at hs
        exact hs
      have fin1 : ∀ (R : ex_T), ex_n R ≤ m → ex_sc kd (m - ex_n R) (b + 1 + ex_n R) c → 1 + ex_n R ≤ m + 1 ∧ ex_sc kd (m + 1 - (1 + ex_n R)) (b + (1 + ex_n R)) c := by
        intro R h1 h2
        refine ⟨by omega, ?_⟩
        rw [show m + 1 - (1 + ex_n R) = m - ex_n R by omega, show b + (1 + ex_n R) = b + 1 + ex_n R by omega]
        exact h2
      have fin2 : ∀ (R Q : ex_T), ex_n R + ex_n Q ≤ m → ex_sc kd (m - (ex_n R + ex_n Q)) (b + 1 + ex_n R + ex_n Q) c → 1 + ex_n R + ex_n Q ≤ m + 1 ∧ ex_sc kd (m + 1 - (1 + ex_n R + ex_n Q)) (b + (1 + ex_n R + ex_n Q)) c := by
        intro R Q h1 h2
        refine ⟨by omega, ?_⟩
        rw [show m + 1 - (1 + ex_n R + ex_n Q) = m - (ex_n R + ex_n Q) by omega, show b + (1 + ex_n R + ex_n Q) = b + 1 + ex_n R + ex_n Q by omega]
        exact h2
      have hc : kd b = 0 ∨ kd b = 1 ∨ kd b = 2 ∨ kd b = 3 ∨ kd b = 4 ∨ kd b = 5 ∨ kd b = 6 ∨ kd b = 7 ∨ kd b = 8 := by omega
      rcases hc with e | e | e | e | e | e | e | e | e
      · exact ⟨.var b, ⟨e, rfl⟩, trivial, by simp only [ex_n]; omega, zero (by rw [e]; rfl)⟩
      · obtain ⟨R, Q, r1, q1, r2, q2, h3, h4⟩ := two (by rw [e]; rfl)
        obtain ⟨f1, f2⟩ := fin2 R Q h3 h4
        exact ⟨.mul R Q, ⟨e, r1, q1⟩, ⟨r2, q2⟩, f1, f2⟩
      · obtain ⟨R, Q, r1, q1, r2, q2, h3, h4⟩ := two (by rw [e]; rfl)
        obtain ⟨f1, f2⟩ := fin2 R Q h3 h4
        exact ⟨.add R Q, ⟨e, r1, q1⟩, ⟨r2, q2⟩, f1, f2⟩
      · obtain ⟨R, r1, r2, h3, h4⟩ := one (by rw [e]; rfl)
        obtain ⟨f1, f2⟩ := fin1 R h3 h4
        exact ⟨.neg R, ⟨e, r1⟩, r2, f1, f2⟩
      · obtain ⟨R, r1, r2, h3, h4⟩ := one (by rw [e]; rfl)
        obtain ⟨f1, f2⟩ := fin1 R h3 h4
        exact ⟨.pow R 16, ⟨Or.inr (Or.inl ⟨rfl, e⟩), r1⟩, ⟨r2, by omega, fun h => absurd h (by omega)⟩, f1, f2⟩
      · obtain ⟨R, r1, r2, h3, h4⟩ := one (by rw [e]; rfl)
        obtain ⟨f1, f2⟩ := fin1 R h3 h4
        exact ⟨.pow R 17, ⟨Or.inr (Or.inr ⟨rfl, e⟩), r1⟩, ⟨r2, by omega, fun h => absurd h (by omega)⟩, f1, f2⟩
      · exact ⟨.num 0, e, trivial, by simp only [ex_n]; omega, zero (by rw [e]; rfl)⟩
      · obtain ⟨R, Q, r1, q1, r2, q2, h3, h4⟩ := two (by rw [e]; rfl)
        obtain ⟨f1, f2⟩ := fin2 R Q h3 h4
        exact ⟨.sub R Q, ⟨e, r1, q1⟩, ⟨r2, q2⟩, f1, f2⟩
      · obtain ⟨R, r1, r2, h3, h4⟩ := one (by rw [e]; rfl)
        obtain ⟨f1, f2⟩ := fin1 R h3 h4
        obtain ⟨v1, v2⟩ := hv e
        exact ⟨.pow R (vl b), ⟨Or.inl ⟨v1, e, rfl⟩, r1⟩, ⟨r2, by omega, fun _ => v2⟩, f1, f2⟩
