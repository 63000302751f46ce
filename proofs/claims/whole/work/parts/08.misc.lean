/-! ===== counting, the least token in doubt, chains that are closed ===== -/
def cb_n (f : Nat → Bool) : Nat → Nat
  | 0 => 0
  | m + 1 => cb_n f m + (if f m = true then 1 else 0)
theorem cb_le (f : Nat → Bool) : ∀ m, cb_n f m ≤ m := by
  intro m
  induction m with
  | zero => exact Nat.le_refl 0
  | succ m ih => unfold cb_n; split <;> omega
theorem cb_mono {f g : Nat → Bool} : ∀ m, (∀ i, i < m → f i = true → g i = true) → cb_n f m ≤ cb_n g m := by
  intro m
  induction m with
  | zero => intro _; exact Nat.le_refl 0
  | succ m ih =>
    intro h
    have h1 := ih (fun i hi => h i (by omega))
    unfold cb_n
    by_cases hf : f m = true
    · rw [if_pos hf, if_pos (h m (by omega) hf)]; omega
    · rw [if_neg hf]; omega
theorem cb_lt {f g : Nat → Bool} {k : Nat} (hk : f k = false) (hg : g k = true) : ∀ m, k < m → (∀ i, i < m → f i = true → g i = true) → cb_n f m < cb_n g m := by
  intro m
  induction m with
  | zero => intro h; omega
  | succ m ih =>
    intro hm h
    unfold cb_n
    by_cases e : k = m
    · have h1 := cb_mono m (fun i hi => h i (by omega))
      rw [← e, if_neg (by rw [hk]; exact Bool.false_ne_true), if_pos hg]
      rw [← e] at h1
      omega
    · have h1 := ih (by omega) (fun i hi => h i (by omega))
      by_cases hf : f m = true
      · rw [if_pos hf, if_pos (h m (by omega) hf)]; omega
      · rw [if_neg hf]; omega
theorem cb_cg {f g : Nat → Bool} : ∀ m, (∀ i, i < m → f i = g i) → cb_n f m = cb_n g m := by
  intro m
  induction m with
  | zero => intro _; rfl
  | succ m ih =>
    intro h
    unfold cb_n
    rw [ih (fun i hi => h i (by omega)), h m (by omega)]
/-- r: the least of the tokens that may be confused with another; -1 if there is none -/
def cf_best (C : Nat → Nat → Prop) (r : Int32) : Prop :=
  (r = -1 ∧ ∀ a b, a ≠ b → ¬ C a b) ∨ (∃ t, t < 16 ∧ r = nI t ∧ (∃ b, b ≠ t ∧ C t b) ∧ ∀ a b, a ≠ b → C a b → t ≤ a)
theorem cf_uniq {C : Nat → Nat → Prop} {r s : Int32} (h1 : cf_best C r) (h2 : cf_best C s) : r = s := by
  rcases h1 with ⟨e1, n1⟩ | ⟨t1, _, e1, ⟨b1, d1, c1⟩, m1⟩
  · rcases h2 with ⟨e2, n2⟩ | ⟨t2, _, e2, ⟨b2, d2, c2⟩, m2⟩
    · rw [e1, e2]
    · exact (n1 t2 b2 (fun e => d2 e.symm) c2).elim
  · rcases h2 with ⟨e2, n2⟩ | ⟨t2, _, e2, ⟨b2, d2, c2⟩, m2⟩
    · exact (n2 t1 b1 (fun e => d1 e.symm) c1).elim
    · have h3 := m1 t2 b2 (fun e => d2 e.symm) c2
      have h4 := m2 t1 b1 (fun e => d1 e.symm) c1
      rw [e1, e2, show t1 = t2 by omega]
theorem cf_iff {C D : Nat → Nat → Prop} (h : ∀ a b, C a b ↔ D a b) {r : Int32} (hr : cf_best C r) : cf_best D r := by
  rcases hr with ⟨e1, n1⟩ | ⟨t1, h0, e1, ⟨b1, d1, c1⟩, m1⟩
  · exact Or.inl ⟨e1, fun a b hab hc => n1 a b hab ((h a b).mpr hc)⟩
  · exact Or.inr ⟨t1, h0, e1, ⟨b1, d1, (h _ _).mp c1⟩, fun a b hab hc => m1 a b hab ((h a b).mpr hc)⟩
theorem gl_C_symm {L : List Nat → Prop} {g : Nat → Nat} {a b : Nat} (h : gl_C L g a b) : gl_C L g b a := by
  obtain ⟨e, u, v, x, y, h1, h2, h3⟩ := h
  exact ⟨e.symm, v, u, y, x, h2, h1, h3.symm⟩
theorem gl_C_congr {L L' : List Nat → Prop} {g : Nat → Nat} (h : ∀ u, L u ↔ L' u) (a b : Nat) : gl_C L g a b ↔ gl_C L' g a b := by
  constructor
  · rintro ⟨e, u, v, x, y, h1, h2, h3⟩; exact ⟨e, u, v, x, y, (h _).mp h1, (h _).mp h2, h3⟩
  · rintro ⟨e, u, v, x, y, h1, h2, h3⟩; exact ⟨e, u, v, x, y, (h _).mpr h1, (h _).mpr h2, h3⟩
theorem dp_clo {L : List Nat → Prop} {w : Nat → Nat} {n a : Nat} {A : Nat → Prop} (ha : A a) (hc : ∀ m k, A m → k ≤ n → dp_E L w m k → A k) : ∀ i m, m ≤ n → dp_ch L w i a m → A m := by
  intro i
  induction i with
  | zero => intro m _ h; rw [← show a = m from h]; exact ha
  | succ i ih =>
    rintro m hm ⟨k, h1, h2⟩
    exact hc k m (ih k (Nat.le_trans h2.1 hm) h1) hm h2
/-- a chain of at least one word from a to a: the empty word is one -/
theorem dp_ch_loop {L : List Nat → Prop} {w : Nat → Nat} {i a : Nat} (h : dp_ch L w (i + 1) a a) : dp_E L w a a := by
  obtain ⟨k, h1, h2⟩ := (dp_ch_cons i a a).mp h
  have h3 := dp_ch_le i k a h2
  have h4 := h1.1
  obtain rfl : k = a := by omega
  exact h1
