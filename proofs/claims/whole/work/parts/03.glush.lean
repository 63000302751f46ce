/-! ===== fragments of automata: positions, what follows them, and the words they spell ===== -/
def gl_A (φ : Nat → Nat → Prop) (tk : Nat → Nat) (Λ : Nat → Prop) : List Nat → Nat → Prop
  | [] => fun p => Λ p
  | a :: u => fun p => ∃ q, φ p q ∧ tk q = a ∧ gl_A φ tk Λ u q
/-- D: its positions; F, Λ: first and last ones; em: whether it may be empty; L: its words, rows of tokens -/
def gl_F (φ : Nat → Nat → Prop) (tk : Nat → Nat) (D F Λ : Nat → Prop) (em : Prop) (L : List Nat → Prop) : Prop :=
  (∀ q, F q → D q) ∧ (∀ q, Λ q → D q) ∧ (∀ p q, D p → φ p q → D q) ∧ (em ↔ L []) ∧
  (∀ a u, L (a :: u) ↔ ∃ q, F q ∧ tk q = a ∧ gl_A φ tk Λ u q) ∧ (∀ p, D p → ∃ u, gl_A φ tk Λ u p)
theorem gl_A_cg {φ φ' : Nat → Nat → Prop} {tk tk' : Nat → Nat} {D Λ : Nat → Prop} (hc : ∀ p q, D p → φ p q → D q) (hf : ∀ p q, D p → (φ' p q ↔ φ p q)) (ht : ∀ p, D p → tk' p = tk p) : ∀ u p, D p → (gl_A φ' tk' Λ u p ↔ gl_A φ tk Λ u p) := by
  intro u
  induction u with
  | nil => intro p _; exact Iff.rfl
  | cons a u ih =>
    intro p hp
    constructor
    · rintro ⟨q, h1, h2, h3⟩
      have h1' := (hf p q hp).mp h1
      have hq := hc p q hp h1'
      exact ⟨q, h1', (ht q hq).symm.trans h2, (ih q hq).mp h3⟩
    · rintro ⟨q, h1, h2, h3⟩
      have hq := hc p q hp h1
      exact ⟨q, (hf p q hp).mpr h1, (ht q hq).trans h2, (ih q hq).mpr h3⟩
/-- what is changed outside of its positions does not matter -/
theorem gl_F_cg {φ φ' : Nat → Nat → Prop} {tk tk' : Nat → Nat} {D F Λ : Nat → Prop} {em : Prop} {L : List Nat → Prop} (h : gl_F φ tk D F Λ em L) (hf : ∀ p q, D p → (φ' p q ↔ φ p q)) (ht : ∀ p, D p → tk' p = tk p) : gl_F φ' tk' D F Λ em L := by
  obtain ⟨h1, h2, h3, h4, h5, h6⟩ := h
  refine ⟨h1, h2, fun p q hp hq => h3 p q hp ((hf p q hp).mp hq), h4, fun a u => ?_, fun p hp => ?_⟩
  · rw [h5]
    constructor
    · rintro ⟨q, hq, e, hA⟩
      exact ⟨q, hq, (ht q (h1 q hq)).trans e, (gl_A_cg h3 hf ht u q (h1 q hq)).mpr hA⟩
    · rintro ⟨q, hq, e, hA⟩
      exact ⟨q, hq, (ht q (h1 q hq)).symm.trans e, (gl_A_cg h3 hf ht u q (h1 q hq)).mp hA⟩
  · obtain ⟨u, hu⟩ := h6 p hp
    exact ⟨u, (gl_A_cg h3 hf ht u p hp).mpr hu⟩
theorem gl_A_L {φ : Nat → Nat → Prop} {tk : Nat → Nat} {Λ Λ' : Nat → Prop} (h : ∀ p, Λ p ↔ Λ' p) : ∀ u p, gl_A φ tk Λ u p ↔ gl_A φ tk Λ' u p := by
  intro u
  induction u with
  | nil => intro p; exact h p
  | cons a u ih =>
    intro p
    constructor
    · rintro ⟨q, h1, h2, h3⟩; exact ⟨q, h1, h2, (ih q).mp h3⟩
    · rintro ⟨q, h1, h2, h3⟩; exact ⟨q, h1, h2, (ih q).mpr h3⟩
/-- the same in other words -/
theorem gl_F_eq {φ : Nat → Nat → Prop} {tk : Nat → Nat} {D D' F F' Λ Λ' : Nat → Prop} {em em' : Prop} {L L' : List Nat → Prop} (h : gl_F φ tk D F Λ em L) (hD : ∀ p, D' p ↔ D p) (hF : ∀ p, F' p ↔ F p) (hΛ : ∀ p, Λ' p ↔ Λ p) (he : em' ↔ em) (hL : ∀ u, L' u ↔ L u) : gl_F φ tk D' F' Λ' em' L' := by
  obtain ⟨h1, h2, h3, h4, h5, h6⟩ := h
  refine ⟨fun q hq => (hD q).mpr (h1 q ((hF q).mp hq)), fun q hq => (hD q).mpr (h2 q ((hΛ q).mp hq)), fun p q hp hq => (hD q).mpr (h3 p q ((hD p).mp hp) hq), ?_, fun a u => ?_, fun p hp => ?_⟩
  · rw [he, h4, hL]
  · rw [hL, h5]
    constructor
    · rintro ⟨q, hq, e, hA⟩; exact ⟨q, (hF q).mpr hq, e, (gl_A_L hΛ u q).mpr hA⟩
    · rintro ⟨q, hq, e, hA⟩; exact ⟨q, (hF q).mp hq, e, (gl_A_L hΛ u q).mp hA⟩
  · obtain ⟨u, hu⟩ := h6 p ((hD p).mp hp)
    exact ⟨u, (gl_A_L hΛ u p).mpr hu⟩
/-- SEQ -/
theorem gl_seq {φ φ' : Nat → Nat → Prop} {tk : Nat → Nat} {D1 F1 Λ1 : Nat → Prop} {e1 : Prop} {L1 : List Nat → Prop} {D2 F2 Λ2 : Nat → Prop} {e2 : Prop} {L2 : List Nat → Prop} (h1 : gl_F φ tk D1 F1 Λ1 e1 L1) (h2 : gl_F φ tk D2 F2 Λ2 e2 L2) (hd : ∀ p, D1 p → D2 p → False) (hne : ∃ u, L2 u)
    (hφ : ∀ p q, φ' p q ↔ φ p q ∨ (Λ1 p ∧ F2 q)) :
    gl_F φ' tk (fun p => D1 p ∨ D2 p) (fun q => F1 q ∨ (e1 ∧ F2 q)) (fun q => Λ2 q ∨ (e2 ∧ Λ1 q)) (e1 ∧ e2) (ex_cat L1 L2) := by
  obtain ⟨a1, a2, a3, a4, a5, a6⟩ := h1
  obtain ⟨b1, b2, b3, b4, b5, b6⟩ := h2
  have k1 : ∀ u p, D2 p → (gl_A φ' tk (fun q => Λ2 q ∨ (e2 ∧ Λ1 q)) u p ↔ gl_A φ tk Λ2 u p) := by
    intro u
    induction u with
    | nil =>
      intro p hp
      constructor
      · rintro (h | h)
        · exact h
        · exact (hd p (a2 p h.2) hp).elim
      · intro h; exact Or.inl h
    | cons a u ih =>
      intro p hp
      constructor
      · rintro ⟨q, h, e, hA⟩
        rcases (hφ p q).mp h with h | h
        · exact ⟨q, h, e, (ih q (b3 p q hp h)).mp hA⟩
        · exact (hd p (a2 p h.1) hp).elim
      · rintro ⟨q, h, e, hA⟩
        exact ⟨q, (hφ p q).mpr (Or.inl h), e, (ih q (b3 p q hp h)).mpr hA⟩
  have k2 : ∀ u p, D1 p → (gl_A φ' tk (fun q => Λ2 q ∨ (e2 ∧ Λ1 q)) u p ↔ ∃ x y, u = x ++ y ∧ gl_A φ tk Λ1 x p ∧ L2 y) := by
    intro u
    induction u with
    | nil =>
      intro p hp
      constructor
      · rintro (h | h)
        · exact (hd p hp (b2 p h)).elim
        · exact ⟨[], [], rfl, h.2, b4.mp h.1⟩
      · rintro ⟨x, y, e, hx, hy⟩
        cases x with
        | nil =>
          have ey : y = [] := e.symm
          rw [ey] at hy
          exact Or.inr ⟨b4.mpr hy, hx⟩
        | cons b x => cases e
    | cons a u ih =>
      intro p hp
      constructor
      · rintro ⟨q, h, e, hA⟩
        rcases (hφ p q).mp h with h | h
        · obtain ⟨x, y, ex, hx, hy⟩ := (ih q (a3 p q hp h)).mp hA
          exact ⟨a :: x, y, by rw [ex]; rfl, ⟨q, h, e, hx⟩, hy⟩
        · exact ⟨[], a :: u, rfl, h.1, (b5 a u).mpr ⟨q, h.2, e, (k1 u q (b1 q h.2)).mp hA⟩⟩
      · rintro ⟨x, y, ex, hx, hy⟩
        cases x with
        | nil =>
          have ey : y = a :: u := ex.symm
          rw [ey] at hy
          obtain ⟨q, hq, e, hA⟩ := (b5 a u).mp hy
          exact ⟨q, (hφ p q).mpr (Or.inr ⟨hx, hq⟩), e, (k1 u q (b1 q hq)).mpr hA⟩
        | cons b x =>
          have e2 := List.cons.inj ex
          obtain ⟨q, h, e, hA⟩ := hx
          exact ⟨q, (hφ p q).mpr (Or.inl h), e.trans e2.1.symm, (ih q (a3 p q hp h)).mpr ⟨x, y, e2.2, hA, hy⟩⟩
  refine ⟨?_, ?_, ?_, ?_, ?_, ?_⟩
  · rintro q (h | h)
    · exact Or.inl (a1 q h)
    · exact Or.inr (b1 q h.2)
  · rintro q (h | h)
    · exact Or.inr (b2 q h)
    · exact Or.inl (a2 q h.2)
  · intro p q hp h
    rcases (hφ p q).mp h with h | h
    · rcases hp with hp | hp
      · exact Or.inl (a3 p q hp h)
      · exact Or.inr (b3 p q hp h)
    · exact Or.inr (b1 q h.2)
  · constructor
    · intro h
      exact ⟨[], [], rfl, a4.mp h.1, b4.mp h.2⟩
    · rintro ⟨x, y, e, hx, hy⟩
      have e' := List.nil_eq_append_iff.mp e
      rw [e'.1] at hx
      rw [e'.2] at hy
      exact ⟨a4.mpr hx, b4.mpr hy⟩
  · intro a u
    constructor
    · rintro ⟨x, y, e, hx, hy⟩
      cases x with
      | nil =>
        have ey : y = a :: u := e.symm
        rw [ey] at hy
        obtain ⟨q, hq, e, hA⟩ := (b5 a u).mp hy
        exact ⟨q, Or.inr ⟨a4.mpr hx, hq⟩, e, (k1 u q (b1 q hq)).mpr hA⟩
      | cons b x =>
        have e2 := List.cons.inj e
        rw [← e2.1] at hx
        obtain ⟨q, hq, e, hA⟩ := (a5 a x).mp hx
        exact ⟨q, Or.inl hq, e, (k2 u q (a1 q hq)).mpr ⟨x, y, e2.2, hA, hy⟩⟩
    · rintro ⟨q, hq | hq, e, hA⟩
      · obtain ⟨x, y, ex, hx, hy⟩ := (k2 u q (a1 q hq)).mp hA
        exact ⟨a :: x, y, by rw [ex]; rfl, (a5 a x).mpr ⟨q, hq, e, hx⟩, hy⟩
      · exact ⟨[], a :: u, rfl, a4.mp hq.1, (b5 a u).mpr ⟨q, hq.2, e, (k1 u q (b1 q hq.2)).mp hA⟩⟩
  · rintro p (hp | hp)
    · obtain ⟨x, hx⟩ := a6 p hp
      obtain ⟨y, hy⟩ := hne
      exact ⟨x ++ y, (k2 _ p hp).mpr ⟨x, y, rfl, hx, hy⟩⟩
    · obtain ⟨x, hx⟩ := b6 p hp
      exact ⟨x, (k1 x p hp).mpr hx⟩
/-- CHOICE -/
theorem gl_alt {φ : Nat → Nat → Prop} {tk : Nat → Nat} {D1 F1 Λ1 : Nat → Prop} {e1 : Prop} {L1 : List Nat → Prop} {D2 F2 Λ2 : Nat → Prop} {e2 : Prop} {L2 : List Nat → Prop} (h1 : gl_F φ tk D1 F1 Λ1 e1 L1) (h2 : gl_F φ tk D2 F2 Λ2 e2 L2) (hd : ∀ p, D1 p → D2 p → False) :
    gl_F φ tk (fun p => D1 p ∨ D2 p) (fun q => F1 q ∨ F2 q) (fun q => Λ1 q ∨ Λ2 q) (e1 ∨ e2) (fun u => L1 u ∨ L2 u) := by
  obtain ⟨a1, a2, a3, a4, a5, a6⟩ := h1
  obtain ⟨b1, b2, b3, b4, b5, b6⟩ := h2
  have k1 : ∀ u p, D1 p → (gl_A φ tk (fun q => Λ1 q ∨ Λ2 q) u p ↔ gl_A φ tk Λ1 u p) := by
    intro u
    induction u with
    | nil =>
      intro p hp
      exact ⟨fun h => h.elim id (fun h => (hd p hp (b2 p h)).elim), fun h => Or.inl h⟩
    | cons a u ih =>
      intro p hp
      constructor
      · rintro ⟨q, h, e, hA⟩; exact ⟨q, h, e, (ih q (a3 p q hp h)).mp hA⟩
      · rintro ⟨q, h, e, hA⟩; exact ⟨q, h, e, (ih q (a3 p q hp h)).mpr hA⟩
  have k2 : ∀ u p, D2 p → (gl_A φ tk (fun q => Λ1 q ∨ Λ2 q) u p ↔ gl_A φ tk Λ2 u p) := by
    intro u
    induction u with
    | nil =>
      intro p hp
      exact ⟨fun h => h.elim (fun h => (hd p (a2 p h) hp).elim) id, fun h => Or.inr h⟩
    | cons a u ih =>
      intro p hp
      constructor
      · rintro ⟨q, h, e, hA⟩; exact ⟨q, h, e, (ih q (b3 p q hp h)).mp hA⟩
      · rintro ⟨q, h, e, hA⟩; exact ⟨q, h, e, (ih q (b3 p q hp h)).mpr hA⟩
  refine ⟨fun q h => h.elim (fun h => Or.inl (a1 q h)) (fun h => Or.inr (b1 q h)), fun q h => h.elim (fun h => Or.inl (a2 q h)) (fun h => Or.inr (b2 q h)), ?_, ?_, ?_, ?_⟩
  · intro p q hp h
    rcases hp with hp | hp
    · exact Or.inl (a3 p q hp h)
    · exact Or.inr (b3 p q hp h)
  · rw [a4, b4]
  · intro a u
    constructor
    · rintro (h | h)
      · obtain ⟨q, hq, e, hA⟩ := (a5 a u).mp h
        exact ⟨q, Or.inl hq, e, (k1 u q (a1 q hq)).mpr hA⟩
      · obtain ⟨q, hq, e, hA⟩ := (b5 a u).mp h
        exact ⟨q, Or.inr hq, e, (k2 u q (b1 q hq)).mpr hA⟩
    · rintro ⟨q, hq | hq, e, hA⟩
      · exact Or.inl ((a5 a u).mpr ⟨q, hq, e, (k1 u q (a1 q hq)).mp hA⟩)
      · exact Or.inr ((b5 a u).mpr ⟨q, hq, e, (k2 u q (b1 q hq)).mp hA⟩)
  · rintro p (hp | hp)
    · obtain ⟨u, hu⟩ := a6 p hp
      exact ⟨u, (k1 u p hp).mpr hu⟩
    · obtain ⟨u, hu⟩ := b6 p hp
      exact ⟨u, (k2 u p hp).mpr hu⟩
/-- OPTION -/
theorem gl_opt {φ : Nat → Nat → Prop} {tk : Nat → Nat} {D F Λ : Nat → Prop} {em : Prop} {L : List Nat → Prop} (h : gl_F φ tk D F Λ em L) : gl_F φ tk D F Λ True (fun u => u = [] ∨ L u) := by
  obtain ⟨h1, h2, h3, h4, h5, h6⟩ := h
  refine ⟨h1, h2, h3, ⟨fun _ => Or.inl rfl, fun _ => trivial⟩, fun a u => ?_, h6⟩
  rw [← h5]
  constructor
  · rintro (h | h)
    · cases h
    · exact h
  · intro h; exact Or.inr h
/-- PLUS -/
theorem gl_plus {φ φ' : Nat → Nat → Prop} {tk : Nat → Nat} {D F Λ : Nat → Prop} {em : Prop} {L : List Nat → Prop} (h : gl_F φ tk D F Λ em L) (hφ : ∀ p q, φ' p q ↔ φ p q ∨ (Λ p ∧ F q)) : gl_F φ' tk D F Λ em (fun u => ∃ j, 1 ≤ j ∧ ex_pw L j u) := by
  obtain ⟨h1, h2, h3, h4, h5, h6⟩ := h
  have pc : ∀ j a u, ex_pw L j (a :: u) → ∃ x y, u = x ++ y ∧ L (a :: x) ∧ ∃ i, ex_pw L i y := by
    intro j a u hp
    obtain ⟨x, y, e, hx, j', _, hy⟩ := ex_pw_cons j a u hp
    rcases hy with hy | ⟨_, i, _, hy⟩
    · exact ⟨x, y, e, hx, j', hy⟩
    · exact ⟨x, y, e, hx, i, hy⟩
  have key : ∀ (m : Nat) (u : List Nat), u.length ≤ m → ∀ p, D p → (gl_A φ' tk Λ u p ↔ ∃ x y, u = x ++ y ∧ gl_A φ tk Λ x p ∧ ∃ j, ex_pw L j y) := by
    intro m
    induction m with
    | zero =>
      intro u hu p hp
      have e : u = [] := List.length_eq_zero_iff.mp (by omega)
      subst e
      constructor
      · intro h; exact ⟨[], [], rfl, h, 0, rfl⟩
      · rintro ⟨x, y, e, hx, _⟩
        have e' := List.nil_eq_append_iff.mp e
        rw [e'.1] at hx
        exact hx
    | succ m ih =>
      intro u hu p hp
      cases u with
      | nil =>
        constructor
        · intro h; exact ⟨[], [], rfl, h, 0, rfl⟩
        · rintro ⟨x, y, e, hx, _⟩
          have e' := List.nil_eq_append_iff.mp e
          rw [e'.1] at hx
          exact hx
      | cons a u =>
        have hl : u.length ≤ m := by rw [List.length_cons] at hu; omega
        constructor
        · rintro ⟨q, h, e, hA⟩
          rcases (hφ p q).mp h with h | h
          · obtain ⟨x, y, ex, hx, hy⟩ := (ih u hl q (h3 p q hp h)).mp hA
            exact ⟨a :: x, y, by rw [ex]; rfl, ⟨q, h, e, hx⟩, hy⟩
          · obtain ⟨x, y, ex, hx, j, hy⟩ := (ih u hl q (h1 q h.2)).mp hA
            exact ⟨[], a :: u, rfl, h.1, j + 1, a :: x, y, by rw [ex]; rfl, (h5 a x).mpr ⟨q, h.2, e, hx⟩, hy⟩
        · rintro ⟨x, y, ex, hx, j, hy⟩
          cases x with
          | nil =>
            have ey : y = a :: u := ex.symm
            rw [ey] at hy
            obtain ⟨x', y', e', hx', i, hy'⟩ := pc j a u hy
            obtain ⟨q, hq, e, hA⟩ := (h5 a x').mp hx'
            exact ⟨q, (hφ p q).mpr (Or.inr ⟨hx, hq⟩), e, (ih u hl q (h1 q hq)).mpr ⟨x', y', e', hA, i, hy'⟩⟩
          | cons b x =>
            have e2 := List.cons.inj ex
            obtain ⟨q, h, e, hA⟩ := hx
            exact ⟨q, (hφ p q).mpr (Or.inl h), e.trans e2.1.symm, (ih u hl q (h3 p q hp h)).mpr ⟨x, y, e2.2, hA, j, hy⟩⟩
  refine ⟨h1, h2, ?_, ?_, ?_, ?_⟩
  · intro p q hp h
    rcases (hφ p q).mp h with h | h
    · exact h3 p q hp h
    · exact h1 q h.2
  · rw [h4]
    constructor
    · intro h; exact ⟨1, Nat.le_refl 1, ex_pw_one.mpr h⟩
    · rintro ⟨j, hj, h⟩
      obtain ⟨i, rfl⟩ : ∃ i, j = i + 1 := ⟨j - 1, by omega⟩
      obtain ⟨x, y, e, hx, _⟩ := h
      rw [(List.nil_eq_append_iff.mp e).1] at hx
      exact hx
  · intro a u
    constructor
    · rintro ⟨j, _, h⟩
      obtain ⟨x, y, e, hx, i, hy⟩ := pc j a u h
      obtain ⟨q, hq, e', hA⟩ := (h5 a x).mp hx
      exact ⟨q, hq, e', (key _ u (Nat.le_refl _) q (h1 q hq)).mpr ⟨x, y, e, hA, i, hy⟩⟩
    · rintro ⟨q, hq, e, hA⟩
      obtain ⟨x, y, ex, hx, j, hy⟩ := (key _ u (Nat.le_refl _) q (h1 q hq)).mp hA
      exact ⟨j + 1, by omega, a :: x, y, by rw [ex]; rfl, (h5 a x).mpr ⟨q, hq, e, hx⟩, hy⟩
  · intro p hp
    obtain ⟨u, hu⟩ := h6 p hp
    exact ⟨u, (key _ u (Nat.le_refl _) p hp).mpr ⟨u, [], (List.append_nil u).symm, hu, 0, rfl⟩⟩
/-- a copy, moved up by s -/
theorem gl_shift {φ φ' : Nat → Nat → Prop} {tk tk' : Nat → Nat} {D F Λ D' F' Λ' : Nat → Prop} {em : Prop} {L : List Nat → Prop} (s : Nat) (h : gl_F φ tk D F Λ em L) (hD : ∀ q, D' q ↔ ∃ p, q = p + s ∧ D p) (hF : ∀ q, F' q ↔ ∃ p, q = p + s ∧ F p) (hΛ : ∀ q, Λ' q ↔ ∃ p, q = p + s ∧ Λ p) (ht : ∀ p, D p → tk' (p + s) = tk p) (hφ : ∀ p q, D p → (φ' (p + s) q ↔ ∃ r, q = r + s ∧ φ p r)) : gl_F φ' tk' D' F' Λ' em L := by
  obtain ⟨h1, h2, h3, h4, h5, h6⟩ := h
  have key : ∀ u p, D p → (gl_A φ' tk' Λ' u (p + s) ↔ gl_A φ tk Λ u p) := by
    intro u
    induction u with
    | nil =>
      intro p hp
      constructor
      · intro h
        obtain ⟨r, e, hr⟩ := (hΛ (p + s)).mp h
        have : p = r := by omega
        rw [this]; exact hr
      · intro h; exact (hΛ (p + s)).mpr ⟨p, rfl, h⟩
    | cons a u ih =>
      intro p hp
      constructor
      · rintro ⟨q, h, e, hA⟩
        obtain ⟨r, er, hr⟩ := (hφ p q hp).mp h
        rw [er] at e hA
        exact ⟨r, hr, (ht r (h3 p r hp hr)).symm.trans e, (ih r (h3 p r hp hr)).mp hA⟩
      · rintro ⟨r, hr, e, hA⟩
        exact ⟨r + s, (hφ p _ hp).mpr ⟨r, rfl, hr⟩, (ht r (h3 p r hp hr)).trans e, (ih r (h3 p r hp hr)).mpr hA⟩
  refine ⟨?_, ?_, ?_, h4, ?_, ?_⟩
  · intro q hq
    obtain ⟨p, e, hp⟩ := (hF q).mp hq
    exact (hD q).mpr ⟨p, e, h1 p hp⟩
  · intro q hq
    obtain ⟨p, e, hp⟩ := (hΛ q).mp hq
    exact (hD q).mpr ⟨p, e, h2 p hp⟩
  · intro p q hp h
    obtain ⟨r, e, hr⟩ := (hD p).mp hp
    rw [e] at h
    obtain ⟨t, et, h⟩ := (hφ r q hr).mp h
    exact (hD q).mpr ⟨t, et, h3 r t hr h⟩
  · intro a u
    rw [h5]
    constructor
    · rintro ⟨q, hq, e, hA⟩
      exact ⟨q + s, (hF _).mpr ⟨q, rfl, hq⟩, (ht q (h1 q hq)).trans e, (key u q (h1 q hq)).mpr hA⟩
    · rintro ⟨q, hq, e, hA⟩
      obtain ⟨r, er, hr⟩ := (hF q).mp hq
      rw [er] at e hA
      exact ⟨r, hr, (ht r (h1 r hr)).symm.trans e, (key u r (h1 r hr)).mp hA⟩
  · intro q hq
    obtain ⟨p, e, hp⟩ := (hD q).mp hq
    obtain ⟨u, hu⟩ := h6 p hp
    rw [e]
    exact ⟨u, (key u p hp).mpr hu⟩
/-- a NAME -/
theorem gl_leaf {φ : Nat → Nat → Prop} {tk : Nat → Nat} {p : Nat} (h : ∀ q, ¬ φ p q) : gl_F φ tk (fun q => q = p) (fun q => q = p) (fun q => q = p) False (fun u => u = [tk p]) := by
  refine ⟨fun q h => h, fun q h => h, ?_, ?_, ?_, ?_⟩
  · intro r q hr hq
    rw [hr] at hq
    exact (h q hq).elim
  · constructor
    · intro h; exact h.elim
    · intro h; cases h
  · intro a u
    constructor
    · intro e
      have e' := List.cons.inj e
      exact ⟨p, rfl, e'.1.symm, by rw [e'.2]; exact rfl⟩
    · rintro ⟨q, hq, e, hA⟩
      rw [hq] at e hA
      cases u with
      | nil => rw [e]
      | cons b u =>
        obtain ⟨r, hr, _⟩ := hA
        exact (h r hr).elim
  · intro r hr
    exact ⟨[], hr⟩
/-- NOTHING -/
theorem gl_none {φ : Nat → Nat → Prop} {tk : Nat → Nat} : gl_F φ tk (fun _ => False) (fun _ => False) (fun _ => False) True (fun u => u = []) := by
  refine ⟨fun q h => h, fun q h => h, fun p q h _ => h, ⟨fun _ => rfl, fun _ => trivial⟩, ?_, fun p h => h.elim⟩
  intro a u
  constructor
  · intro e; cases e
  · rintro ⟨q, h, _⟩; exact h.elim
/-- pairs of positions that rows of the same names lead to -/
def gl_P (φ : Nat → Nat → Prop) (F : Nat → Prop) (nm : Nat → Nat) : Nat → Nat → Nat → Prop
  | 0 => fun p q => F p ∧ F q ∧ nm p = nm q
  | k + 1 => fun p q => nm p = nm q ∧ ∃ p' q', gl_P φ F nm k p' q' ∧ φ p' p ∧ φ q' q
/-- two tokens of which one may stand where the other does -/
def gl_C (L : List Nat → Prop) (g : Nat → Nat) (a b : Nat) : Prop := g a = g b ∧ ∃ u v x y, L (u ++ a :: x) ∧ L (v ++ b :: y) ∧ u.map g = v.map g
theorem gl_P_D {φ : Nat → Nat → Prop} {F D : Nat → Prop} {nm : Nat → Nat} (h1 : ∀ q, F q → D q) (h3 : ∀ p q, D p → φ p q → D q) : ∀ k p q, gl_P φ F nm k p q → D p ∧ D q ∧ nm p = nm q := by
  intro k
  induction k with
  | zero => rintro p q ⟨a, b, c⟩; exact ⟨h1 p a, h1 q b, c⟩
  | succ k ih =>
    rintro p q ⟨c, p', q', h, a, b⟩
    obtain ⟨x, y, _⟩ := ih p' q' h
    exact ⟨h3 p' p x a, h3 q' q y b, c⟩
theorem gl_pairs {φ : Nat → Nat → Prop} {tk : Nat → Nat} {D F Λ : Nat → Prop} {em : Prop} {L : List Nat → Prop} (h : gl_F φ tk D F Λ em L) {g nm : Nat → Nat} (hn : ∀ p, D p → nm p = g (tk p)) (a b : Nat) : (∃ k p q, gl_P φ F nm k p q ∧ tk p = a ∧ tk q = b) ↔ gl_C L g a b := by
  obtain ⟨h1, h2, h3, h4, h5, h6⟩ := h
  constructor
  · rintro ⟨k, p, q, hP, ea, eb⟩
    have key : ∀ k p q, gl_P φ F nm k p q → ∀ x y, gl_A φ tk Λ x p → gl_A φ tk Λ y q → ∃ u v, L (u ++ tk p :: x) ∧ L (v ++ tk q :: y) ∧ u.map g = v.map g := by
      intro k
      induction k with
      | zero =>
        rintro p q ⟨a, b, c⟩ x y hx hy
        exact ⟨[], [], (h5 _ x).mpr ⟨p, a, rfl, hx⟩, (h5 _ y).mpr ⟨q, b, rfl, hy⟩, rfl⟩
      | succ k ih =>
        rintro p q ⟨c, p', q', h, a, b⟩ x y hx hy
        obtain ⟨dp, dq, e⟩ := gl_P_D h1 h3 k p' q' h
        obtain ⟨u, v, hu, hv, ev⟩ := ih p' q' h (tk p :: x) (tk q :: y) ⟨p, a, rfl, hx⟩ ⟨q, b, rfl, hy⟩
        refine ⟨u ++ [tk p'], v ++ [tk q'], ?_, ?_, ?_⟩
        · rw [List.append_assoc]; exact hu
        · rw [List.append_assoc]; exact hv
        · rw [List.map_append, List.map_append, ev]
          show _ ++ [g (tk p')] = _ ++ [g (tk q')]
          rw [← hn p' dp, ← hn q' dq, e]
    obtain ⟨dp, dq, e⟩ := gl_P_D h1 h3 k p q hP
    obtain ⟨x, hx⟩ := h6 p dp
    obtain ⟨y, hy⟩ := h6 q dq
    obtain ⟨u, v, hu, hv, ev⟩ := key k p q hP x y hx hy
    rw [← ea, ← eb]
    exact ⟨by rw [← hn p dp, ← hn q dq, e], u, v, x, y, hu, hv, ev⟩
  · rintro ⟨e, u, v, x, y, hu, hv, ev⟩
    have key : ∀ (u v : List Nat), u.map g = v.map g → ∀ k p q, gl_P φ F nm k p q → gl_A φ tk Λ (u ++ a :: x) p → gl_A φ tk Λ (v ++ b :: y) q → ∃ k p' q', gl_P φ F nm k p' q' ∧ tk p' = a ∧ tk q' = b := by
      intro u
      induction u with
      | nil =>
        intro v hv k p q hP hA hB
        have ev : v = [] := List.map_eq_nil_iff.mp hv.symm
        rw [ev] at hB
        obtain ⟨p1, f1, e1, _⟩ := hA
        obtain ⟨q1, f2, e2, _⟩ := hB
        obtain ⟨dp, dq, _⟩ := gl_P_D h1 h3 k p q hP
        exact ⟨k + 1, p1, q1, ⟨by rw [hn p1 (h3 p p1 dp f1), hn q1 (h3 q q1 dq f2), e1, e2, e], p, q, hP, f1, f2⟩, e1, e2⟩
      | cons c u ih =>
        intro v hv k p q hP hA hB
        cases v with
        | nil => cases hv
        | cons d v =>
          have hv' := List.cons.inj hv
          obtain ⟨p1, f1, e1, hA⟩ := hA
          obtain ⟨q1, f2, e2, hB⟩ := hB
          obtain ⟨dp, dq, _⟩ := gl_P_D h1 h3 k p q hP
          exact ih v hv'.2 (k + 1) p1 q1 ⟨by rw [hn p1 (h3 p p1 dp f1), hn q1 (h3 q q1 dq f2), e1, e2]; exact hv'.1, p, q, hP, f1, f2⟩ hA hB
    cases u with
    | nil =>
      have ev' : v = [] := List.map_eq_nil_iff.mp ev.symm
      rw [ev'] at hv
      obtain ⟨p1, f1, e1, _⟩ := (h5 a x).mp hu
      obtain ⟨q1, f2, e2, _⟩ := (h5 b y).mp hv
      exact ⟨0, p1, q1, ⟨f1, f2, by rw [hn p1 (h1 p1 f1), hn q1 (h1 q1 f2), e1, e2, e]⟩, e1, e2⟩
    | cons c u =>
      cases v with
      | nil => cases ev
      | cons d v =>
        have ev' := List.cons.inj ev
        obtain ⟨p1, f1, e1, hA⟩ := (h5 c _).mp hu
        obtain ⟨q1, f2, e2, hB⟩ := (h5 d _).mp hv
        exact key u v ev'.2 0 p1 q1 ⟨f1, f2, by rw [hn p1 (h1 p1 f1), hn q1 (h1 q1 f2), e1, e2]; exact ev'.1⟩ hA hB
