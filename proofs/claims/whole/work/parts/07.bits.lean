/-! ===== single bits; automata held in ints ===== -/
theorem bb_1 (i : Nat) : bt 1 i = decide (i = 0) := by
  rcases Nat.lt_or_ge i 32 with h | h
  · exact (by decide +kernel : ∀ i, i < 32 → bt 1 i = decide (i = 0)) i h
  · rw [b_big h, decide_eq_false (by omega)]
theorem bb_2 (i : Nat) : bt 2 i = decide (i = 1) := by
  rcases Nat.lt_or_ge i 32 with h | h
  · exact (by decide +kernel : ∀ i, i < 32 → bt 2 i = decide (i = 1)) i h
  · rw [b_big h, decide_eq_false (by omega)]
theorem bb_30 (i : Nat) : bt 1073741824 i = decide (i = 30) := by
  rcases Nat.lt_or_ge i 32 with h | h
  · exact (by decide +kernel : ∀ i, i < 32 → bt 1073741824 i = decide (i = 30)) i h
  · rw [b_big h, decide_eq_false (by omega)]
theorem bb_lt {x : Int32} {i : Nat} (h : bt x i = true) : i < 32 := by
  rcases Nat.lt_or_ge i 32 with h' | h'
  · exact h'
  · rw [b_big h'] at h; cases h
theorem bb_and1 (y : Int32) : (y &&& 1) = 0 ↔ bt y 0 = false := by
  constructor
  · intro h
    have := b_and y 1 0
    rw [h, b_0, bb_1, decide_eq_true rfl, Bool.and_true] at this
    exact this.symm
  · intro h
    apply b_ext
    intro i _
    rw [b_and, bb_1, b_0]
    by_cases e : i = 0
    · rw [e, h]; rfl
    · rw [decide_eq_false e, Bool.and_false]
/-- x >> p & 1 -/
theorem bb_t (x : Int32) {p : Nat} (hp : p < 32) : ((x >>> (nI p &&& 31)) &&& 1) = 0 ↔ bt x p = false := by
  rw [bb_and1, b_sshr p hp x (by omega), if_pos (by omega), Nat.add_zero]
theorem bb_t' (x : Int32) {p : Nat} (hp : p < 32) : ¬ ((x >>> (nI p &&& 31)) &&& 1) = 0 ↔ bt x p = true := by
  rw [bb_t x hp, Bool.not_eq_false]
/-- 1 << p -/
theorem bb_s {p : Nat} (hp : p < 32) (i : Nat) : bt ((1 : Int32) <<< (nI p &&& 31)) i = decide (i = p) := by
  rcases Nat.lt_or_ge i 32 with h | h
  · rw [b_shl p hp 1 h, bb_1]
    by_cases e : i = p
    · rw [decide_eq_true e, decide_eq_true (by omega), decide_eq_true (by omega)]; rfl
    · rw [decide_eq_false e]
      by_cases g : p ≤ i
      · rw [decide_eq_false (p := i - p = 0) (by omega), Bool.and_false]
      · rw [decide_eq_false g, Bool.false_and]
  · rw [b_big h, decide_eq_false (by omega)]
/-- 2 << p -/
theorem bb_s2 {p : Nat} (hp : p < 31) (i : Nat) : bt ((2 : Int32) <<< (nI p &&& 31)) i = decide (i = p + 1) := by
  rcases Nat.lt_or_ge i 32 with h | h
  · rw [b_shl p (by omega) 2 h, bb_2]
    by_cases e : i = p + 1
    · rw [decide_eq_true e, decide_eq_true (by omega), decide_eq_true (by omega)]; rfl
    · rw [decide_eq_false e]
      by_cases g : p ≤ i
      · rw [decide_eq_false (p := i - p = 1) (by omega), Bool.and_false]
      · rw [decide_eq_false g, Bool.false_and]
  · rw [b_big h, decide_eq_false (by omega)]
theorem bb_ne {x : Int32} : x ≠ 0 ↔ ∃ i, bt x i = true := by
  constructor
  · intro h
    apply Classical.byContradiction
    intro hn
    apply h
    apply b_ext
    intro i _
    rw [b_0]
    cases hb : bt x i with
    | false => rfl
    | true => exact (hn ⟨i, hb⟩).elim
  · rintro ⟨i, h⟩ e
    rw [e, b_0] at h
    cases h
theorem bb_orI {x y : Int32} {i : Nat} : bt (x ||| y) i = true ↔ bt x i = true ∨ bt y i = true := by rw [b_or, Bool.or_eq_true]
theorem bb_andI {x y : Int32} {i : Nat} : bt (x &&& y) i = true ↔ bt x i = true ∧ bt y i = true := by rw [b_and, Bool.and_eq_true]
theorem bb_sI {p : Nat} (hp : p < 32) {i : Nat} : bt ((1 : Int32) <<< (nI p &&& 31)) i = true ↔ i = p := by rw [bb_s hp, decide_eq_true_iff]
theorem bb_shlI {s : Nat} (hs : s < 32) {x : Int32} {i : Nat} (hi : i < 32) : bt (x <<< (nI s &&& 31)) i = true ↔ ∃ j, i = j + s ∧ bt x j = true := by
  rw [b_shl s hs x hi, Bool.and_eq_true, decide_eq_true_iff]
  constructor
  · rintro ⟨h1, h2⟩; exact ⟨i - s, by omega, h2⟩
  · rintro ⟨j, h1, h2⟩
    refine ⟨by omega, ?_⟩
    rw [show i - s = j by omega]; exact h2
/-- x & ~y -/
theorem bb_notI {x y : Int32} {i : Nat} : bt (x &&& (y ^^^ (-1))) i = true ↔ bt x i = true ∧ bt y i = false := by
  rw [bb_andI]
  constructor
  · rintro ⟨h1, h2⟩
    refine ⟨h1, ?_⟩
    rw [b_xor, b_m1 i (bb_lt h1)] at h2
    cases hb : bt y i with
    | false => rfl
    | true => rw [hb] at h2; cases h2
  · rintro ⟨h1, h2⟩
    refine ⟨h1, ?_⟩
    rw [b_xor, b_m1 i (bb_lt h1), h2]; rfl
theorem bb_eqI {x y : Int32} (h : ∀ i, bt x i = true ↔ bt y i = true) : x = y := by
  apply b_ext
  intro i _
  exact Bool.eq_iff_iff.mpr (h i)
/-- what follows the states of S: the first m looked at -/
def xa_fl (fo : Nat → Int32) (S : Int32) : Nat → Int32
  | 0 => 0
  | m + 1 => if bt S m = true then xa_fl fo S m ||| fo m else xa_fl fo S m
theorem xa_flI {fo : Nat → Int32} {S : Int32} {q : Nat} : ∀ m, bt (xa_fl fo S m) q = true ↔ ∃ s, s < m ∧ bt S s = true ∧ bt (fo s) q = true := by
  intro m
  induction m with
  | zero =>
    constructor
    · intro h
      have h' : bt 0 q = true := h
      rw [b_0] at h'; cases h'
    · rintro ⟨s, h, _⟩; omega
  | succ m ih =>
    unfold xa_fl
    by_cases hS : bt S m = true
    · rw [if_pos hS, bb_orI, ih]
      constructor
      · rintro (⟨s, h1, h2⟩ | h)
        · exact ⟨s, by omega, h2⟩
        · exact ⟨m, by omega, hS, h⟩
      · rintro ⟨s, h1, h2, h3⟩
        by_cases e : s = m
        · rw [e] at h3; exact Or.inr h3
        · exact Or.inl ⟨s, by omega, h2, h3⟩
    · rw [if_neg hS, ih]
      constructor
      · rintro ⟨s, h1, h2⟩; exact ⟨s, by omega, h2⟩
      · rintro ⟨s, h1, h2, h3⟩
        have : s ≠ m := fun e => hS (e ▸ h2)
        exact ⟨s, by omega, h2, h3⟩
def xa_step (fo be : Nat → Int32) (S : Int32) (n : Nat) : Int32 := xa_fl fo S 31 &&& be n
def xa_run (fo be : Nat → Int32) : Int32 → List Nat → Int32
  | S, [] => S
  | S, n :: w => xa_run fo be (xa_step fo be S n) w
theorem xa_run_app (fo be : Nat → Int32) : ∀ (u v : List Nat) (S : Int32), xa_run fo be S (u ++ v) = xa_run fo be (xa_run fo be S u) v := by
  intro u
  induction u with
  | nil => intro v S; rfl
  | cons a u ih => intro v S; exact ih v _
/-- w is taken from state s -/
def xa_B (fo be : Nat → Int32) (ac : Int32) : List Nat → Nat → Prop
  | [] => fun s => bt ac s = true
  | n :: w => fun s => ∃ q, bt (fo s) q = true ∧ bt (be n) q = true ∧ xa_B fo be ac w q
def xa_N (w : List Nat) : Prop := ∀ x, x ∈ w → x < 6
def xa_OK (fo be : Nat → Int32) (ac : Int32) (L : List Nat → Prop) : Prop :=
  (∀ w, xa_N w → (xa_B fo be ac w 30 ↔ L w)) ∧ (∀ w, L w → xa_N w) ∧
  (∀ s q, s < 31 → bt (fo s) q = true → q < 30 ∧ (∃ n, n < 6 ∧ bt (be n) q = true) ∧ ∃ w, xa_N w ∧ xa_B fo be ac w q)
theorem xa_N_cons {n : Nat} {w : List Nat} : xa_N (n :: w) ↔ n < 6 ∧ xa_N w := by
  constructor
  · intro h; exact ⟨h n List.mem_cons_self, fun x hx => h x (List.mem_cons_of_mem _ hx)⟩
  · rintro ⟨h1, h2⟩ x hx
    rcases List.mem_cons.mp hx with e | hx
    · rw [e]; exact h1
    · exact h2 x hx
theorem xa_N_app {u v : List Nat} : xa_N (u ++ v) ↔ xa_N u ∧ xa_N v := by
  constructor
  · intro h; exact ⟨fun x hx => h x (List.mem_append.mpr (Or.inl hx)), fun x hx => h x (List.mem_append.mpr (Or.inr hx))⟩
  · rintro ⟨h1, h2⟩ x hx
    rcases List.mem_append.mp hx with hx | hx
    · exact h1 x hx
    · exact h2 x hx
/-- the states of a set lie among 0 .. 30 -/
def xa_D (S : Int32) : Prop := ∀ s, bt S s = true → s < 31
theorem xa_D_step {fo be : Nat → Int32} {ac : Int32} {L : List Nat → Prop} (h : xa_OK fo be ac L) (S : Int32) (n : Nat) : xa_D (xa_step fo be S n) := by
  intro q hq
  obtain ⟨s, h1, _, h3⟩ := (xa_flI 31).mp (bb_andI.mp hq).1
  have := (h.2.2 s q h1 h3).1
  omega
theorem xa_D_run {fo be : Nat → Int32} {ac : Int32} {L : List Nat → Prop} (h : xa_OK fo be ac L) : ∀ w S, xa_D S → xa_D (xa_run fo be S w) := by
  intro w
  induction w with
  | nil => intro S hS; exact hS
  | cons n w ih => intro S _; exact ih _ (xa_D_step h S n)
theorem xa_run_B {fo be : Nat → Int32} {ac : Int32} {L : List Nat → Prop} (h : xa_OK fo be ac L) (v : List Nat) : ∀ w S, xa_D S → ((∃ q, bt (xa_run fo be S w) q = true ∧ xa_B fo be ac v q) ↔ ∃ s, bt S s = true ∧ xa_B fo be ac (w ++ v) s) := by
  intro w
  induction w with
  | nil => intro S _; exact Iff.rfl
  | cons n w ih =>
    intro S hS
    show (∃ q, bt (xa_run fo be (xa_step fo be S n) w) q = true ∧ _) ↔ _
    rw [ih _ (xa_D_step h S n)]
    constructor
    · rintro ⟨q, hq, hB⟩
      obtain ⟨h1, h2⟩ := bb_andI.mp hq
      obtain ⟨s, _, h4, h5⟩ := (xa_flI 31).mp h1
      exact ⟨s, h4, q, h5, h2, hB⟩
    · rintro ⟨s, h4, q, h5, h2, hB⟩
      exact ⟨q, bb_andI.mpr ⟨(xa_flI 31).mpr ⟨s, hS s h4, h4, h5⟩, h2⟩, hB⟩
theorem xa_D30 : xa_D 1073741824 := by
  intro s hs
  rw [bb_30, decide_eq_true_iff] at hs
  omega
/-- a word is taken if and only if it is one -/
theorem xa_acc {fo be : Nat → Int32} {ac : Int32} {L : List Nat → Prop} (h : xa_OK fo be ac L) {w : List Nat} (hw : xa_N w) : (xa_run fo be 1073741824 w &&& ac) ≠ 0 ↔ L w := by
  rw [bb_ne, ← h.1 w hw]
  have := xa_run_B h [] w 1073741824 xa_D30
  rw [List.append_nil] at this
  constructor
  · rintro ⟨i, hi⟩
    obtain ⟨h1, h2⟩ := bb_andI.mp hi
    obtain ⟨s, hs, hB⟩ := this.mp ⟨i, h1, h2⟩
    rw [bb_30, decide_eq_true_iff] at hs
    rw [← hs]; exact hB
  · intro hB
    obtain ⟨q, h1, h2⟩ := this.mpr ⟨30, by rw [bb_30, decide_eq_true_iff], hB⟩
    exact ⟨q, bb_andI.mpr ⟨h1, h2⟩⟩
/-- states are left if and only if a word begins so -/
theorem xa_pre {fo be : Nat → Int32} {ac : Int32} {L : List Nat → Prop} (h : xa_OK fo be ac L) {w : List Nat} (hw : xa_N w) (hne : ∃ u, L u) : xa_run fo be 1073741824 w ≠ 0 ↔ ∃ v, L (w ++ v) := by
  rw [bb_ne]
  constructor
  · rintro ⟨q, hq⟩
    have hv : ∃ v, xa_N v ∧ xa_B fo be ac v q := by
      rcases List.eq_nil_or_concat w with e | ⟨w', n, e⟩
      · rw [e] at hq
        have hq' : bt 1073741824 q = true := hq
        rw [bb_30, decide_eq_true_iff] at hq'
        obtain ⟨u, hu⟩ := hne
        exact ⟨u, h.2.1 u hu, by rw [hq']; exact (h.1 u (h.2.1 u hu)).mpr hu⟩
      · rw [e, List.concat_eq_append, xa_run_app] at hq
        obtain ⟨s, h1, _, h3⟩ := (xa_flI 31).mp (bb_andI.mp hq).1
        exact (h.2.2 s q h1 h3).2.2
    obtain ⟨v, hN, hv⟩ := hv
    obtain ⟨s, hs, hB⟩ := (xa_run_B h v w 1073741824 xa_D30).mp ⟨q, hq, hv⟩
    rw [bb_30, decide_eq_true_iff] at hs
    rw [hs] at hB
    exact ⟨v, (h.1 _ (xa_N_app.mpr ⟨hw, hN⟩)).mp hB⟩
  · rintro ⟨v, hv⟩
    have hB := (h.1 _ (h.2.1 _ hv)).mpr hv
    obtain ⟨q, hq, _⟩ := (xa_run_B h v w 1073741824 xa_D30).mpr ⟨30, by rw [bb_30, decide_eq_true_iff], hB⟩
    exact ⟨q, hq⟩
def xa_fls (fo : Nat → Int32) : Nat → Int32 → Int32
  | 0, S => S
  | m + 1, S => xa_fls fo m (xa_fl fo S 31)
/-- m steps more, by whatever names -/
theorem xa_far {fo be : Nat → Int32} {ac : Int32} {L : List Nat → Prop} (h : xa_OK fo be ac L) : ∀ m S, xa_D S → ((xa_fls fo m S &&& ac) ≠ 0 ↔ ∃ w, w.length = m ∧ xa_N w ∧ ∃ s, bt S s = true ∧ xa_B fo be ac w s) := by
  intro m
  induction m with
  | zero =>
    intro S _
    rw [bb_ne]
    constructor
    · rintro ⟨i, hi⟩
      obtain ⟨h1, h2⟩ := bb_andI.mp hi
      exact ⟨[], rfl, (fun x hx => by cases hx), i, h1, h2⟩
    · rintro ⟨w, hw, _, s, hs, hB⟩
      rw [List.length_eq_zero_iff.mp hw] at hB
      exact ⟨s, bb_andI.mpr ⟨hs, hB⟩⟩
  | succ m ih =>
    intro S hS
    have hD : xa_D (xa_fl fo S 31) := by
      intro q hq
      obtain ⟨s, h1, _, h3⟩ := (xa_flI 31).mp hq
      have := (h.2.2 s q h1 h3).1
      omega
    show (xa_fls fo m (xa_fl fo S 31) &&& ac) ≠ 0 ↔ _
    rw [ih _ hD]
    constructor
    · rintro ⟨w, hl, hN, q, hq, hB⟩
      obtain ⟨s, h1, h2, h3⟩ := (xa_flI 31).mp hq
      obtain ⟨_, ⟨n, hn, hb⟩, _⟩ := h.2.2 s q h1 h3
      exact ⟨n :: w, by rw [List.length_cons, hl], xa_N_cons.mpr ⟨hn, hN⟩, s, h2, q, h3, hb, hB⟩
    · rintro ⟨w, hl, hN, s, hs, hB⟩
      cases w with
      | nil => cases hl
      | cons n w =>
        obtain ⟨q, h3, hb, hB⟩ := hB
        rw [List.length_cons] at hl
        exact ⟨w, by omega, (xa_N_cons.mp hN).2, q, (xa_flI 31).mpr ⟨s, hS s hs, hs, h3⟩, hB⟩
theorem xa_lack {fo be : Nat → Int32} {ac : Int32} {L : List Nat → Prop} (h : xa_OK fo be ac L) {w : List Nat} (hw : xa_N w) (m : Nat) : (xa_fls fo m (xa_run fo be 1073741824 w) &&& ac) ≠ 0 ↔ ∃ v, v.length = m ∧ L (w ++ v) := by
  rw [xa_far h m _ (xa_D_run h w _ xa_D30)]
  constructor
  · rintro ⟨v, hl, hN, q, hq, hB⟩
    obtain ⟨s, hs, hB⟩ := (xa_run_B h v w 1073741824 xa_D30).mp ⟨q, hq, hB⟩
    rw [bb_30, decide_eq_true_iff] at hs
    rw [hs] at hB
    exact ⟨v, hl, (h.1 _ (xa_N_app.mpr ⟨hw, hN⟩)).mp hB⟩
  · rintro ⟨v, hl, hv⟩
    have hN := h.2.1 _ hv
    have hB := (h.1 _ hN).mpr hv
    obtain ⟨q, hq, hB⟩ := (xa_run_B h v w 1073741824 xa_D30).mpr ⟨30, by rw [bb_30, decide_eq_true_iff], hB⟩
    exact ⟨v, hl, (xa_N_app.mp hN).2, q, hq, hB⟩
/-- the automaton of a whole fragment -/
theorem xa_of {φ : Nat → Nat → Prop} {tk g : Nat → Nat} {P : Nat} {F Λ : Nat → Prop} {em : Prop} {L : List Nat → Prop} {fo be : Nat → Int32} {ac : Int32} (h : gl_F φ tk (fun p => p < P) F Λ em L) (hP : P ≤ 30) (hg : ∀ p, p < P → g (tk p) < 6)
    (h1 : ∀ p q, p < P → (bt (fo p) q = true ↔ φ p q)) (h2 : ∀ p q, P ≤ p → p < 30 → bt (fo p) q = false) (h3 : ∀ q, bt (fo 30) q = true ↔ F q)
    (h4 : ∀ s, s < 30 → (bt ac s = true ↔ Λ s)) (h5 : bt ac 30 = true ↔ em) (h6 : ∀ n q, n < 6 → (bt (be n) q = true ↔ q < P ∧ g (tk q) = n)) : xa_OK fo be ac (fun w => ∃ u, L u ∧ u.map g = w) := by
  obtain ⟨a1, a2, a3, a4, a5, a6⟩ := h
  have key : ∀ (w : List Nat) p, xa_N w → p < P → (xa_B fo be ac w p ↔ ∃ u, u.map g = w ∧ gl_A φ tk Λ u p) := by
    intro w
    induction w with
    | nil =>
      intro p _ hp
      constructor
      · intro hb; exact ⟨[], rfl, (h4 p (by omega)).mp hb⟩
      · rintro ⟨u, hu, hA⟩
        rw [List.map_eq_nil_iff.mp hu] at hA
        exact (h4 p (by omega)).mpr hA
    | cons n w ih =>
      intro p hN hp
      obtain ⟨hn, hN⟩ := xa_N_cons.mp hN
      constructor
      · rintro ⟨q, b1, b2, b3⟩
        have f1 := (h1 p q hp).mp b1
        have hq := a3 p q hp f1
        obtain ⟨u, hu, hA⟩ := (ih q hN hq).mp b3
        obtain ⟨_, e⟩ := (h6 n q hn).mp b2
        exact ⟨tk q :: u, by rw [List.map_cons, hu, e], q, f1, rfl, hA⟩
      · rintro ⟨u, hu, hA⟩
        cases u with
        | nil => cases hu
        | cons a u =>
          have hu' := List.cons.inj hu
          obtain ⟨q, f1, e, hA⟩ := hA
          have hq := a3 p q hp f1
          exact ⟨q, (h1 p q hp).mpr f1, (h6 n q hn).mpr ⟨hq, by rw [e]; exact hu'.1⟩, (ih q hN hq).mpr ⟨u, hu'.2, hA⟩⟩
  have names : ∀ (u : List Nat) p, p < P → gl_A φ tk Λ u p → xa_N (u.map g) := by
    intro u
    induction u with
    | nil => intro p _ _ x hx; cases hx
    | cons a u ih =>
      rintro p hp ⟨q, f1, e, hA⟩
      have hq := a3 p q hp f1
      rw [List.map_cons]
      exact xa_N_cons.mpr ⟨by rw [← e]; exact hg q hq, ih q hq hA⟩
  refine ⟨?_, ?_, ?_⟩
  · intro w hN
    cases w with
    | nil =>
      constructor
      · intro hb; exact ⟨[], a4.mp (h5.mp hb), rfl⟩
      · rintro ⟨u, hu, e⟩
        rw [List.map_eq_nil_iff.mp e] at hu
        exact h5.mpr (a4.mpr hu)
    | cons n w =>
      obtain ⟨hn, hN⟩ := xa_N_cons.mp hN
      constructor
      · rintro ⟨q, b1, b2, b3⟩
        have f1 := (h3 q).mp b1
        have hq := a1 q f1
        obtain ⟨u, hu, hA⟩ := (key w q hN hq).mp b3
        obtain ⟨_, e⟩ := (h6 n q hn).mp b2
        exact ⟨tk q :: u, (a5 _ u).mpr ⟨q, f1, rfl, hA⟩, by rw [List.map_cons, hu, e]⟩
      · rintro ⟨u, hu, e⟩
        cases u with
        | nil => cases e
        | cons a u =>
          have e' := List.cons.inj e
          obtain ⟨q, f1, eq, hA⟩ := (a5 a u).mp hu
          have hq := a1 q f1
          exact ⟨q, (h3 q).mpr f1, (h6 n q hn).mpr ⟨hq, by rw [eq]; exact e'.1⟩, (key w q hN hq).mpr ⟨u, e'.2, hA⟩⟩
  · rintro w ⟨u, hu, e⟩
    rw [← e]
    cases u with
    | nil => intro x hx; cases hx
    | cons a u =>
      obtain ⟨q, f1, eq, hA⟩ := (a5 a u).mp hu
      have hq := a1 q f1
      rw [List.map_cons]
      exact xa_N_cons.mpr ⟨by rw [← eq]; exact hg q hq, names u q hq hA⟩
  · intro s q hs hb
    have hq : q < P := by
      by_cases e : s = 30
      · rw [e] at hb; exact a1 q ((h3 q).mp hb)
      · rcases Nat.lt_or_ge s P with g1 | g1
        · exact a3 s q g1 ((h1 s q g1).mp hb)
        · rw [h2 s q g1 (by omega)] at hb; cases hb
    obtain ⟨u, hu⟩ := a6 q hq
    refine ⟨by omega, ⟨g (tk q), hg q hq, (h6 _ q (hg q hq)).mpr ⟨hq, rfl⟩⟩, u.map g, names u q hq hu, ?_⟩
    exact (key _ q (names u q hq hu) hq).mpr ⟨u, rfl, hu⟩
