/-! ===== what the reference's tables hold: one lemma a kind of token ===== -/
def ex_sh : ex_T → Nat
  | .var _ => 1
  | .num _ => 0
  | .natCast _ => 0
  | .intCast _ => 0
  | .neg _ => 0
  | .add a b => if ex_sh a < ex_sh b then ex_sh a else ex_sh b
  | .mul a b => ex_sh a + ex_sh b
  | .sub a b => ex_sh a + ex_sh b
  | .pow a k => ex_lo k * ex_sh a
theorem dp_s_cat {A B : List Nat → Prop} {s t : Nat} (hA : dp_s A s) (hB : dp_s B t) : dp_s (ex_cat A B) (s + t) := by
  obtain ⟨⟨x, lx, hx⟩, h2⟩ := hA
  obtain ⟨⟨y, ly, hy⟩, h4⟩ := hB
  refine ⟨⟨x ++ y, by rw [List.length_append, lx, ly], x, y, rfl, hx, hy⟩, ?_⟩
  rintro q ⟨a, b, e, ha, hb⟩
  have := h2 a ha
  have := h4 b hb
  rw [e, List.length_append]
  omega
theorem ex_sh_s (f : Nat → Nat) : ∀ (R : ex_T), ex_W R → dp_s (ex_L f R) (ex_sh R) ∧ ex_sh R ≤ ex_w R := by
  intro R
  induction R with
  | num k => intro _; exact ⟨⟨⟨[], rfl, rfl⟩, fun q _ => Nat.zero_le _⟩, Nat.le_refl _⟩
  | natCast k => intro _; exact ⟨⟨⟨[], rfl, rfl⟩, fun q _ => Nat.zero_le _⟩, Nat.le_refl _⟩
  | intCast k => intro _; exact ⟨⟨⟨[], rfl, rfl⟩, fun q _ => Nat.zero_le _⟩, Nat.le_refl _⟩
  | var i => intro _; exact ⟨⟨⟨[f i], rfl, rfl⟩, fun q hq => by rw [show q = [f i] from hq]; exact Nat.le_refl 1⟩, Nat.le_refl _⟩
  | neg a ih => intro _; exact ⟨⟨⟨[], rfl, Or.inl rfl⟩, fun q _ => Nat.zero_le _⟩, Nat.zero_le _⟩
  | add a b iha ihb =>
    intro h
    obtain ⟨⟨⟨x, lx, hx⟩, h2⟩, h3⟩ := iha h.1
    obtain ⟨⟨⟨y, ly, hy⟩, h4⟩, h5⟩ := ihb h.2
    simp only [ex_sh, ex_w]
    by_cases hlt : ex_sh a < ex_sh b
    · rw [if_pos hlt]
      refine ⟨⟨⟨x, lx, Or.inl hx⟩, ?_⟩, by omega⟩
      rintro q (hq | hq)
      · exact h2 q hq
      · have := h4 q hq; omega
    · rw [if_neg hlt]
      refine ⟨⟨⟨y, ly, Or.inr hy⟩, ?_⟩, by omega⟩
      rintro q (hq | hq)
      · have := h2 q hq; omega
      · exact h4 q hq
  | mul a b iha ihb =>
    intro h
    obtain ⟨h1, h2⟩ := iha h.1
    obtain ⟨h3, h4⟩ := ihb h.2
    simp only [ex_sh, ex_w]
    exact ⟨dp_s_cat h1 h3, by omega⟩
  | sub a b iha ihb =>
    intro h
    obtain ⟨h1, h2⟩ := iha h.1
    obtain ⟨h3, h4⟩ := ihb h.2
    have c1 := dp_s_cat h1 h3
    have c2 := dp_s_cat h3 h1
    simp only [ex_sh, ex_w]
    refine ⟨⟨?_, ?_⟩, by omega⟩
    · obtain ⟨q, lq, hq⟩ := c1.1
      exact ⟨q, lq, Or.inl hq⟩
    · rintro q (hq | hq)
      · exact c1.2 q hq
      · have := c2.2 q hq; omega
  | pow a k ih =>
    intro h
    obtain ⟨h1, h2⟩ := ih h.1
    simp only [ex_sh, ex_w]
    refine ⟨⟨?_, ?_⟩, ?_⟩
    · obtain ⟨q, lq, hq⟩ := (dp_s_pw h1 (ex_lo k)).1
      exact ⟨q, lq, ex_lo k, Nat.le_refl _, ex_lohi h.2.2, hq⟩
    · rintro q ⟨j, hj, _, hq⟩
      have h3 := (dp_s_pw h1 j).2 q hq
      have h4 : ex_lo k * ex_sh a ≤ j * ex_sh a := Nat.mul_le_mul_right _ hj
      omega
    · have h5 : ex_lo k ≤ ex_m k := by
        unfold ex_lo ex_m
        by_cases hk : k < 16
        · rw [if_pos hk, if_pos hk]; exact (h.2.2 hk).1
        · rw [if_neg hk, if_neg hk]; have := h.2.1; omega
      exact Nat.mul_le_mul h5 h2
/-- NAME -/
theorem dp_var_E {f : Nat → Nat} {w : Nat → Nat} {i a m : Nat} : dp_E (ex_L f (.var i)) w a m ↔ m = a + 1 ∧ w a = f i := by
  constructor
  · rintro ⟨h1, h2⟩
    have h2' : dp_sl w (m - a) a = [f i] := h2
    have hl : (dp_sl w (m - a) a).length = 1 := by rw [h2']; rfl
    rw [dp_sl_len] at hl
    rw [hl] at h2'
    have h3 : [w a] = [f i] := h2'
    exact ⟨by omega, (List.cons.inj h3).1⟩
  · rintro ⟨h1, h2⟩
    refine ⟨by omega, ?_⟩
    show dp_sl w (m - a) a = [f i]
    rw [show m - a = 1 by omega, ← h2]
    rfl
theorem dp_var_M {f : Nat → Nat} {w : Nat → Nat} {i n a : Nat} (ha : a ≤ n) : dp_M 1 (dp_K (ex_L f (.var i)) w n a) (if a = n then 1 else if w a = f i ∧ a + 1 = n then 0 else 100000) := by
  by_cases h : a = n
  · rw [if_pos h]
    left
    refine ⟨⟨[f i], rfl, ?_⟩, Nat.le_refl 1, ?_⟩
    · show _ = _
      rw [show n - a = 0 by omega]; rfl
    · rintro d ⟨v, lv, hv⟩
      have hv' : dp_sl w (n - a) a ++ v = [f i] := hv
      rw [show n - a = 0 by omega] at hv'
      have : v = [f i] := hv'
      rw [← lv, this]; exact Nat.le_refl 1
  · rw [if_neg h]
    by_cases h2 : w a = f i ∧ a + 1 = n
    · rw [if_pos h2]
      left
      refine ⟨⟨[], rfl, ?_⟩, Nat.zero_le _, fun d _ => Nat.zero_le _⟩
      show dp_sl w (n - a) a ++ [] = [f i]
      rw [show n - a = 1 by omega, ← h2.1]; rfl
    · rw [if_neg h2]
      right
      refine ⟨rfl, ?_⟩
      rintro d ⟨v, lv, hv⟩
      have hv' : dp_sl w (n - a) a ++ v = [f i] := hv
      have hl : (dp_sl w (n - a) a ++ v).length = 1 := by rw [hv']; rfl
      rw [List.length_append, dp_sl_len] at hl
      rw [show n - a = 1 by omega] at hv'
      have h3 : w a :: v = [f i] := hv'
      exact h2 ⟨(List.cons.inj h3).1, by omega⟩
/-- NOTHING -/
theorem dp_eps_E {w : Nat → Nat} {a m : Nat} : dp_E (fun u => u = []) w a m ↔ m = a := by
  constructor
  · rintro ⟨h1, h2⟩
    have h2' : dp_sl w (m - a) a = [] := h2
    have hl : (dp_sl w (m - a) a).length = 0 := by rw [h2']; rfl
    rw [dp_sl_len] at hl
    omega
  · intro h
    refine ⟨by omega, ?_⟩
    rw [h, Nat.sub_self]; rfl
theorem dp_eps_M {w : Nat → Nat} {n a : Nat} (ha : a ≤ n) : dp_M 0 (dp_K (fun u => u = []) w n a) (if a = n then 0 else 100000) := by
  by_cases h : a = n
  · rw [if_pos h]
    left
    refine ⟨⟨[], rfl, ?_⟩, Nat.le_refl 0, fun d _ => Nat.zero_le _⟩
    rw [show n - a = 0 by omega]; rfl
  · rw [if_neg h]
    right
    refine ⟨rfl, ?_⟩
    rintro d ⟨v, lv, hv⟩
    have hv' := (List.append_eq_nil_iff.mp hv).1
    have hl : (dp_sl w (n - a) a).length = 0 := by rw [hv']; rfl
    rw [dp_sl_len] at hl
    omega
/-- OPTION -/
theorem dp_opt_E {L : List Nat → Prop} {w : Nat → Nat} {a m : Nat} : dp_E (fun u => u = [] ∨ L u) w a m ↔ m = a ∨ dp_E L w a m := by
  rw [← dp_eps_E (w := w)]
  constructor
  · rintro ⟨h1, h2 | h2⟩
    · exact Or.inl ⟨h1, h2⟩
    · exact Or.inr ⟨h1, h2⟩
  · rintro (⟨h1, h2⟩ | ⟨h1, h2⟩)
    · exact ⟨h1, Or.inl h2⟩
    · exact ⟨h1, Or.inr h2⟩
theorem dp_opt_M {B : Nat} {L : List Nat → Prop} {w : Nat → Nat} {n a x : Nat} (ha : a ≤ n) (h : dp_M B (dp_K L w n a) x) : dp_M B (dp_K (fun u => u = [] ∨ L u) w n a) (if a = n then 0 else x) := by
  by_cases e : a = n
  · rw [if_pos e]
    left
    refine ⟨⟨[], rfl, Or.inl ?_⟩, Nat.zero_le _, fun d _ => Nat.zero_le _⟩
    rw [show n - a = 0 by omega]; rfl
  · rw [if_neg e]
    have hk : ∀ d, dp_K (fun u => u = [] ∨ L u) w n a d ↔ dp_K L w n a d := by
      intro d
      constructor
      · rintro ⟨v, lv, hv | hv⟩
        · have hv' := (List.append_eq_nil_iff.mp hv).1
          have hl : (dp_sl w (n - a) a).length = 0 := by rw [hv']; rfl
          rw [dp_sl_len] at hl
          omega
        · exact ⟨v, lv, hv⟩
      · rintro ⟨v, lv, hv⟩; exact ⟨v, lv, Or.inr hv⟩
    rcases h with ⟨h1, h2, h3⟩ | ⟨h1, h2⟩
    · exact Or.inl ⟨(hk x).mpr h1, h2, fun d hd => h3 d ((hk d).mp hd)⟩
    · exact Or.inr ⟨h1, fun d hd => h2 d ((hk d).mp hd)⟩
theorem dp_or_E {A B : List Nat → Prop} {w : Nat → Nat} {a m : Nat} : dp_E (fun u => A u ∨ B u) w a m ↔ dp_E A w a m ∨ dp_E B w a m := by
  constructor
  · rintro ⟨h1, h2 | h2⟩
    · exact Or.inl ⟨h1, h2⟩
    · exact Or.inr ⟨h1, h2⟩
  · rintro (⟨h1, h2⟩ | ⟨h1, h2⟩)
    · exact ⟨h1, Or.inl h2⟩
    · exact ⟨h1, Or.inr h2⟩
theorem dp_or_K {A B : List Nat → Prop} {w : Nat → Nat} {n a d : Nat} : dp_K (fun u => A u ∨ B u) w n a d ↔ dp_K A w n a d ∨ dp_K B w n a d := by
  constructor
  · rintro ⟨v, lv, h2 | h2⟩
    · exact Or.inl ⟨v, lv, h2⟩
    · exact Or.inr ⟨v, lv, h2⟩
  · rintro (⟨v, lv, h2⟩ | ⟨v, lv, h2⟩)
    · exact ⟨v, lv, Or.inl h2⟩
    · exact ⟨v, lv, Or.inr h2⟩
/-- SEQ -/
theorem dp_cat_M {A B : List Nat → Prop} {w : Nat → Nat} {n a s x few p q : Nat} {y : Nat → Nat} (ha : a ≤ n) (hX : dp_M p (dp_K A w n a) x) (hY : ∀ k, k ≤ n → dp_M q (dp_K B w n k) (y k)) (hs : dp_s B s) (hsq : s ≤ q) (hpq : p + q < 100000)
    (f1 : few = 100000 ∨ few = x + s ∨ ∃ k, k ≤ n ∧ dp_E A w a k ∧ few = y k) (f2 : few ≤ 100000) (f3 : few ≤ x + s) (f4 : ∀ k, k ≤ n → dp_E A w a k → few ≤ y k) : dp_M (p + q) (dp_K (ex_cat A B) w n a) few := by
  refine dp_fin (C := fun c => c = x + s ∨ ∃ k, k ≤ n ∧ dp_E A w a k ∧ c = y k) f1 ?_ f2 ?_ ?_
  · rintro c (e | ⟨k, hk, hE, e⟩)
    · omega
    · have := f4 k hk hE; omega
  · rintro c (e | ⟨k, hk, hE, e⟩) hc
    · rcases hX with ⟨h1, h2, _⟩ | ⟨h1, _⟩
      · obtain ⟨v, lv, hv⟩ := hs.1
        exact ⟨(dp_K_cat ha).mpr (Or.inl ⟨x, s, e, h1, v, lv, hv⟩), by omega⟩
      · omega
    · rcases hY k hk with ⟨h1, h2, _⟩ | ⟨h1, _⟩
      · rw [e]
        exact ⟨(dp_K_cat ha).mpr (Or.inr ⟨k, hk, hE, h1⟩), by omega⟩
      · omega
  · intro d hd
    rcases (dp_K_cat ha).mp hd with ⟨d1, d2, e, h1, v, lv, hv⟩ | ⟨k, hk, hE, h1⟩
    · have h2 := hs.2 v hv
      rcases hX with ⟨h3, h4, h5⟩ | ⟨_, h3⟩
      · have := h5 d1 h1
        exact ⟨x + s, Or.inl rfl, by omega, by omega⟩
      · exact (h3 d1 h1).elim
    · rcases hY k hk with ⟨h3, h4, h5⟩ | ⟨_, h3⟩
      · have := h5 d h1
        exact ⟨y k, Or.inr ⟨k, hk, hE, rfl⟩, this, by omega⟩
      · exact (h3 d h1).elim
/-- STAR and PLUS -/
theorem dp_rep {L : List Nat → Prop} {w : Nat → Nat} {n a B lo few : Nat} {lk : Nat → Nat} {A S : Nat → Prop} (hlo : lo ≤ 1) (ha : a ≤ n) (hB : B < 100000) (hM : ∀ m, m ≤ n → dp_M B (dp_K L w n m) (lk m))
    (a1 : A a) (a2 : ∀ m, A m → m ≤ n ∧ ∃ i, dp_ch L w i a m) (a3 : ∀ m k, A m → k ≤ n → dp_E L w m k → A k)
    (s1 : ∀ m, S m → m ≤ n ∧ ∃ i, lo ≤ i ∧ dp_ch L w i a m) (s2 : ∀ m, A m → (lo = 0 ∨ m ≠ a ∨ dp_E L w a a) → S m)
    (f1 : few = 100000 ∨ (few = 0 ∧ S n) ∨ ∃ m, A m ∧ few = lk m) (f2 : S n → few = 0) (f3 : ∀ m, A m → few ≤ lk m) (f4 : few ≤ 100000) :
    (∀ m, m ≤ n → (S m ↔ dp_E (fun u => ∃ j, lo ≤ j ∧ ex_pw L j u) w a m)) ∧ dp_M B (dp_K (fun u => ∃ j, lo ≤ j ∧ ex_pw L j u) w n a) few := by
  have hS : ∀ m, m ≤ n → (S m ↔ ∃ j, lo ≤ j ∧ dp_ch L w j a m) := by
    intro m hm
    constructor
    · intro h; exact (s1 m h).2
    · rintro ⟨j, hj, hc⟩
      refine s2 m (dp_clo a1 a3 j m hm hc) ?_
      by_cases h0 : lo = 0
      · exact Or.inl h0
      · by_cases e : m = a
        · rw [e] at hc
          obtain ⟨i, rfl⟩ : ∃ i, j = i + 1 := ⟨j - 1, by omega⟩
          exact Or.inr (Or.inr (dp_ch_loop hc))
        · exact Or.inr (Or.inl e)
  have hE : ∀ m, dp_E (fun u => ∃ j, lo ≤ j ∧ ex_pw L j u) w a m ↔ ∃ j, lo ≤ j ∧ dp_ch L w j a m := by
    intro m
    constructor
    · rintro ⟨h1, j, hj, h2⟩; exact ⟨j, hj, (dp_E_pw j a m).mp ⟨h1, h2⟩⟩
    · rintro ⟨j, hj, h2⟩
      obtain ⟨h3, h4⟩ := (dp_E_pw j a m).mpr h2
      exact ⟨h3, j, hj, h4⟩
  have hK : ∀ d, dp_K (fun u => ∃ j, lo ≤ j ∧ ex_pw L j u) w n a d ↔ ∃ j, lo ≤ j ∧ dp_K (ex_pw L j) w n a d := by
    intro d
    constructor
    · rintro ⟨v, lv, j, hj, hv⟩; exact ⟨j, hj, v, lv, hv⟩
    · rintro ⟨j, hj, v, lv, hv⟩; exact ⟨v, lv, j, hj, hv⟩
  refine ⟨fun m hm => by rw [hS m hm, hE m], ?_⟩
  refine dp_fin (C := fun c => (c = 0 ∧ S n) ∨ ∃ m, A m ∧ c = lk m) f1 ?_ f4 ?_ ?_
  · rintro c (⟨e, h⟩ | ⟨m, hm, e⟩)
    · have := f2 h; omega
    · have := f3 m hm; omega
  · rintro c (⟨e, h⟩ | ⟨m, hm, e⟩) hc
    · obtain ⟨j, hj, h2⟩ := (hS n (Nat.le_refl n)).mp h
      rw [e]
      exact ⟨(hK 0).mpr ⟨j, hj, (dp_K_pw j a 0 ha).mpr (Or.inl ⟨rfl, h2⟩)⟩, Nat.zero_le _⟩
    · obtain ⟨hmn, i, hi⟩ := a2 m hm
      rcases hM m hmn with ⟨h1, h2, _⟩ | ⟨h1, _⟩
      · rw [e]
        exact ⟨(hK _).mpr ⟨i + 1, by omega, (dp_K_pw (i + 1) a _ ha).mpr (Or.inr ⟨i, 0, m, lk m, 0, rfl, hmn, hi, h1, rfl, [], rfl, rfl⟩)⟩, h2⟩
      · omega
  · intro d hd
    obtain ⟨j, hj, hd⟩ := (hK d).mp hd
    rcases (dp_K_pw j a d ha).mp hd with ⟨e, h⟩ | ⟨i, r, m, d1, d2, _, hmn, hc, h1, e, _⟩
    · exact ⟨0, Or.inl ⟨rfl, (hS n (Nat.le_refl n)).mpr ⟨j, hj, h⟩⟩, by omega, by omega⟩
    · have hA := dp_clo a1 a3 i m hmn hc
      rcases hM m hmn with ⟨_, h2, h3⟩ | ⟨_, h2⟩
      · have := h3 d1 h1
        exact ⟨lk m, Or.inr ⟨m, hA, rfl⟩, by omega, by omega⟩
      · exact (h2 d1 h1).elim
/-- TIMES -/
theorem dp_tms {L : List Nat → Prop} {w : Nat → Nat} {n a B lo hi few s : Nat} {lk : Nat → Nat} {S : Nat → Prop} (hlh : lo ≤ hi) (ha : a ≤ n) (hB : hi * B < 100000) (hM : ∀ m, m ≤ n → dp_M B (dp_K L w n m) (lk m)) (hs : dp_s L s) (hsB : s ≤ B)
    (s1 : ∀ m, m ≤ n → (S m ↔ ∃ j, lo ≤ j ∧ j ≤ hi ∧ dp_ch L w j a m))
    (f1 : few = 100000 ∨ (few = 0 ∧ S n) ∨ ∃ i m, i < hi ∧ m ≤ n ∧ dp_ch L w i a m ∧ few = lk m + (lo - 1 - i) * s) (f2 : S n → few = 0) (f3 : ∀ i m, i < hi → m ≤ n → dp_ch L w i a m → few ≤ lk m + (lo - 1 - i) * s) (f4 : few ≤ 100000) :
    (∀ m, m ≤ n → (S m ↔ dp_E (fun u => ∃ j, lo ≤ j ∧ j ≤ hi ∧ ex_pw L j u) w a m)) ∧ dp_M (hi * B) (dp_K (fun u => ∃ j, lo ≤ j ∧ j ≤ hi ∧ ex_pw L j u) w n a) few := by
  have hE : ∀ m, dp_E (fun u => ∃ j, lo ≤ j ∧ j ≤ hi ∧ ex_pw L j u) w a m ↔ ∃ j, lo ≤ j ∧ j ≤ hi ∧ dp_ch L w j a m := by
    intro m
    constructor
    · rintro ⟨h1, j, hj, hj2, h2⟩; exact ⟨j, hj, hj2, (dp_E_pw j a m).mp ⟨h1, h2⟩⟩
    · rintro ⟨j, hj, hj2, h2⟩
      obtain ⟨h3, h4⟩ := (dp_E_pw j a m).mpr h2
      exact ⟨h3, j, hj, hj2, h4⟩
  have hK : ∀ d, dp_K (fun u => ∃ j, lo ≤ j ∧ j ≤ hi ∧ ex_pw L j u) w n a d ↔ ∃ j, lo ≤ j ∧ j ≤ hi ∧ dp_K (ex_pw L j) w n a d := by
    intro d
    constructor
    · rintro ⟨v, lv, j, hj, hj2, hv⟩; exact ⟨j, hj, hj2, v, lv, hv⟩
    · rintro ⟨j, hj, hj2, v, lv, hv⟩; exact ⟨v, lv, j, hj, hj2, hv⟩
  have bound : ∀ i, i < hi → B + (lo - 1 - i) * s ≤ hi * B := by
    intro i hi'
    have h1 : (lo - 1 - i) * s ≤ (hi - 1) * B := Nat.mul_le_mul (by omega) hsB
    have h2 : hi * B = (hi - 1) * B + B := by
      rw [← Nat.succ_mul]
      congr 1
      omega
    omega
  refine ⟨fun m hm => by rw [s1 m hm, hE m], ?_⟩
  refine dp_fin (C := fun c => (c = 0 ∧ S n) ∨ ∃ i m, i < hi ∧ m ≤ n ∧ dp_ch L w i a m ∧ c = lk m + (lo - 1 - i) * s) f1 ?_ f4 ?_ ?_
  · rintro c (⟨e, h⟩ | ⟨i, m, hi', hm, hc, e⟩)
    · have := f2 h; omega
    · have := f3 i m hi' hm hc; omega
  · rintro c (⟨e, h⟩ | ⟨i, m, hi', hm, hch, e⟩) hc
    · obtain ⟨j, hj, hj2, h2⟩ := (s1 n (Nat.le_refl n)).mp h
      rw [e]
      exact ⟨(hK 0).mpr ⟨j, hj, hj2, (dp_K_pw j a 0 ha).mpr (Or.inl ⟨rfl, h2⟩)⟩, Nat.zero_le _⟩
    · rcases hM m hm with ⟨h1, h2, _⟩ | ⟨h1, _⟩
      · obtain ⟨q, lq, hq⟩ := (dp_s_pw hs (lo - 1 - i)).1
        have := bound i hi'
        refine ⟨(hK _).mpr ⟨i + 1 + (lo - 1 - i), by omega, by omega, (dp_K_pw _ a _ ha).mpr (Or.inr ⟨i, lo - 1 - i, m, lk m, _, rfl, hm, hch, h1, e, q, lq, hq⟩)⟩, by omega⟩
      · omega
  · intro d hd
    obtain ⟨j, hj, hj2, hd⟩ := (hK d).mp hd
    rcases (dp_K_pw j a d ha).mp hd with ⟨e, h⟩ | ⟨i, r, m, d1, d2, ej, hmn, hc, h1, e, q, lq, hq⟩
    · exact ⟨0, Or.inl ⟨rfl, (s1 n (Nat.le_refl n)).mpr ⟨j, hj, hj2, h⟩⟩, by omega, by omega⟩
    · rcases hM m hmn with ⟨_, h2, h3⟩ | ⟨_, h2⟩
      · have h4 := h3 d1 h1
        have h5 := (dp_s_pw hs r).2 q hq
        have h6 : (lo - 1 - i) * s ≤ r * s := Nat.mul_le_mul_right _ (by omega)
        have := bound i (by omega)
        exact ⟨_, Or.inr ⟨i, m, by omega, hmn, hc, rfl⟩, by omega, by omega⟩
      · exact (h2 d1 h1).elim
