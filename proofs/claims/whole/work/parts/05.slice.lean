/-! ===== slices of a row, chains of words in it, what is lacking at its end ===== -/
def dp_sl (w : Nat → Nat) : Nat → Nat → List Nat
  | 0, _ => []
  | d + 1, a => w a :: dp_sl w d (a + 1)
theorem dp_sl_add (w : Nat → Nat) (d2 : Nat) : ∀ d1 a, dp_sl w (d1 + d2) a = dp_sl w d1 a ++ dp_sl w d2 (a + d1) := by
  intro d1
  induction d1 with
  | zero => intro a; rw [Nat.zero_add]; rfl
  | succ d ih =>
    intro a
    rw [show d + 1 + d2 = (d + d2) + 1 by omega]
    show w a :: dp_sl w (d + d2) (a + 1) = w a :: (dp_sl w d (a + 1) ++ dp_sl w d2 (a + (d + 1)))
    rw [ih (a + 1), show a + 1 + d = a + (d + 1) by omega]
theorem dp_sl_len (w : Nat → Nat) : ∀ d a, (dp_sl w d a).length = d := by
  intro d
  induction d with
  | zero => intro a; rfl
  | succ d ih => intro a; show (dp_sl w d (a + 1)).length + 1 = d + 1; rw [ih]
theorem dp_split {w : Nat → Nat} {d a : Nat} {x y : List Nat} (h : dp_sl w d a = x ++ y) : x = dp_sl w x.length a ∧ y = dp_sl w y.length (a + x.length) ∧ x.length + y.length = d := by
  have hl : x.length + y.length = d := by rw [← List.length_append, ← h, dp_sl_len]
  rw [← hl, dp_sl_add] at h
  have h2 := List.append_inj h (dp_sl_len w _ _)
  exact ⟨h2.1.symm, h2.2.symm, hl⟩
def dp_E (L : List Nat → Prop) (w : Nat → Nat) (a m : Nat) : Prop := a ≤ m ∧ L (dp_sl w (m - a) a)
theorem dp_E_congr {A B : List Nat → Prop} (h : ∀ u, A u ↔ B u) (w : Nat → Nat) (a m : Nat) : dp_E A w a m ↔ dp_E B w a m := by
  unfold dp_E
  rw [h]
theorem dp_E_cat {A B : List Nat → Prop} {w : Nat → Nat} {a m : Nat} : dp_E (ex_cat A B) w a m ↔ ∃ k, dp_E A w a k ∧ dp_E B w k m := by
  constructor
  · rintro ⟨h, x, y, e, hx, hy⟩
    obtain ⟨e1, e2, e3⟩ := dp_split e
    refine ⟨a + x.length, ⟨by omega, ?_⟩, ⟨by omega, ?_⟩⟩
    · rw [show a + x.length - a = x.length by omega, ← e1]; exact hx
    · rw [show m - (a + x.length) = y.length by omega, ← e2]; exact hy
  · rintro ⟨k, ⟨h1, hx⟩, ⟨h2, hy⟩⟩
    refine ⟨by omega, _, _, ?_, hx, hy⟩
    rw [show m - a = (k - a) + (m - k) by omega, dp_sl_add, show a + (k - a) = k by omega]
def dp_ch (L : List Nat → Prop) (w : Nat → Nat) : Nat → Nat → Nat → Prop
  | 0, a, m => a = m
  | j + 1, a, m => ∃ k, dp_ch L w j a k ∧ dp_E L w k m
theorem dp_ch_le {L : List Nat → Prop} {w : Nat → Nat} : ∀ j a m, dp_ch L w j a m → a ≤ m := by
  intro j
  induction j with
  | zero => intro a m h; exact Nat.le_of_eq h
  | succ j ih =>
    rintro a m ⟨k, h1, h2⟩
    exact Nat.le_trans (ih a k h1) h2.1
theorem dp_ch_cons {L : List Nat → Prop} {w : Nat → Nat} : ∀ j a m, dp_ch L w (j + 1) a m ↔ ∃ k, dp_E L w a k ∧ dp_ch L w j k m := by
  intro j
  induction j with
  | zero =>
    intro a m
    constructor
    · rintro ⟨k, h1, h2⟩
      have h1' : a = k := h1
      exact ⟨m, by rw [h1']; exact h2, rfl⟩
    · rintro ⟨k, h1, h2⟩
      have h2' : k = m := h2
      exact ⟨a, rfl, by rw [← h2']; exact h1⟩
  | succ j ih =>
    intro a m
    constructor
    · rintro ⟨k, h1, h2⟩
      obtain ⟨k', h3, h4⟩ := (ih a k).mp h1
      exact ⟨k', h3, k, h4, h2⟩
    · rintro ⟨k', h3, k, h4, h2⟩
      exact ⟨k, (ih a k).mpr ⟨k', h3, h4⟩, h2⟩
theorem dp_E_pw {L : List Nat → Prop} {w : Nat → Nat} : ∀ j a m, dp_E (ex_pw L j) w a m ↔ dp_ch L w j a m := by
  intro j
  induction j with
  | zero =>
    intro a m
    constructor
    · rintro ⟨h1, h2⟩
      have h3 : (dp_sl w (m - a) a).length = 0 := by rw [show dp_sl w (m - a) a = [] from h2]; rfl
      rw [dp_sl_len] at h3
      show a = m
      omega
    · intro h
      have h' : a = m := h
      refine ⟨by omega, ?_⟩
      rw [h', Nat.sub_self]
      exact rfl
  | succ j ih =>
    intro a m
    rw [dp_ch_cons]
    show dp_E (ex_cat L (ex_pw L j)) w a m ↔ _
    rw [dp_E_cat]
    constructor
    · rintro ⟨k, h1, h2⟩; exact ⟨k, h1, (ih k m).mp h2⟩
    · rintro ⟨k, h1, h2⟩; exact ⟨k, h1, (ih k m).mpr h2⟩
/-- d names more make the row from a on a word -/
def dp_K (L : List Nat → Prop) (w : Nat → Nat) (n a d : Nat) : Prop := ∃ v, v.length = d ∧ L (dp_sl w (n - a) a ++ v)
theorem dp_K_congr {A B : List Nat → Prop} (h : ∀ u, A u ↔ B u) (w : Nat → Nat) (n a d : Nat) : dp_K A w n a d ↔ dp_K B w n a d := by
  unfold dp_K
  constructor
  · rintro ⟨v, e, hv⟩; exact ⟨v, e, (h _).mp hv⟩
  · rintro ⟨v, e, hv⟩; exact ⟨v, e, (h _).mpr hv⟩
theorem dp_K_cat {A B : List Nat → Prop} {w : Nat → Nat} {n a d : Nat} (ha : a ≤ n) : dp_K (ex_cat A B) w n a d ↔ (∃ d1 d2, d = d1 + d2 ∧ dp_K A w n a d1 ∧ ∃ q, q.length = d2 ∧ B q) ∨ (∃ k, k ≤ n ∧ dp_E A w a k ∧ dp_K B w n k d) := by
  constructor
  · rintro ⟨v, hv, x, y, e, hx, hy⟩
    rcases List.append_eq_append_iff.mp e with ⟨c, e1, e2⟩ | ⟨c, e1, e2⟩
    · left
      refine ⟨c.length, y.length, ?_, ⟨c, rfl, by rw [← e1]; exact hx⟩, y, rfl, hy⟩
      rw [← hv, e2, List.length_append]
    · right
      obtain ⟨s1, s2, s3⟩ := dp_split e1
      refine ⟨a + x.length, by omega, ⟨by omega, ?_⟩, v, hv, ?_⟩
      · rw [show a + x.length - a = x.length by omega, ← s1]; exact hx
      · rw [show n - (a + x.length) = c.length by omega, ← s2, ← e2]; exact hy
  · rintro (⟨d1, d2, e, ⟨c, hc, hA⟩, q, hq, hB⟩ | ⟨k, hk, ⟨h1, hA⟩, v, hv, hB⟩)
    · refine ⟨c ++ q, by rw [List.length_append, hc, hq, e], _, q, ?_, hA, hB⟩
      rw [List.append_assoc]
    · refine ⟨v, hv, _, _, ?_, hA, hB⟩
      rw [show n - a = (k - a) + (n - k) by omega, dp_sl_add, show a + (k - a) = k by omega, List.append_assoc]
theorem dp_K_pw {L : List Nat → Prop} {w : Nat → Nat} {n : Nat} : ∀ j a d, a ≤ n → (dp_K (ex_pw L j) w n a d ↔ (d = 0 ∧ dp_ch L w j a n) ∨ ∃ i r m d1 d2, i + 1 + r = j ∧ m ≤ n ∧ dp_ch L w i a m ∧ dp_K L w n m d1 ∧ d = d1 + d2 ∧ ∃ q, q.length = d2 ∧ ex_pw L r q) := by
  intro j
  induction j with
  | zero =>
    intro a d ha
    constructor
    · rintro ⟨v, hv, h⟩
      have h' := List.append_eq_nil_iff.mp h
      have h3 : (dp_sl w (n - a) a).length = 0 := by rw [h'.1]; rfl
      rw [dp_sl_len] at h3
      rw [h'.2] at hv
      left
      refine ⟨hv.symm, ?_⟩
      show a = n
      omega
    · rintro (⟨hd, h⟩ | ⟨i, r, m, d1, d2, h, _⟩)
      · have h' : a = n := h
        refine ⟨[], hd.symm, ?_⟩
        rw [h', Nat.sub_self]
        exact rfl
      · omega
  | succ j ih =>
    intro a d ha
    show dp_K (ex_cat L (ex_pw L j)) w n a d ↔ _
    rw [dp_K_cat ha]
    constructor
    · rintro (⟨d1, d2, e, h1, q, hq, h2⟩ | ⟨k, hk, h1, h2⟩)
      · exact Or.inr ⟨0, j, a, d1, d2, by omega, ha, rfl, h1, e, q, hq, h2⟩
      · rcases (ih k d hk).mp h2 with ⟨hd, h3⟩ | ⟨i, r, m, d1, d2, e1, hm, h3, h4, h5⟩
        · exact Or.inl ⟨hd, (dp_ch_cons j a n).mpr ⟨k, h1, h3⟩⟩
        · exact Or.inr ⟨i + 1, r, m, d1, d2, by omega, hm, (dp_ch_cons i a m).mpr ⟨k, h1, h3⟩, h4, h5⟩
    · rintro (⟨hd, h⟩ | ⟨i, r, m, d1, d2, e1, hm, h3, h4, h5, q, hq, h6⟩)
      · obtain ⟨k, h1, h2⟩ := (dp_ch_cons j a n).mp h
        exact Or.inr ⟨k, dp_ch_le j k n h2, h1, (ih k d (dp_ch_le j k n h2)).mpr (Or.inl ⟨hd, h2⟩)⟩
      · cases i with
        | zero =>
          have h3' : a = m := h3
          obtain rfl : r = j := by omega
          rw [← h3'] at h4
          exact Or.inl ⟨d1, d2, h5, h4, q, hq, h6⟩
        | succ i =>
          obtain ⟨k, h1, h2⟩ := (dp_ch_cons i a m).mp h3
          have hk : k ≤ n := Nat.le_trans (dp_ch_le i k m h2) hm
          exact Or.inr ⟨k, hk, h1, (ih k d hk).mpr (Or.inr ⟨i, r, m, d1, d2, by omega, hm, h2, h4, h5, q, hq, h6⟩)⟩
/-- s: the length of a shortest word -/
def dp_s (L : List Nat → Prop) (s : Nat) : Prop := (∃ q, q.length = s ∧ L q) ∧ ∀ q, L q → s ≤ q.length
theorem dp_s_pw {L : List Nat → Prop} {s : Nat} (h : dp_s L s) : ∀ r, dp_s (ex_pw L r) (r * s) := by
  intro r
  induction r with
  | zero =>
    refine ⟨⟨[], by rw [Nat.zero_mul]; rfl, rfl⟩, fun q _ => by rw [Nat.zero_mul]; exact Nat.zero_le _⟩
  | succ r ih =>
    obtain ⟨⟨x, lx, hx⟩, h2⟩ := h
    obtain ⟨⟨y, ly, hy⟩, h4⟩ := ih
    refine ⟨⟨x ++ y, by rw [List.length_append, lx, ly, Nat.succ_mul, Nat.add_comm], x, y, rfl, hx, hy⟩, ?_⟩
    rintro q ⟨x', y', e, hx', hy'⟩
    have := h2 x' hx'
    have := h4 y' hy'
    rw [e, List.length_append, Nat.succ_mul]
    omega
/-- x: the least of the numbers of which K holds, within B; 100000 if there is none -/
def dp_M (B : Nat) (K : Nat → Prop) (x : Nat) : Prop := (K x ∧ x ≤ B ∧ ∀ d, K d → x ≤ d) ∨ (x = 100000 ∧ ∀ d, ¬ K d)
theorem dp_fin {B : Nat} {K C : Nat → Prop} {few : Nat} (h1 : few = 100000 ∨ C few) (h2 : ∀ c, C c → few ≤ c) (h3 : few ≤ 100000) (h4 : ∀ c, C c → c < 100000 → K c ∧ c ≤ B) (h5 : ∀ d, K d → ∃ c, C c ∧ c ≤ d ∧ c < 100000) : dp_M B K few := by
  by_cases h : few = 100000
  · right
    refine ⟨h, fun d hd => ?_⟩
    obtain ⟨c, hc, _, hl⟩ := h5 d hd
    have := h2 c hc
    omega
  · left
    have hC : C few := h1.resolve_left h
    obtain ⟨k1, k2⟩ := h4 few hC (by omega)
    refine ⟨k1, k2, fun d hd => ?_⟩
    obtain ⟨c, hc, hle, _⟩ := h5 d hd
    have := h2 c hc
    omega
/-- least of two -/
theorem dp_M_or {B1 B2 B : Nat} {K1 K2 K : Nat → Prop} {x y : Nat} (h1 : dp_M B1 K1 x) (h2 : dp_M B2 K2 y) (hB1 : B1 ≤ B) (hB2 : B2 ≤ B) (hB : B < 100000) (hK : ∀ d, K d ↔ K1 d ∨ K2 d) : dp_M B K (if x < y then x else y) := by
  rcases h1 with ⟨a1, a2, a3⟩ | ⟨a1, a2⟩
  · rcases h2 with ⟨b1, b2, b3⟩ | ⟨b1, b2⟩
    · left
      by_cases h : x < y
      · rw [if_pos h]
        refine ⟨(hK x).mpr (Or.inl a1), by omega, fun d hd => ?_⟩
        rcases (hK d).mp hd with h' | h'
        · exact a3 d h'
        · have := b3 d h'; omega
      · rw [if_neg h]
        refine ⟨(hK y).mpr (Or.inr b1), by omega, fun d hd => ?_⟩
        rcases (hK d).mp hd with h' | h'
        · have := a3 d h'; omega
        · exact b3 d h'
    · left
      rw [if_pos (by omega)]
      exact ⟨(hK x).mpr (Or.inl a1), by omega, fun d hd => ((hK d).mp hd).elim (a3 d) (fun h => (b2 d h).elim)⟩
  · rcases h2 with ⟨b1, b2, b3⟩ | ⟨b1, b2⟩
    · left
      rw [if_neg (by omega)]
      exact ⟨(hK y).mpr (Or.inr b1), by omega, fun d hd => ((hK d).mp hd).elim (fun h => (a2 d h).elim) (b3 d)⟩
    · right
      refine ⟨?_, fun d hd => ((hK d).mp hd).elim (a2 d) (b2 d)⟩
      rw [if_neg (by omega)]
      exact b1
