/-! ===== the document's tree: kids, parents, the walk, the order ===== -/
theorem tr_pig : ∀ (n : Nat) (l : List Nat), l.Nodup → (∀ x, x ∈ l → x < n) → l.length ≤ n := by
  intro n
  induction n with
  | zero =>
    intro l _ h
    cases l with
    | nil => exact Nat.le_refl 0
    | cons a l => exact absurd (h a (List.mem_cons_self)) (by omega)
  | succ n ih =>
    intro l hl h
    by_cases hn : n ∈ l
    · have h1 := ih (l.erase n) (List.Nodup.erase n hl) (fun x hx => by
        have hx' := (List.Nodup.mem_erase_iff hl).mp hx
        have := h x hx'.2
        have := hx'.1
        omega)
      rw [List.length_erase_of_mem hn] at h1
      omega
    · have h1 := ih l hl (fun x hx => by
        have := h x hx
        have : x ≠ n := fun e => hn (e ▸ hx)
        omega)
      omega
/-- the kids of p from j on: m of them -/
def tr_kf (ch : Nat → Nat → Nat) (p : Nat) : Nat → Nat → List Nat
  | 0, _ => []
  | m + 1, j => ch p j :: tr_kf ch p m (j + 1)
theorem tr_kf_mem {ch : Nat → Nat → Nat} {p x : Nat} : ∀ m j, x ∈ tr_kf ch p m j ↔ ∃ i, j ≤ i ∧ i < j + m ∧ ch p i = x := by
  intro m
  induction m with
  | zero =>
    intro j
    constructor
    · intro h; cases h
    · rintro ⟨i, h1, h2, _⟩; omega
  | succ m ih =>
    intro j
    show x ∈ ch p j :: tr_kf ch p m (j + 1) ↔ _
    rw [List.mem_cons, ih]
    constructor
    · rintro (h | ⟨i, h1, h2, h3⟩)
      · exact ⟨j, by omega, by omega, h.symm⟩
      · exact ⟨i, by omega, by omega, h3⟩
    · rintro ⟨i, h1, h2, h3⟩
      by_cases e : i = j
      · rw [e] at h3; exact Or.inl h3.symm
      · exact Or.inr ⟨i, by omega, by omega, h3⟩
theorem tr_kf_len {ch : Nat → Nat → Nat} {p : Nat} : ∀ m j, (tr_kf ch p m j).length = m := by
  intro m
  induction m with
  | zero => intro j; rfl
  | succ m ih => intro j; show (tr_kf ch p m (j + 1)).length + 1 = m + 1; rw [ih]
theorem tr_kf_nd {ch : Nat → Nat → Nat} {p : Nat} : ∀ m j, (∀ a b, j ≤ a → a < j + m → j ≤ b → b < j + m → ch p a = ch p b → a = b) → (tr_kf ch p m j).Nodup := by
  intro m
  induction m with
  | zero => intro j _; exact List.nodup_nil
  | succ m ih =>
    intro j h
    show (ch p j :: tr_kf ch p m (j + 1)).Nodup
    rw [List.nodup_cons]
    refine ⟨fun hm => ?_, ih (j + 1) (fun a b h1 h2 h3 h4 => h a b (by omega) (by omega) (by omega) (by omega))⟩
    obtain ⟨i, h1, h2, h3⟩ := (tr_kf_mem m (j + 1)).mp hm
    have := h i j (by omega) (by omega) (by omega) (by omega) h3
    omega
/-- kids are elements, with their parent, of a greater rank; no kid twice -/
def tr_F (us : Nat → Prop) (po : Nat → Option Nat) (c : Nat → Nat) (ch : Nat → Nat → Nat) (rk : Nat → Nat) : Prop :=
  (∀ e, us e → e < 24) ∧ (∀ p k, us p → k < c p → us (ch p k) ∧ po (ch p k) = some p ∧ rk p < rk (ch p k)) ∧
  (∀ p i j, us p → i < c p → j < c p → ch p i = ch p j → i = j)
/-- the whole tree: 0 is the root, every other element is a kid of its parent -/
def tr_I (us : Nat → Prop) (po : Nat → Option Nat) (c : Nat → Nat) (ch : Nat → Nat → Nat) (rk : Nat → Nat) : Prop :=
  tr_F us po c ch rk ∧ (∀ e, us e → e = 0 ∨ ∃ p k, po e = some p ∧ us p ∧ k < c p ∧ ch p k = e) ∧ (∀ e, us e → us 0) ∧ (us 0 → po 0 = none)
theorem tr_F_c {us : Nat → Prop} {po : Nat → Option Nat} {c : Nat → Nat} {ch : Nat → Nat → Nat} {rk : Nat → Nat} (h : tr_F us po c ch rk) {p : Nat} (hp : us p) : c p ≤ 23 := by
  obtain ⟨h1, h2, h3⟩ := h
  have nd : (p :: tr_kf ch p (c p) 0).Nodup := by
    rw [List.nodup_cons]
    refine ⟨fun hm => ?_, tr_kf_nd _ _ (fun a b _ ha _ hb e => h3 p a b hp (by omega) (by omega) e)⟩
    obtain ⟨i, _, hi, e⟩ := (tr_kf_mem _ _).mp hm
    have := (h2 p i hp (by omega)).2.2
    rw [e] at this
    omega
  have hl := tr_pig 24 _ nd (fun x hx => by
    rcases List.mem_cons.mp hx with e | hx
    · rw [e]; exact h1 p hp
    · obtain ⟨i, _, hi, e⟩ := (tr_kf_mem _ _).mp hx
      rw [← e]
      exact h1 _ (h2 p i hp (by omega)).1)
  rw [List.length_cons, tr_kf_len] at hl
  omega
/-- ws: walked; st: waiting, the next one first -/
def tr_V (us : Nat → Prop) (po : Nat → Option Nat) (c : Nat → Nat) (ch : Nat → Nat → Nat) (rk : Nat → Nat) (top : Nat) (ws st : List Nat) : Prop :=
  (ws ++ st).Nodup ∧ (∀ x, x ∈ ws ++ st → us x ∧ rk top ≤ rk x ∧ (x = top ∨ ∃ y, y ∈ ws ∧ po x = some y)) ∧
  (∀ x k, x ∈ ws → k < c x → ch x k ∈ ws ++ st) ∧ top ∈ ws ++ st
theorem tr_V_len {us : Nat → Prop} {po : Nat → Option Nat} {c : Nat → Nat} {ch : Nat → Nat → Nat} {rk : Nat → Nat} {top : Nat} {ws st : List Nat} (hF : tr_F us po c ch rk) (h : tr_V us po c ch rk top ws st) : ws.length + st.length ≤ 24 := by
  have := tr_pig 24 _ h.1 (fun x hx => hF.1 x (h.2.1 x hx).1)
  rw [List.length_append] at this
  exact this
theorem tr_V_0 {us : Nat → Prop} {po : Nat → Option Nat} {c : Nat → Nat} {ch : Nat → Nat → Nat} {rk : Nat → Nat} {top : Nat} (ht : us top) : tr_V us po c ch rk top [] [top] := by
  refine ⟨?_, ?_, ?_, ?_⟩
  · show [top].Nodup
    rw [List.nodup_cons]
    exact ⟨(fun h => by cases h), List.nodup_nil⟩
  · intro x hx
    have e : x = top := List.mem_singleton.mp hx
    rw [e]
    exact ⟨ht, Nat.le_refl _, Or.inl rfl⟩
  · intro x k hx; cases hx
  · exact List.mem_singleton.mpr rfl
theorem tr_V_s {us : Nat → Prop} {po : Nat → Option Nat} {c : Nat → Nat} {ch : Nat → Nat → Nat} {rk : Nat → Nat} {top e : Nat} {ws st : List Nat} (hF : tr_F us po c ch rk) (h : tr_V us po c ch rk top ws (e :: st)) : tr_V us po c ch rk top (ws ++ [e]) (tr_kf ch e (c e) 0 ++ st) := by
  obtain ⟨nd, h1, h2, h3⟩ := h
  obtain ⟨f1, f2, f3⟩ := hF
  have he : e ∈ ws ++ e :: st := List.mem_append.mpr (Or.inr List.mem_cons_self)
  obtain ⟨ue, re, pe⟩ := h1 e he
  have nd' := List.nodup_append.mp nd
  have nd2 := List.nodup_cons.mp nd'.2.1
  have hmem : ∀ x, x ∈ (ws ++ [e]) ++ (tr_kf ch e (c e) 0 ++ st) ↔ x ∈ ws ++ e :: st ∨ x ∈ tr_kf ch e (c e) 0 := by
    intro x
    simp only [List.mem_append, List.mem_cons, List.not_mem_nil, or_false]
    constructor
    · rintro ((h | h) | (h | h))
      · exact Or.inl (Or.inl h)
      · exact Or.inl (Or.inr (Or.inl h))
      · exact Or.inr h
      · exact Or.inl (Or.inr (Or.inr h))
    · rintro ((h | h | h) | h)
      · exact Or.inl (Or.inl h)
      · exact Or.inl (Or.inr h)
      · exact Or.inr (Or.inr h)
      · exact Or.inr (Or.inl h)
  have hew : e ∉ ws := fun h => nd'.2.2 e h e List.mem_cons_self rfl
  have fresh : ∀ k, k < c e → ch e k ∉ ws ++ e :: st := by
    intro k hk hm
    obtain ⟨_, k2, k3⟩ := f2 e k ue hk
    obtain ⟨_, _, ha⟩ := h1 _ hm
    rcases ha with ha | ⟨y, hy, ha⟩
    · rw [ha] at k3; omega
    · rw [k2] at ha
      have : e = y := Option.some.inj ha
      rw [← this] at hy
      exact hew hy
  refine ⟨?_, ?_, ?_, ?_⟩
  · rw [List.nodup_append]
    refine ⟨?_, ?_, ?_⟩
    · rw [List.nodup_append]
      refine ⟨nd'.1, List.nodup_cons.mpr ⟨(fun h => by cases h), List.nodup_nil⟩, ?_⟩
      intro a ha b hb hab
      have hb' : b = e := List.mem_singleton.mp hb
      rw [hab, hb'] at ha
      exact hew ha
    · rw [List.nodup_append]
      refine ⟨tr_kf_nd _ _ (fun a b _ ha _ hb q => f3 e a b ue (by omega) (by omega) q), nd2.2, ?_⟩
      intro a ha b hb hab
      obtain ⟨i, _, hi, ei⟩ := (tr_kf_mem _ _).mp ha
      apply fresh i (by omega)
      rw [ei, hab]
      exact List.mem_append.mpr (Or.inr (List.mem_cons_of_mem _ hb))
    · intro a ha b hb hab
      rcases List.mem_append.mp hb with hb | hb
      · obtain ⟨i, _, hi, ei⟩ := (tr_kf_mem _ _).mp hb
        apply fresh i (by omega)
        rw [ei, ← hab]
        rcases List.mem_append.mp ha with ha | ha
        · exact List.mem_append.mpr (Or.inl ha)
        · rw [List.mem_singleton.mp ha]; exact he
      · rcases List.mem_append.mp ha with ha | ha
        · exact nd'.2.2 a ha b (List.mem_cons_of_mem _ hb) hab
        · rw [List.mem_singleton.mp ha] at hab
          rw [← hab] at hb
          exact nd2.1 hb
  · intro x hx
    rcases (hmem x).mp hx with hx | hx
    · obtain ⟨a1, a2, a3⟩ := h1 x hx
      refine ⟨a1, a2, ?_⟩
      rcases a3 with a3 | ⟨y, hy, a3⟩
      · exact Or.inl a3
      · exact Or.inr ⟨y, List.mem_append.mpr (Or.inl hy), a3⟩
    · obtain ⟨i, _, hi, ei⟩ := (tr_kf_mem _ _).mp hx
      obtain ⟨k1, k2, k3⟩ := f2 e i ue (by omega)
      rw [ei] at k1 k2 k3
      exact ⟨k1, by omega, Or.inr ⟨e, List.mem_append.mpr (Or.inr (List.mem_singleton.mpr rfl)), k2⟩⟩
  · intro x k hx hk
    rw [hmem]
    rcases List.mem_append.mp hx with hx | hx
    · exact Or.inl (h2 x k hx hk)
    · rw [List.mem_singleton.mp hx] at hk ⊢
      exact Or.inr ((tr_kf_mem _ _).mpr ⟨k, by omega, by omega, rfl⟩)
  · rw [hmem]; exact Or.inl h3
/-- x is e or below it -/
def tr_B (po : Nat → Option Nat) (e : Nat) : Nat → Nat → Prop
  | 0, x => x = e
  | j + 1, x => x = e ∨ ∃ y, po x = some y ∧ tr_B po e j y
theorem tr_V_in {us : Nat → Prop} {po : Nat → Option Nat} {c : Nat → Nat} {ch : Nat → Nat → Nat} {rk : Nat → Nat} {top : Nat} {ws : List Nat} (hrk : ∀ x y, us x → x ≠ top → po x = some y → rk y < rk x) (h : tr_V us po c ch rk top ws []) : ∀ r x, rk x ≤ r → x ∈ ws → ∃ j, tr_B po top j x := by
  obtain ⟨_, h1, _, _⟩ := h
  intro r
  induction r with
  | zero =>
    intro x hr hx
    by_cases e : x = top
    · exact ⟨0, e⟩
    · obtain ⟨a1, _, a3⟩ := h1 x (by rw [List.append_nil]; exact hx)
      rcases a3 with a3 | ⟨y, hy, a3⟩
      · exact ⟨0, a3⟩
      · have := hrk x y a1 e a3; omega
  | succ r ih =>
    intro x hr hx
    by_cases e : x = top
    · exact ⟨0, e⟩
    · obtain ⟨a1, _, a3⟩ := h1 x (by rw [List.append_nil]; exact hx)
      rcases a3 with a3 | ⟨y, hy, a3⟩
      · exact ⟨0, a3⟩
      · have hry := hrk x y a1 e a3
        obtain ⟨j, hj⟩ := ih y (by omega) hy
        exact ⟨j + 1, Or.inr ⟨y, a3, hj⟩⟩
theorem tr_V_out {us : Nat → Prop} {po : Nat → Option Nat} {c : Nat → Nat} {ch : Nat → Nat → Nat} {rk : Nat → Nat} {top : Nat} {ws : List Nat} (hus : ∀ x y, us x → x ≠ top → po x = some y → us y ∧ (y ∈ ws → ∃ k, k < c y ∧ ch y k = x)) (h : tr_V us po c ch rk top ws []) : ∀ j x, us x → tr_B po top j x → x ∈ ws := by
  obtain ⟨_, h1, h2, h3⟩ := h
  rw [List.append_nil] at h3
  intro j
  induction j with
  | zero => intro x _ hb; rw [show x = top from hb]; exact h3
  | succ j ih =>
    intro x ux hb
    by_cases e : x = top
    · rw [e]; exact h3
    · rcases hb with hb | ⟨y, hy, hb⟩
      · exact (e hb).elim
      · obtain ⟨uy, hk⟩ := hus x y ux e hy
        have hyw := ih y uy hb
        obtain ⟨k, k1, k2⟩ := hk hyw
        have := h2 y k hyw k1
        rw [List.append_nil, k2] at this
        exact this
/-- l: what waits when e is at hand: its right neighbours, those of its parent, and so on -/
def tr_R (po : Nat → Option Nat) (c : Nat → Nat) (ch : Nat → Nat → Nat) : Nat → Nat → List Nat → Prop
  | 0, e, l => po e = none ∧ l = []
  | d + 1, e, l => ∃ p k l', po e = some p ∧ k < c p ∧ ch p k = e ∧ l = tr_kf ch p (c p - (k + 1)) (k + 1) ++ l' ∧ tr_R po c ch d p l'
theorem tr_R_next {po : Nat → Option Nat} {c : Nat → Nat} {ch : Nat → Nat → Nat} (hk : ∀ p k x, k < c p → ch p k = x → ∀ e, po e = some p → po x = some p) : ∀ d e x l, tr_R po c ch d e (x :: l) → ∃ d', tr_R po c ch d' x l := by
  intro d
  induction d with
  | zero => rintro e x l ⟨_, h⟩; cases h
  | succ d ih =>
    rintro e x l ⟨p, k, l', h1, h2, h3, h4, h5⟩
    by_cases hc : k + 1 < c p
    · have e1 : c p - (k + 1) = (c p - (k + 1 + 1)) + 1 := by omega
      rw [e1] at h4
      have h4' : x :: l = ch p (k + 1) :: (tr_kf ch p (c p - (k + 1 + 1)) (k + 1 + 1) ++ l') := h4
      have h6 := List.cons.inj h4'
      exact ⟨d + 1, p, k + 1, l', hk p (k + 1) x hc h6.1.symm e h1, hc, h6.1.symm, h6.2, h5⟩
    · rw [show c p - (k + 1) = 0 by omega] at h4
      have h4' : x :: l = l' := h4
      rw [← h4'] at h5
      exact ih p x l h5
theorem tr_R_kid {po : Nat → Option Nat} {c : Nat → Nat} {ch : Nat → Nat → Nat} {d e : Nat} {l : List Nat} (h : tr_R po c ch d e l) (hc : 0 < c e) (hp : po (ch e 0) = some e) : tr_R po c ch (d + 1) (ch e 0) (tr_kf ch e (c e - 1) 1 ++ l) := ⟨e, 0, l, hp, hc, rfl, rfl, h⟩
/-- how many of the first m -/
def tr_cn (U : Nat → Int32) : Nat → Nat
  | 0 => 0
  | m + 1 => tr_cn U m + (if U m = 0 then 0 else 1)
theorem tr_cn_le (U : Nat → Int32) : ∀ m, tr_cn U m ≤ m := by
  intro m
  induction m with
  | zero => exact Nat.le_refl 0
  | succ m ih =>
    unfold tr_cn
    split <;> omega
theorem tr_cn_full {U : Nat → Int32} : ∀ m, tr_cn U m = m ↔ ∀ i, i < m → U i ≠ 0 := by
  intro m
  induction m with
  | zero => exact ⟨fun _ i h => absurd h (by omega), fun _ => rfl⟩
  | succ m ih =>
    have hle := tr_cn_le U m
    unfold tr_cn
    constructor
    · intro h i hi
      by_cases hz : U m = 0
      · rw [if_pos hz] at h; omega
      · rw [if_neg hz] at h
        by_cases e : i = m
        · rw [e]; exact hz
        · exact ih.mp (by omega) i (by omega)
    · intro h
      rw [if_neg (h m (by omega))]
      have := ih.mpr (fun i hi => h i (by omega))
      omega
theorem tr_cn_none {U : Nat → Int32} : ∀ m, tr_cn U m = 0 ↔ ∀ i, i < m → U i = 0 := by
  intro m
  induction m with
  | zero => exact ⟨fun _ i h => absurd h (by omega), fun _ => rfl⟩
  | succ m ih =>
    unfold tr_cn
    constructor
    · intro h i hi
      by_cases hz : U m = 0
      · by_cases e : i = m
        · rw [e]; exact hz
        · exact ih.mp (by rw [if_pos hz] at h; omega) i (by omega)
      · rw [if_neg hz] at h; omega
    · intro h
      rw [if_pos (h m (by omega)), ih.mpr (fun i hi => h i (by omega))]
theorem tr_cn_cg {U V : Nat → Int32} : ∀ m, (∀ i, i < m → U i = V i) → tr_cn U m = tr_cn V m := by
  intro m
  induction m with
  | zero => intro _; rfl
  | succ m ih =>
    intro h
    unfold tr_cn
    rw [ih (fun i hi => h i (by omega)), h m (by omega)]
/-- one more -/
theorem tr_cn_set {U : Nat → Int32} {i : Nat} {x : Int32} (hi : U i = 0) (hx : x ≠ 0) : ∀ m, i < m → tr_cn (upd U i x) m = tr_cn U m + 1 := by
  intro m
  induction m with
  | zero => intro h; omega
  | succ m ih =>
    intro h
    by_cases e : i = m
    · unfold tr_cn
      have h1 : tr_cn (upd U i x) m = tr_cn U m := tr_cn_cg m (fun j hj => by unfold upd; rw [if_neg (by omega)])
      have h2 : upd U i x m = x := by unfold upd; rw [if_pos e.symm]
      rw [h1, h2, if_neg hx, ← e, if_pos hi]
    · have h1 := ih (by omega)
      have h2 : upd U i x m = U m := by unfold upd; rw [if_neg (by omega)]
      unfold tr_cn
      rw [h1, h2]
      omega
/-- one less -/
theorem tr_cn_clr {U : Nat → Int32} {i : Nat} (hi : U i ≠ 0) : ∀ m, i < m → tr_cn (upd U i 0) m + 1 = tr_cn U m := by
  intro m
  induction m with
  | zero => intro h; omega
  | succ m ih =>
    intro h
    by_cases e : i = m
    · unfold tr_cn
      have h1 : tr_cn (upd U i 0) m = tr_cn U m := tr_cn_cg m (fun j hj => by unfold upd; rw [if_neg (by omega)])
      have h2 : upd U i 0 m = 0 := by unfold upd; rw [if_pos e.symm]
      rw [h1, h2, if_pos rfl, ← e, if_neg hi]
    · have h1 := ih (by omega)
      have h2 : upd U i 0 m = U m := by unfold upd; rw [if_neg (by omega)]
      unfold tr_cn
      rw [h2]
      omega
