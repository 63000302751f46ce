/-! ===== edits of the tree ===== -/
def ft_u {α : Type} (h : Nat → α) (k : Nat) (v : α) : Nat → α := fun x => if x = k then v else h x
theorem ft_s {α : Type} {h : Nat → α} {k : Nat} {v : α} : ft_u h k v k = v := if_pos rfl
theorem ft_n {α : Type} {h : Nat → α} {k : Nat} {v : α} {x : Nat} (q : x ≠ k) : ft_u h k v x = h x := if_neg q
def tr_dc (c : Nat → Nat) (q : Nat) : Nat → Nat := fun x => if x = q then c q - 1 else c x
def tr_dk (ch : Nat → Nat → Nat) (q s : Nat) : Nat → Nat → Nat := fun x i => if x = q ∧ s ≤ i then ch q (i + 1) else ch x i
def tr_ic (c : Nat → Nat) (p : Nat) : Nat → Nat := fun x => if x = p then c p + 1 else c x
def tr_ik (ch : Nat → Nat → Nat) (p k e : Nat) : Nat → Nat → Nat := fun x i => if x = p then (if i < k then ch p i else if i = k then e else ch p (i - 1)) else ch x i
/-- a kid of the new row is one of the old row, at the same place or the next -/
theorem tr_dk_at {ch : Nat → Nat → Nat} {c : Nat → Nat} {q s x i : Nat} (hi : i < tr_dc c q x) : ∃ j, j < c x ∧ tr_dk ch q s x i = ch x j ∧ ((x ≠ q ∧ j = i) ∨ (x = q ∧ i < s ∧ j = i) ∨ (x = q ∧ s ≤ i ∧ j = i + 1)) := by
  unfold tr_dc at hi
  unfold tr_dk
  by_cases e : x = q
  · rw [if_pos e] at hi
    by_cases hs : s ≤ i
    · rw [if_pos ⟨e, hs⟩, e]; exact ⟨i + 1, by omega, rfl, Or.inr (Or.inr ⟨rfl, hs, rfl⟩)⟩
    · rw [if_neg (fun h => hs h.2)]; exact ⟨i, by rw [e]; omega, rfl, Or.inr (Or.inl ⟨e, by omega, rfl⟩)⟩
  · rw [if_neg e] at hi
    rw [if_neg (fun h => e h.1)]
    exact ⟨i, hi, rfl, Or.inl ⟨e, rfl⟩⟩
theorem tr_del {us : Nat → Prop} {po : Nat → Option Nat} {c : Nat → Nat} {ch : Nat → Nat → Nat} {rk : Nat → Nat} {q s : Nat} (hF : tr_F us po c ch rk) : tr_F us po (tr_dc c q) (tr_dk ch q s) rk := by
  obtain ⟨f1, f2, f3⟩ := hF
  refine ⟨f1, fun p k hp hk => ?_, fun p i j hp hi hj h => ?_⟩
  · obtain ⟨j, hj, e, _⟩ := tr_dk_at (ch := ch) (s := s) hk
    rw [e]
    exact f2 p j hp hj
  · obtain ⟨a, ha, ea, oa⟩ := tr_dk_at (ch := ch) (s := s) hi
    obtain ⟨b, hb, eb, ob⟩ := tr_dk_at (ch := ch) (s := s) hj
    rw [ea, eb] at h
    have := f3 p a b hp ha hb h
    omega
/-- e was at place s: it is nobody's kid now -/
theorem tr_del_no {us : Nat → Prop} {po : Nat → Option Nat} {c : Nat → Nat} {ch : Nat → Nat → Nat} {rk : Nat → Nat} {q s e : Nat} (hF : tr_F us po c ch rk) (hq : us q) (hs : s < c q) (he : ch q s = e) : ∀ x i, us x → i < tr_dc c q x → tr_dk ch q s x i ≠ e := by
  obtain ⟨f1, f2, f3⟩ := hF
  intro x i hx hi h
  obtain ⟨j, hj, ej, oj⟩ := tr_dk_at (ch := ch) (s := s) hi
  rw [ej] at h
  have h1 := (f2 x j hx hj).2.1
  have h2 := (f2 q s hq hs).2.1
  rw [h] at h1
  rw [he, h1] at h2
  have hxq : x = q := Option.some.inj h2
  rw [hxq] at h hj
  have := f3 q j s hq hj hs (h.trans he.symm)
  omega
def tr_PK (us : Nat → Prop) (po : Nat → Option Nat) (c : Nat → Nat) (ch : Nat → Nat → Nat) (x : Nat) : Prop := ∃ p k, po x = some p ∧ us p ∧ k < c p ∧ ch p k = x
theorem tr_PK_del {us : Nat → Prop} {po : Nat → Option Nat} {c : Nat → Nat} {ch : Nat → Nat → Nat} {q s e x : Nat} (hs : s < c q) (he : ch q s = e) (hx : x ≠ e) (h : tr_PK us po c ch x) : tr_PK us po (tr_dc c q) (tr_dk ch q s) x := by
  obtain ⟨p, k, h1, h2, h3, h4⟩ := h
  by_cases e1 : p = q
  · subst e1
    have hks : k ≠ s := by
      intro e2
      rw [e2, he] at h4
      exact hx h4.symm
    by_cases hlt : k < s
    · refine ⟨p, k, h1, h2, by unfold tr_dc; rw [if_pos rfl]; omega, ?_⟩
      unfold tr_dk
      rw [if_neg (fun h => by omega)]
      exact h4
    · refine ⟨p, k - 1, h1, h2, by unfold tr_dc; rw [if_pos rfl]; omega, ?_⟩
      unfold tr_dk
      rw [if_pos ⟨rfl, by omega⟩, show k - 1 + 1 = k by omega]
      exact h4
  · refine ⟨p, k, h1, h2, by unfold tr_dc; rw [if_neg e1]; exact h3, ?_⟩
    unfold tr_dk
    rw [if_neg (fun h => e1 h.1)]
    exact h4
theorem tr_ik_at {ch : Nat → Nat → Nat} {c : Nat → Nat} {p k e x i : Nat} (hk : k ≤ c p) (hi : i < tr_ic c p x) : (x = p ∧ i = k ∧ tr_ik ch p k e x i = e) ∨ ∃ j, j < c x ∧ tr_ik ch p k e x i = ch x j ∧ ((x ≠ p ∧ j = i) ∨ (x = p ∧ i < k ∧ j = i) ∨ (x = p ∧ k < i ∧ i = j + 1)) := by
  unfold tr_ic at hi
  unfold tr_ik
  by_cases h : x = p
  · rw [if_pos h] at hi
    rw [if_pos h]
    by_cases h1 : i < k
    · rw [if_pos h1]; exact Or.inr ⟨i, by rw [h]; omega, by rw [h], Or.inr (Or.inl ⟨h, h1, rfl⟩)⟩
    · rw [if_neg h1]
      by_cases h2 : i = k
      · rw [if_pos h2]; exact Or.inl ⟨h, h2, rfl⟩
      · rw [if_neg h2]; exact Or.inr ⟨i - 1, by rw [h]; omega, by rw [h], Or.inr (Or.inr ⟨h, by omega, by omega⟩)⟩
  · rw [if_neg h] at hi
    rw [if_neg h]
    exact Or.inr ⟨i, hi, rfl, Or.inl ⟨h, rfl⟩⟩
theorem tr_ins {us us' : Nat → Prop} {po po' : Nat → Option Nat} {c : Nat → Nat} {ch : Nat → Nat → Nat} {rk rk' : Nat → Nat} {p e k : Nat} (hF : tr_F us po c ch rk) (hp : us p) (he : e < 24) (hne : ∀ x i, us x → i < c x → ch x i ≠ e) (hus : ∀ x, us' x ↔ us x ∨ x = e) (hpo : ∀ x, x ≠ e → po' x = po x) (hpe : po' e = some p) (hk : k ≤ c p) (hce : ¬ us e → c e = 0) (hep : e ≠ p) (hrk : ∀ x i, us x → i < c x → rk' x < rk' (ch x i)) (hrp : rk' p < rk' e) : tr_F us' po' (tr_ic c p) (tr_ik ch p k e) rk' := by
  obtain ⟨f1, f2, f3⟩ := hF
  have old : ∀ x, us' x → ∀ j, j < c x → us x := by
    intro x hx j hj
    rcases (hus x).mp hx with h | h
    · exact h
    · by_cases hu : us e
      · rw [h]; exact hu
      · rw [h, hce hu] at hj; omega
  refine ⟨fun x hx => ?_, fun x i hx hi => ?_, fun x i j hx hi hj h => ?_⟩
  · rcases (hus x).mp hx with h | h
    · exact f1 x h
    · rw [h]; exact he
  · rcases tr_ik_at (ch := ch) (e := e) hk hi with ⟨h1, h2, h3⟩ | ⟨j, hj, h3, _⟩
    · rw [h3, h1]
      exact ⟨(hus e).mpr (Or.inr rfl), hpe, hrp⟩
    · rw [h3]
      have ux := old x hx j hj
      obtain ⟨g1, g2, g3⟩ := f2 x j ux hj
      exact ⟨(hus _).mpr (Or.inl g1), by rw [hpo _ (hne x j ux hj)]; exact g2, hrk x j ux hj⟩
  · rcases tr_ik_at (ch := ch) (e := e) hk hi with ⟨h1, h2, h3⟩ | ⟨a, ha, h3, oa⟩
    · rcases tr_ik_at (ch := ch) (e := e) hk hj with ⟨g1, g2, g3⟩ | ⟨b, hb, g3, ob⟩
      · omega
      · rw [h3, g3] at h
        exact absurd h.symm (hne x b (old x hx b hb) hb)
    · rcases tr_ik_at (ch := ch) (e := e) hk hj with ⟨g1, g2, g3⟩ | ⟨b, hb, g3, ob⟩
      · rw [h3, g3] at h
        exact absurd h (hne x a (old x hx a ha) ha)
      · rw [h3, g3] at h
        have := f3 x a b (old x hx a ha) ha hb h
        omega
theorem tr_PK_ins {us us' : Nat → Prop} {po po' : Nat → Option Nat} {c : Nat → Nat} {ch : Nat → Nat → Nat} {p e k x : Nat} (hus : ∀ x, us x → us' x) (hpo : po' x = po x) (hk : k ≤ c p) (h : tr_PK us po c ch x) : tr_PK us' po' (tr_ic c p) (tr_ik ch p k e) x := by
  obtain ⟨q, i, h1, h2, h3, h4⟩ := h
  by_cases e1 : q = p
  · subst e1
    by_cases hlt : i < k
    · refine ⟨q, i, by rw [hpo]; exact h1, hus q h2, by unfold tr_ic; rw [if_pos rfl]; omega, ?_⟩
      unfold tr_ik
      rw [if_pos rfl, if_pos hlt]
      exact h4
    · refine ⟨q, i + 1, by rw [hpo]; exact h1, hus q h2, by unfold tr_ic; rw [if_pos rfl]; omega, ?_⟩
      unfold tr_ik
      rw [if_pos rfl, if_neg (by omega), if_neg (by omega), show i + 1 - 1 = i by omega]
      exact h4
  · refine ⟨q, i, by rw [hpo]; exact h1, hus q h2, by unfold tr_ic; rw [if_neg e1]; exact h3, ?_⟩
    unfold tr_ik
    rw [if_neg e1]
    exact h4
theorem tr_PK_e {us' : Nat → Prop} {po' : Nat → Option Nat} {c : Nat → Nat} {ch : Nat → Nat → Nat} {p e k : Nat} (hp : us' p) (hpe : po' e = some p) (hk : k ≤ c p) : tr_PK us' po' (tr_ic c p) (tr_ik ch p k e) e := by
  refine ⟨p, k, hpe, hp, by unfold tr_ic; rw [if_pos rfl]; omega, ?_⟩
  unfold tr_ik
  rw [if_pos rfl, if_neg (by omega), if_pos rfl]
/-- the rows of kids as they are written -/
def kp_sh (kc : Nat → Int32) (p c i : Nat) : Nat → Int32 := fun j => if 24 * p + i < j ∧ j ≤ 24 * p + c then kc (j - 1) else kc j
def kp_ins (kc : Nat → Int32) (p c k : Nat) (x : Int32) : Nat → Int32 := upd (kp_sh kc p c k) (24 * p + k) x
def kp_del (kc : Nat → Int32) (p s i : Nat) : Nat → Int32 := fun j => if 24 * p + s ≤ j ∧ j + 1 < 24 * p + i then kc (j + 1) else kc j
theorem kp_sh_c (kc : Nat → Int32) (p c : Nat) : kp_sh kc p c c = kc := by
  funext j
  unfold kp_sh
  rw [if_neg (by omega)]
theorem kp_sh_s {kc : Nat → Int32} {p c i : Nat} (h : i + 1 ≤ c) : upd (kp_sh kc p c (i + 1)) (24 * p + (i + 1)) (kp_sh kc p c (i + 1) (24 * p + i)) = kp_sh kc p c i := by
  funext j
  unfold upd
  by_cases e : j = 24 * p + (i + 1)
  · rw [if_pos e]
    unfold kp_sh
    rw [if_neg (by omega), if_pos (by omega), e, show 24 * p + (i + 1) - 1 = 24 * p + i by omega]
  · rw [if_neg e]
    unfold kp_sh
    by_cases h2 : 24 * p + (i + 1) < j ∧ j ≤ 24 * p + c
    · rw [if_pos h2, if_pos (by omega)]
    · rw [if_neg h2, if_neg (by omega)]
theorem kp_del_0 {kc : Nat → Int32} {p s i : Nat} (h : i ≤ s + 1) : kp_del kc p s i = kc := by
  funext j
  unfold kp_del
  rw [if_neg (by omega)]
theorem kp_del_s {kc : Nat → Int32} {p s i : Nat} (h : s < i) : upd (kp_del kc p s i) (24 * p + (i - 1)) (kc (24 * p + i)) = kp_del kc p s (i + 1) := by
  funext j
  unfold upd
  by_cases e : j = 24 * p + (i - 1)
  · rw [if_pos e]
    unfold kp_del
    rw [if_pos (by omega), e, show 24 * p + (i - 1) + 1 = 24 * p + i by omega]
  · rw [if_neg e]
    unfold kp_del
    by_cases h2 : 24 * p + s ≤ j ∧ j + 1 < 24 * p + i
    · rw [if_pos h2, if_pos (by omega)]
    · rw [if_neg h2, if_neg (by omega)]
theorem kp_id (kc : Nat → Int32) (j : Nat) : upd kc j (kc j) = kc := by
  funext i
  unfold upd
  by_cases e : i = j
  · rw [if_pos e, e]
  · rw [if_neg e]
/-- the written rows hold the edited kids -/
theorem kp_ins_ok {kc : Nat → Int32} {iu : Nat → Int32} {iu' : Nat → Int32} {c : Nat → Nat} {ch : Nat → Nat → Nat} {p k e : Nat} (h : ∀ x i, x < 24 → iu x ≠ 0 → i < c x → kc (24 * x + i) = nI (ch x i)) (hc : c p ≤ 23) (hk : k ≤ c p) (hu : ∀ x, x < 24 → iu' x ≠ 0 → iu x ≠ 0 ∨ c x = 0) (hc24 : ∀ x, x < 24 → iu' x ≠ 0 → c x ≤ 23) (hp : p < 24) (hep : e ≠ p) : ∀ x i, x < 24 → iu' x ≠ 0 → i < tr_ic c p x → kp_ins kc p (c p) k (nI e) (24 * x + i) = nI (tr_ik ch p k e x i) := by
  intro x i hx hux hi
  have h24 := hc24 x hx hux
  rcases tr_ik_at (ch := ch) (e := e) hk hi with ⟨h1, h2, h3⟩ | ⟨j, hj, h3, oj⟩
  · rw [h3, h1, h2]
    unfold kp_ins upd
    rw [if_pos rfl]
  · have hold : iu x ≠ 0 := (hu x hx hux).resolve_right (by omega)
    rw [h3, ← h x j hx hold hj]
    unfold kp_ins upd kp_sh
    rcases oj with ⟨o1, o2⟩ | ⟨o1, o2, o3⟩ | ⟨o1, o2, o3⟩
    · have hi' : i ≤ 23 := by omega
      rw [if_neg (by omega), if_neg (by omega), o2]
    · rw [o1, if_neg (by omega), if_neg (by omega), o3]
    · rw [o1, if_neg (by omega), if_pos (by rw [o1] at hj; omega), show 24 * p + i - 1 = 24 * p + j by omega]
theorem kp_del_ok {kc : Nat → Int32} {iu : Nat → Int32} {c : Nat → Nat} {ch : Nat → Nat → Nat} {q s : Nat} (h : ∀ x i, x < 24 → iu x ≠ 0 → i < c x → kc (24 * x + i) = nI (ch x i)) (hc24 : ∀ x, x < 24 → iu x ≠ 0 → c x ≤ 23) (hq : q < 24) (huq : iu q ≠ 0) : ∀ x i, x < 24 → iu x ≠ 0 → i < tr_dc c q x → kp_del kc q s (c q) (24 * x + i) = nI (tr_dk ch q s x i) := by
  intro x i hx hux hi
  have h24 := hc24 x hx hux
  have h24q := hc24 q hq huq
  obtain ⟨j, hj, h3, oj⟩ := tr_dk_at (ch := ch) (s := s) hi
  rw [h3, ← h x j hx hux hj]
  unfold kp_del
  rcases oj with ⟨o1, o2⟩ | ⟨o1, o2, o3⟩ | ⟨o1, o2, o3⟩
  · rw [if_neg (by omega), o2]
  · rw [o1, if_neg (by omega), o3]
  · rw [o1] at hj
    rw [o1, if_pos (by omega), o3]
    rfl
theorem kp_ins_b {kc : Nat → Int32} {p c k : Nat} {x : Int32} (h : ∀ j, j < 600 → vp_nar .byte (kc j) = kc j) (hx : vp_nar .byte x = x) : ∀ j, j < 600 → vp_nar .byte (kp_ins kc p c k x j) = kp_ins kc p c k x j := by
  intro j hj
  unfold kp_ins upd
  by_cases e : j = 24 * p + k
  · rw [if_pos e]; exact hx
  · rw [if_neg e]
    unfold kp_sh
    split
    · exact h _ (by omega)
    · exact h _ hj
theorem kp_del_b {kc : Nat → Int32} {p s i : Nat} (h : ∀ j, j < 600 → vp_nar .byte (kc j) = kc j) (hi : 24 * p + i ≤ 600) : ∀ j, j < 600 → vp_nar .byte (kp_del kc p s i j) = kp_del kc p s i j := by
  intro j hj
  unfold kp_del
  split
  · exact h _ (by omega)
  · exact h _ hj
