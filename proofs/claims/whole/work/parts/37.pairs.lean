/-! ===== the component's pairs of states ===== -/
def pr_f (fo : Nat → Int32) (p q : Nat) : Prop := bt (fo (186 + p)) q = true
def pr_F (fo : Nat → Int32) (q : Nat) : Prop := bt (fo 216) q = true
def pr_n (ta : Nat → Int32) (vl : Nat → Nat) (p : Nat) : Nat := vl ((ta p).toNatClampNeg)
def pr_P (fo ta : Nat → Int32) (vl : Nat → Nat) (p q : Nat) : Prop := ∃ k, gl_P (pr_f fo) (pr_F fo) (pr_n ta vl) k p q
def pr_I (fo ta : Nat → Int32) (vl : Nat → Nat) (rw : Nat → Int32) : Prop := rw 30 = 1073741824 ∧ ∀ p, p < 30 → ∀ q, bt (rw p) q = true → pr_P fo ta vl p q
def pr_c (W : Nat) (fo ta : Nat → Int32) (vl : Nat → Nat) (rw : Nat → Int32) (s : Nat) : Prop := ∀ a q, a < W → bt (fo (186 + s)) a = true → (∃ s', s' < 31 ∧ bt (rw s) s' = true ∧ bt (fo (186 + s')) q = true) → q < W → pr_n ta vl q = pr_n ta vl a → bt (rw a) q = true
def pr_T (rw : Nat → Int32) : Nat := cb_n (fun k => bt (rw (k / 31)) (k % 31)) 961
theorem pr_T_lt {r r' : Nat → Int32} (hm : ∀ a q, bt (r a) q = true → bt (r' a) q = true) {a q : Nat} (ha : a < 31) (hq : q < 31) (h0 : bt (r a) q = false) (h1 : bt (r' a) q = true) : pr_T r < pr_T r' := by
  have e1 : (31 * a + q) / 31 = a := by omega
  have e2 : (31 * a + q) % 31 = q := by omega
  refine cb_lt (k := 31 * a + q) ?_ ?_ 961 (by omega) (fun i _ h => hm _ _ h)
  · show bt (r ((31 * a + q) / 31)) ((31 * a + q) % 31) = false
    rw [e1, e2]; exact h0
  · show bt (r' ((31 * a + q) / 31)) ((31 * a + q) % 31) = true
    rw [e1, e2]; exact h1
theorem pr_T_le (r : Nat → Int32) : pr_T r ≤ 961 := cb_le _ _
section
variable {drafted latestPlace positions fragments elementCount : Int32} {draftKind draftValue weights tokenAt fragmentBegin fragmentFirst fragmentLast fragmentEmpty reachedWith follow bearing accepting kindOfType leastOf greatestOf listedCount listedValue attributeUse attributeType typeOfName inUse nameOf parentOf kidCount kids hasValue valueOf hasAttribute attributeValue walked waiting : Nat → Int32}
/-- what the draft's automaton is, as far as pairs go -/
def pr_G (d W : Nat) (kd vl : Nat → Nat) (ta fo be : Nat → Int32) : Prop := W ≤ 30 ∧ d ≤ 16 ∧ (∀ q, bt (fo 216) q = true → q < W) ∧ (∀ p q, p < W → bt (fo (186 + p)) q = true → q < W) ∧ (∀ p, W ≤ p → p < 30 → fo (186 + p) = 0) ∧ (∀ n, n < 6 → ∀ q, bt (be (36 + n)) q = true ↔ q < W ∧ vl ((ta q).toNatClampNeg) = n) ∧ (∀ p, p < W → ∃ i, ta p = nI i ∧ i < d ∧ kd i = 0)
theorem sx_sp30 {post : Int32 → SX → Prop} {d W : Nat} {kd vl : Nat → Nat} {rw0 : Nat → Int32} {nx ot : Int32} (hk : dr_K d draftKind draftValue kd vl) (hG : pr_G d W kd vl tokenAt follow bearing) (hs : ∀ p q, bt nx p = true → bt ot q = true → p < W → q < W → pr_n tokenAt vl p = pr_n tokenAt vl q → pr_P follow tokenAt vl p q)
    (h : ∀ (r : Int32) (rw : Nat → Int32), pr_I follow tokenAt vl rw → (∀ a q, bt (rw0 a) q = true → bt (rw a) q = true) → (r = 0 ∨ r = 1) → (r = 0 → rw = rw0 ∧ ∀ a q, a < W → bt nx a = true → bt ot q = true → q < W → pr_n tokenAt vl q = pr_n tokenAt vl a → bt (rw0 a) q = true) → (r = 1 → ∃ a q, a < 31 ∧ q < 31 ∧ bt (rw0 a) q = false ∧ bt (rw a) q = true) → post r (drafted, latestPlace, nI W, fragments, elementCount, draftKind, draftValue, weights, tokenAt, fragmentBegin, fragmentFirst, fragmentLast, fragmentEmpty, rw, follow, bearing, accepting, kindOfType, leastOf, greatestOf, listedCount, listedValue, attributeUse, attributeType, typeOfName, inUse, nameOf, parentOf, kidCount, kids, hasValue, valueOf, hasAttribute, attributeValue, walked, waiting)) :
    ∀ (m p : Nat) (g : Int32) (rw : Nat → Int32), p + m = W → (g = 0 ∨ g = 1) → pr_I follow tokenAt vl rw → (∀ a q, bt (rw0 a) q = true → bt (rw a) q = true) → (g = 0 → rw = rw0 ∧ ∀ a q, a < p → bt nx a = true → bt ot q = true → q < W → pr_n tokenAt vl q = pr_n tokenAt vl a → bt (rw0 a) q = true) → (g = 1 → ∃ a q, a < 31 ∧ q < 31 ∧ bt (rw0 a) q = false ∧ bt (rw a) q = true) → wX_spreadPairs_30 post nx ot drafted latestPlace (nI W) fragments elementCount (m + 1) g (nI p) draftKind draftValue weights tokenAt fragmentBegin fragmentFirst fragmentLast fragmentEmpty rw follow bearing accepting kindOfType leastOf greatestOf listedCount listedValue attributeUse attributeType typeOfName inUse nameOf parentOf kidCount kids hasValue valueOf hasAttribute attributeValue walked waiting := by
  obtain ⟨hW, hd, gF, gφ, gz, gb, gt⟩ := hG
  intro m
  induction m with
  | zero =>
    intro p g rw hp hg hI hm h0 h1
    obtain rfl : p = W := by omega
    refine br_t (nI_le (Nat.le_refl _) (by omega)) ⟨by rcases hg with q | q <;> rw [q] <;> decide, h g rw hI hm hg h0 h1⟩
  | succ m ih =>
    intro p g rw hp hg hI hm h0 h1
    refine br_f (nI_ge (by omega) (by omega)) ?_
    cases hb : bt nx p with
    | false =>
      refine br_t ((bb_t nx (by omega)).mpr hb) (nm_r (nI_1 p) (ih (p + 1) g rw (by omega) hg hI hm (fun q => ⟨(h0 q).1, fun a b r1 r2 => ?_⟩) h1))
      refine (h0 q).2 a b ?_ r2
      have : a ≠ p := fun e => by rw [e, hb] at r2; cases r2
      omega
    | true =>
      obtain ⟨i, ti, hi, ki⟩ := gt p (by omega)
      obtain ⟨_, _, v6, _, dv⟩ := hk i hi
      have v6' := v6 ki
      have np : pr_n tokenAt vl p = vl i := by unfold pr_n; rw [ti, nb_cl (by omega)]
      refine br_f ((bb_t' nx (by omega)).mpr hb) ?_
      rw [nb_cl (n := p) (by omega), ti, nb_cl (n := i) (by omega), dv (Or.inl ki), show (36 : Int32) + nI (vl i) = nI (36 + vl i) from nI_add 36 _, nb_cl (n := 36 + vl i) (by omega)]
      refine ⟨vp_in_nI (by omega) (by omega), vp_in_nI (by omega) (by omega), vp_in_nI (by omega) (by omega), nm_e ?_⟩
      have hsame : ∀ q, bt (ot &&& bearing (36 + vl i)) q = true ↔ bt ot q = true ∧ q < W ∧ pr_n tokenAt vl q = vl i := by
        intro q
        rw [bb_andI, gb (vl i) v6' q]
        exact Iff.rfl
      have vp31 : vp_in (nI p) 31 := vp_in_nI (by omega) (by omega)
      have I' : pr_I follow tokenAt vl (upd rw p (rw p ||| (ot &&& bearing (36 + vl i)))) := by
        refine ⟨by rw [pk_un (by omega)]; exact hI.1, fun a ha q hq => ?_⟩
        by_cases e : a = p
        · rw [e, pk_us] at hq
          rcases bb_orI.mp hq with hq | hq
          · rw [e]; exact hI.2 p (by omega) q hq
          · obtain ⟨c1, c2, c3⟩ := (hsame q).mp hq
            rw [e]
            exact hs p q hb c1 (by omega) c2 (by rw [np, c3])
        · rw [pk_un e] at hq; exact hI.2 a ha q hq
      have M' : ∀ a q, bt (rw0 a) q = true → bt (upd rw p (rw p ||| (ot &&& bearing (36 + vl i))) a) q = true := by
        intro a q hq
        by_cases e : a = p
        · rw [e, pk_us]; rw [e] at hq; exact bb_orI.mpr (Or.inl (hm p q hq))
        · rw [pk_un e]; exact hm a q hq
      have t97 : ∀ z : Int32, (z = 0 ∨ z = 1) → (z = 0 → upd rw p (rw p ||| (ot &&& bearing (36 + vl i))) = rw0 ∧ ∀ a q, a < p + 1 → bt nx a = true → bt ot q = true → q < W → pr_n tokenAt vl q = pr_n tokenAt vl a → bt (rw0 a) q = true) → (z = 1 → ∃ a q, a < 31 ∧ q < 31 ∧ bt (rw0 a) q = false ∧ bt (upd rw p (rw p ||| (ot &&& bearing (36 + vl i))) a) q = true) → wX_spreadPairs_97 post (wX_spreadPairs_30 post nx ot drafted latestPlace (nI W) fragments elementCount (m + 1)) nx ot (nI p) (ot &&& bearing (36 + vl i)) z drafted latestPlace (nI W) fragments elementCount draftKind draftValue weights tokenAt fragmentBegin fragmentFirst fragmentLast fragmentEmpty rw follow bearing accepting kindOfType leastOf greatestOf listedCount listedValue attributeUse attributeType typeOfName inUse nameOf parentOf kidCount kids hasValue valueOf hasAttribute attributeValue walked waiting := by
        intro z hz z0 z1
        refine ⟨vp31, vp31, nm_r (e' := upd rw p (rw p ||| (ot &&& bearing (36 + vl i)))) (by rw [nb_cl (by omega)]) (nm_r (nI_1 p) (ih (p + 1) z _ (by omega) hz I' M' z0 z1))⟩
      have keep : ∀ a q, bt (rw a) q = true → bt (upd rw p (rw p ||| (ot &&& bearing (36 + vl i))) a) q = true := by
        intro a q hq
        by_cases e : a = p
        · rw [e, pk_us]; rw [e] at hq; exact bb_orI.mpr (Or.inl hq)
        · rw [pk_un e]; exact hq
      rcases hg with g0 | g1
      · obtain ⟨er, ec⟩ := h0 g0
        refine br_t g0 ⟨vp31, ?_⟩
        by_cases z : (ot &&& bearing (36 + vl i)) &&& (rw p ^^^ (-1)) = 0
        · refine br_t z (t97 0 (Or.inl rfl) (fun _ => ?_) (fun q => absurd q (by decide)))
          have sub : ∀ q, bt (ot &&& bearing (36 + vl i)) q = true → bt (rw p) q = true := by
            intro q hq
            cases hv : bt (rw p) q with
            | true => rfl
            | false =>
              have := bb_notI.mpr ⟨hq, hv⟩
              rw [z, b_0] at this
              cases this
          have e1 : rw p ||| (ot &&& bearing (36 + vl i)) = rw p := bb_eqI (fun q => by
            rw [bb_orI]
            exact ⟨fun r => r.elim id (sub q), Or.inl⟩)
          rw [e1, kp_id]
          refine ⟨er, fun a q r1 r2 r3 r4 r5 => ?_⟩
          by_cases e : a = p
          · rw [e] at r5 ⊢
            rw [← er]
            exact sub q ((hsame q).mpr ⟨r3, r4, by rw [r5, np]⟩)
          · exact ec a q (by omega) r2 r3 r4 r5
        · refine br_f z (t97 1 (Or.inr rfl) (fun q => absurd q (by decide)) (fun _ => ?_))
          obtain ⟨q, hq⟩ := bb_ne.mp z
          obtain ⟨c1, c2⟩ := bb_notI.mp hq
          obtain ⟨_, c3, _⟩ := (hsame q).mp c1
          exact ⟨p, q, by omega, by omega, by rw [← er]; exact c2, by rw [pk_us]; exact bb_orI.mpr (Or.inr c1)⟩
      · have g10 : ¬ g = 0 := by rw [g1]; decide
        refine br_f g10 (t97 1 (Or.inr rfl) (fun q => absurd q (by decide)) (fun _ => ?_))
        obtain ⟨a, q, c1, c2, c3, c4⟩ := h1 g1
        exact ⟨a, q, c1, c2, c3, keep a q c4⟩
theorem sx_spread {post : Int32 → SX → Prop} {d W s : Nat} {kd vl : Nat → Nat} {rw0 : Nat → Int32} (hk : dr_K d draftKind draftValue kd vl) (hG : pr_G d W kd vl tokenAt follow bearing) (hI0 : pr_I follow tokenAt vl rw0) (hs31 : s < 31)
    (h : ∀ (r : Int32) (rw : Nat → Int32), pr_I follow tokenAt vl rw → (∀ a q, bt (rw0 a) q = true → bt (rw a) q = true) → (r = 0 ∨ r = 1) → (r = 0 → rw = rw0 ∧ pr_c W follow tokenAt vl rw0 s) → (r = 1 → ∃ a q, a < 31 ∧ q < 31 ∧ bt (rw0 a) q = false ∧ bt (rw a) q = true) → post r (drafted, latestPlace, nI W, fragments, elementCount, draftKind, draftValue, weights, tokenAt, fragmentBegin, fragmentFirst, fragmentLast, fragmentEmpty, rw, follow, bearing, accepting, kindOfType, leastOf, greatestOf, listedCount, listedValue, attributeUse, attributeType, typeOfName, inUse, nameOf, parentOf, kidCount, kids, hasValue, valueOf, hasAttribute, attributeValue, walked, waiting)) : wpX_spreadPairs post (drafted, latestPlace, nI W, fragments, elementCount, draftKind, draftValue, weights, tokenAt, fragmentBegin, fragmentFirst, fragmentLast, fragmentEmpty, rw0, follow, bearing, accepting, kindOfType, leastOf, greatestOf, listedCount, listedValue, attributeUse, attributeType, typeOfName, inUse, nameOf, parentOf, kidCount, kids, hasValue, valueOf, hasAttribute, attributeValue, walked, waiting) (nI s) := by
  have hG' := hG
  obtain ⟨hW, hd, gF, gφ, gz, gb, gt⟩ := hG'
  have fl : ∀ q, bt (xa_fl (fun s => follow (31 * 6 + s)) (rw0 s) 31) q = true ↔ ∃ s', s' < 31 ∧ bt (rw0 s) s' = true ∧ bt (follow (186 + s')) q = true := fun q => xa_flI 31
  unfold wpX_spreadPairs
  dsimp only
  rw [show (186 : Int32) + nI s = nI (186 + s) from nI_add 186 s, nb_cl (n := 186 + s) (by omega), nb_cl (n := s) (by omega)]
  refine ⟨vp_in_nI (by omega) (by omega), nm_e ⟨vp_in_nI hs31 (by omega), ?_⟩⟩
  refine sx_followers (t := 6) (by omega) ⟨W + 1, ?_⟩
  refine sx_sp30 (rw0 := rw0) (d := d) (W := W) (kd := kd) (vl := vl) hk hG (fun p q h1 h2 hp hq hn => ?_) (fun r rw c1 c2 c3 c4 c5 => h r rw c1 c2 c3 (fun q => ⟨(c4 q).1, fun a b r1 r2 r3 r4 r5 => (c4 q).2 a b r1 r2 ((fl b).mpr r3) r4 r5⟩) c5) W 0 0 rw0 (by omega) (Or.inl rfl) hI0 (fun _ _ q => q) (fun _ => ⟨rfl, fun a q r => by omega⟩) (fun q => absurd q (by decide))
  obtain ⟨s', l1, l2, l3⟩ := (fl q).mp h2
  by_cases e : s = 30
  · rw [e, hI0.1, bb_30, decide_eq_true_iff] at l2
    rw [l2] at l3
    rw [e] at h1
    exact ⟨0, h1, l3, hn⟩
  · obtain ⟨k, hk'⟩ := hI0.2 s (by omega) s' l2
    exact ⟨k + 1, hn, s, s', hk', h1, l3⟩
theorem sx_rnd49 {post : SX → Prop} {J : Int32 → Int32 → Int32 → Int32 → Int32 → Int32 → Int32 → (Nat → Int32) → (Nat → Int32) → (Nat → Int32) → (Nat → Int32) → (Nat → Int32) → (Nat → Int32) → (Nat → Int32) → (Nat → Int32) → (Nat → Int32) → (Nat → Int32) → (Nat → Int32) → (Nat → Int32) → (Nat → Int32) → (Nat → Int32) → (Nat → Int32) → (Nat → Int32) → (Nat → Int32) → (Nat → Int32) → (Nat → Int32) → (Nat → Int32) → (Nat → Int32) → (Nat → Int32) → (Nat → Int32) → (Nat → Int32) → (Nat → Int32) → (Nat → Int32) → (Nat → Int32) → (Nat → Int32) → (Nat → Int32) → (Nat → Int32) → (Nat → Int32) → Prop} {d W rd : Nat} {kd vl : Nat → Nat} {rw0 : Nat → Int32} (hk : dr_K d draftKind draftValue kd vl) (hG : pr_G d W kd vl tokenAt follow bearing)
    (h : ∀ (g : Int32) (rw : Nat → Int32), pr_I follow tokenAt vl rw → (g = 0 ∨ g = 1) → (g = 0 → rw = rw0 ∧ ∀ s, s < 31 → pr_c W follow tokenAt vl rw0 s) → (g = 1 → pr_T rw0 < pr_T rw) → J g (nI (rd + 1)) drafted latestPlace (nI W) fragments elementCount draftKind draftValue weights tokenAt fragmentBegin fragmentFirst fragmentLast fragmentEmpty rw follow bearing accepting kindOfType leastOf greatestOf listedCount listedValue attributeUse attributeType typeOfName inUse nameOf parentOf kidCount kids hasValue valueOf hasAttribute attributeValue walked waiting) : ∀ (m s : Nat) (g : Int32) (rw : Nat → Int32), s + m = 31 → (g = 0 ∨ g = 1) → pr_I follow tokenAt vl rw → (∀ a q, bt (rw0 a) q = true → bt (rw a) q = true) → (g = 0 → rw = rw0 ∧ ∀ s', s' < s → pr_c W follow tokenAt vl rw0 s') → (g = 1 → pr_T rw0 < pr_T rw) → wX_pairStates_49 post J (nI rd) (m + 1) g (nI s) drafted latestPlace (nI W) fragments elementCount draftKind draftValue weights tokenAt fragmentBegin fragmentFirst fragmentLast fragmentEmpty rw follow bearing accepting kindOfType leastOf greatestOf listedCount listedValue attributeUse attributeType typeOfName inUse nameOf parentOf kidCount kids hasValue valueOf hasAttribute attributeValue walked waiting := by
  intro m
  induction m with
  | zero =>
    intro s g rw hs hg hI hm h0 h1
    obtain rfl : s = 31 := by omega
    exact br_t (by decide) (nm_r (nI_1 rd) (h g rw hI hg h0 h1))
  | succ m ih =>
    intro s g rw hs hg hI hm h0 h1
    refine br_f (nI_ge (b := 31) (by omega) (by omega)) ?_
    refine sx_spread (d := d) (W := W) (kd := kd) (vl := vl) hk hG hI (by omega) (fun r rw' c1 c2 c3 c4 c5 => ?_)
    have mono : ∀ a q, bt (rw0 a) q = true → bt (rw' a) q = true := fun a q hq => c2 a q (hm a q hq)
    have grow : r = 1 → pr_T rw < pr_T rw' := fun r1 => by
      obtain ⟨a, q, l1, l2, l3, l4⟩ := c5 r1
      exact pr_T_lt c2 l1 l2 l3 l4
    have le : pr_T rw ≤ pr_T rw' := cb_mono 961 (fun i _ hi => c2 _ _ hi)
    have lt0 : pr_T rw0 ≤ pr_T rw := cb_mono 961 (fun i _ hi => hm _ _ hi)
    rcases hg with g0 | g1
    · obtain ⟨er, ec⟩ := h0 g0
      refine br_t g0 ?_
      rcases c3 with r0 | r1
      · obtain ⟨e2, e3⟩ := c4 r0
        refine br_t r0 (nm_r (nI_1 s) (ih (s + 1) 0 rw' (by omega) (Or.inl rfl) c1 mono (fun _ => ⟨by rw [e2, er], fun s' hs' => ?_⟩) (fun q => absurd q (by decide))))
        by_cases e : s' = s
        · rw [e, ← er]; exact e3
        · exact ec s' (by omega)
      · have rn : ¬ r = 0 := by rw [r1]; decide
        exact br_f rn (nm_r (nI_1 s) (ih (s + 1) 1 rw' (by omega) (Or.inr rfl) c1 mono (fun q => absurd q (by decide)) (fun _ => by have := grow r1; omega)))
    · have gn : ¬ g = 0 := by rw [g1]; decide
      exact br_f gn (nm_r (nI_1 s) (ih (s + 1) 1 rw' (by omega) (Or.inr rfl) c1 mono (fun q => absurd q (by decide)) (fun _ => by have := h1 g1; omega)))
theorem sx_out34 {post : SX → Prop} {d W : Nat} {kd vl : Nat → Nat} (hk : dr_K d draftKind draftValue kd vl) (hG : pr_G d W kd vl tokenAt follow bearing) (h : ∀ rw : Nat → Int32, pr_I follow tokenAt vl rw → (∀ s, s < 31 → pr_c W follow tokenAt vl rw s) → post (drafted, latestPlace, nI W, fragments, elementCount, draftKind, draftValue, weights, tokenAt, fragmentBegin, fragmentFirst, fragmentLast, fragmentEmpty, rw, follow, bearing, accepting, kindOfType, leastOf, greatestOf, listedCount, listedValue, attributeUse, attributeType, typeOfName, inUse, nameOf, parentOf, kidCount, kids, hasValue, valueOf, hasAttribute, attributeValue, walked, waiting)) : ∀ (m rd : Nat) (rw : Nat → Int32), rd + m = 962 → pr_I follow tokenAt vl rw → rd ≤ pr_T rw → wX_pairStates_34 post (m + 1) 1 (nI rd) drafted latestPlace (nI W) fragments elementCount draftKind draftValue weights tokenAt fragmentBegin fragmentFirst fragmentLast fragmentEmpty rw follow bearing accepting kindOfType leastOf greatestOf listedCount listedValue attributeUse attributeType typeOfName inUse nameOf parentOf kidCount kids hasValue valueOf hasAttribute attributeValue walked waiting := by
  intro m
  induction m with
  | zero =>
    intro rd rw hrd hI hT
    have := pr_T_le rw
    omega
  | succ m ih =>
    intro rd rw hrd hI hT
    refine br_f nb_10 (br_f (nI_ge (b := 962) (by omega) (by omega)) ⟨32, ?_⟩)
    refine sx_rnd49 (rw0 := rw) (rd := rd) (d := d) (W := W) (kd := kd) (vl := vl) hk hG (fun g rw' c1 c2 c3 c4 => ?_) 31 0 0 rw (by omega) (Or.inl rfl) hI (fun _ _ q => q) (fun _ => ⟨rfl, fun s' hs' => by omega⟩) (fun q => absurd q (by decide))
    rcases c2 with g0 | g1
    · obtain ⟨e1, e2⟩ := c3 g0
      rw [g0, e1]
      exact br_t rfl (h rw hI e2)
    · rw [g1]
      exact ih (rd + 1) rw' (by omega) c1 (by have := c4 g1; omega)
theorem sx_ps2 {post : SX → Prop} {d W : Nat} {kd vl : Nat → Nat} (hk : dr_K d draftKind draftValue kd vl) (hG : pr_G d W kd vl tokenAt follow bearing) (h : ∀ rw : Nat → Int32, pr_I follow tokenAt vl rw → (∀ s, s < 31 → pr_c W follow tokenAt vl rw s) → post (drafted, latestPlace, nI W, fragments, elementCount, draftKind, draftValue, weights, tokenAt, fragmentBegin, fragmentFirst, fragmentLast, fragmentEmpty, rw, follow, bearing, accepting, kindOfType, leastOf, greatestOf, listedCount, listedValue, attributeUse, attributeType, typeOfName, inUse, nameOf, parentOf, kidCount, kids, hasValue, valueOf, hasAttribute, attributeValue, walked, waiting)) : ∀ (m i : Nat) (rw : Nat → Int32), i + m = 31 → (∀ j, j < i → rw j = 0) → wX_pairStates_2 post drafted latestPlace (nI W) fragments elementCount (m + 1) (nI i) draftKind draftValue weights tokenAt fragmentBegin fragmentFirst fragmentLast fragmentEmpty rw follow bearing accepting kindOfType leastOf greatestOf listedCount listedValue attributeUse attributeType typeOfName inUse nameOf parentOf kidCount kids hasValue valueOf hasAttribute attributeValue walked waiting := by
  intro m
  induction m with
  | zero =>
    intro i rw hi hz
    obtain rfl : i = 31 := by omega
    refine br_t (by decide) (nm_e ⟨963, sx_out34 hk hG h 962 0 _ (by omega) ⟨pk_us, fun p hp q hq => ?_⟩ (Nat.zero_le _)⟩)
    rw [pk_un (by omega), hz p (by omega), b_0] at hq
    cases hq
  | succ m ih =>
    intro i rw hi hz
    refine br_f (nI_ge (b := 31) (by omega) (by omega)) ⟨vp_in_nI (by omega) (by omega), nm_r (e' := upd rw i 0) (by rw [nb_cl (by omega)]) (nm_r (nI_1 i) (ih (i + 1) _ (by omega) (fun j hj => ?_)))⟩
    by_cases q : j = i
    · rw [q, pk_us]
    · rw [pk_un q]; exact hz j (by omega)
/-- reachedWith holds just the pairs -/
theorem sx_pairStates {post : SX → Prop} {d W : Nat} {kd vl : Nat → Nat} (hk : dr_K d draftKind draftValue kd vl) (hG : pr_G d W kd vl tokenAt follow bearing) (h : ∀ rw : Nat → Int32, (∀ p q, p < W → (bt (rw p) q = true ↔ pr_P follow tokenAt vl p q)) → post (drafted, latestPlace, nI W, fragments, elementCount, draftKind, draftValue, weights, tokenAt, fragmentBegin, fragmentFirst, fragmentLast, fragmentEmpty, rw, follow, bearing, accepting, kindOfType, leastOf, greatestOf, listedCount, listedValue, attributeUse, attributeType, typeOfName, inUse, nameOf, parentOf, kidCount, kids, hasValue, valueOf, hasAttribute, attributeValue, walked, waiting)) : wpX_pairStates post (drafted, latestPlace, nI W, fragments, elementCount, draftKind, draftValue, weights, tokenAt, fragmentBegin, fragmentFirst, fragmentLast, fragmentEmpty, reachedWith, follow, bearing, accepting, kindOfType, leastOf, greatestOf, listedCount, listedValue, attributeUse, attributeType, typeOfName, inUse, nameOf, parentOf, kidCount, kids, hasValue, valueOf, hasAttribute, attributeValue, walked, waiting) := by
  refine ⟨32, sx_ps2 hk hG (fun rw hI hc => h rw (fun p q hp => ⟨fun hq => hI.2 p (by have := hG.1; omega) q hq, fun hq => ?_⟩)) 31 0 reachedWith (by omega) (fun j hj => by omega)⟩
  obtain ⟨hW, hd, gF, gφ, gz, gb, gt⟩ := hG
  obtain ⟨k, hk'⟩ := hq
  have key : ∀ k p q, gl_P (pr_f follow) (pr_F follow) (pr_n tokenAt vl) k p q → p < W ∧ q < W ∧ bt (rw p) q = true := by
    intro k
    induction k with
    | zero =>
      rintro p q ⟨c1, c2, c3⟩
      have l1 := gF p c1
      have l2 := gF q c2
      exact ⟨l1, l2, hc 30 (by omega) p q l1 c1 ⟨30, by omega, by rw [hI.1, bb_30, decide_eq_true_iff], c2⟩ l2 c3.symm⟩
    | succ k ih =>
      rintro p q ⟨c3, p', q', c0, c1, c2⟩
      obtain ⟨l1, l2, l3⟩ := ih p' q' c0
      have m1 := gφ p' p l1 c1
      have m2 := gφ q' q l2 c2
      exact ⟨m1, m2, hc p' (by omega) p q m1 c1 ⟨q', by omega, l3, c2⟩ m2 c3.symm⟩
  exact (key k p q hk').2.2
/-- x: the least of the tokens of which D holds -/
def ld_S (D : Nat → Prop) (x : Int32) : Prop := (x = -1 ∧ ∀ t, ¬ D t) ∨ (∃ t, t < 16 ∧ x = nI t ∧ D t ∧ ∀ t', D t' → t ≤ t')
theorem sx_ld14 {post : Int32 → Prop} {J : Int32 → Int32 → Prop} {d W p : Nat} {kd vl : Nat → Nat} {D : Nat → Prop} (hG : pr_G d W kd vl tokenAt follow bearing) (hp : p < W)
    (h : ∀ x : Int32, ld_S (fun t => D t ∨ (t = (tokenAt p).toNatClampNeg ∧ ∃ q, q < W ∧ bt (reachedWith p) q = true ∧ (tokenAt p).toNatClampNeg ≠ (tokenAt q).toNatClampNeg)) x → J x (nI (p + 1))) : ∀ (m q : Nat) (x : Int32), q + m = W → ld_S (fun t => D t ∨ (t = (tokenAt p).toNatClampNeg ∧ ∃ q', q' < q ∧ bt (reachedWith p) q' = true ∧ (tokenAt p).toNatClampNeg ≠ (tokenAt q').toNatClampNeg)) x → wX_leastDoubtfulToken_14 post J (nI p) drafted latestPlace (nI W) fragments elementCount draftKind draftValue weights tokenAt fragmentBegin fragmentFirst fragmentLast fragmentEmpty reachedWith follow bearing accepting kindOfType leastOf greatestOf listedCount listedValue attributeUse attributeType typeOfName inUse nameOf parentOf kidCount kids hasValue valueOf hasAttribute attributeValue walked waiting (m + 1) x (nI q) := by
  obtain ⟨hW, hd, gF, gφ, gz, gb, gt⟩ := hG
  obtain ⟨i, ti, hi, ki⟩ := gt p hp
  have cp : (tokenAt p).toNatClampNeg = i := by rw [ti, nb_cl (by omega)]
  intro m
  induction m with
  | zero =>
    intro q x hq hx
    obtain rfl : q = W := by omega
    exact br_t (nI_le (Nat.le_refl _) (by omega)) (nm_r (nI_1 p) (h x hx))
  | succ m ih =>
    intro q x hq hx
    obtain ⟨j, tj, hj, kj⟩ := gt q (by omega)
    have cq : (tokenAt q).toNatClampNeg = j := by rw [tj, nb_cl (by omega)]
    have vp : vp_in (nI p) 30 := vp_in_nI (by omega) (by omega)
    have skip : ¬ (bt (reachedWith p) q = true ∧ i ≠ j) → wX_leastDoubtfulToken_54 post J (wX_leastDoubtfulToken_14 post J (nI p) drafted latestPlace (nI W) fragments elementCount draftKind draftValue weights tokenAt fragmentBegin fragmentFirst fragmentLast fragmentEmpty reachedWith follow bearing accepting kindOfType leastOf greatestOf listedCount listedValue attributeUse attributeType typeOfName inUse nameOf parentOf kidCount kids hasValue valueOf hasAttribute attributeValue walked waiting (m + 1)) x (nI p) (nI q) drafted latestPlace (nI W) fragments elementCount draftKind draftValue weights tokenAt fragmentBegin fragmentFirst fragmentLast fragmentEmpty reachedWith follow bearing accepting kindOfType leastOf greatestOf listedCount listedValue attributeUse attributeType typeOfName inUse nameOf parentOf kidCount kids hasValue valueOf hasAttribute attributeValue walked waiting := by
      intro hn
      refine br_t rfl (nm_r (nI_1 q) (ih (q + 1) x (by omega) ?_))
      have eq : ∀ t, (D t ∨ (t = (tokenAt p).toNatClampNeg ∧ ∃ q', q' < q + 1 ∧ bt (reachedWith p) q' = true ∧ (tokenAt p).toNatClampNeg ≠ (tokenAt q').toNatClampNeg)) ↔ (D t ∨ (t = (tokenAt p).toNatClampNeg ∧ ∃ q', q' < q ∧ bt (reachedWith p) q' = true ∧ (tokenAt p).toNatClampNeg ≠ (tokenAt q').toNatClampNeg)) := by
        intro t
        constructor
        · rintro (r | ⟨r, q', r1, r2, r3⟩)
          · exact Or.inl r
          · refine Or.inr ⟨r, q', ?_, r2, r3⟩
            by_cases e : q' = q
            · exfalso
              rw [e] at r2 r3
              rw [cp, cq] at r3
              exact hn ⟨r2, r3⟩
            · omega
        · rintro (r | ⟨r, q', r1, r2, r3⟩)
          · exact Or.inl r
          · exact Or.inr ⟨r, q', by omega, r2, r3⟩
      rcases hx with ⟨e, r⟩ | ⟨t, t16, e, r1, r2⟩
      · exact Or.inl ⟨e, fun t r' => r t ((eq t).mp r')⟩
      · exact Or.inr ⟨t, t16, e, (eq t).mpr r1, fun t' r' => r2 t' ((eq t').mp r')⟩
    refine br_f (nI_ge (by omega) (by omega)) ⟨vp_in_nI (by omega) (by omega), ?_⟩
    rw [nb_cl (n := p) (by omega), nb_cl (n := q) (by omega)]
    cases hb : bt (reachedWith p) q with
    | false => exact br_t ((bb_t _ (by omega)).mpr hb) (skip (fun r => by rw [hb] at r; exact absurd r.1 Bool.false_ne_true))
    | true =>
      refine br_f ((bb_t' _ (by omega)).mpr hb) ⟨vp, vp_in_nI (by omega) (by omega), ?_⟩
      rw [ti, tj]
      refine pk_eq i j (fun e => skip (fun r => r.2 e)) (fun e => ?_)
      -- a doubt
      refine br_f nb_10 ?_
      have pos : ∀ t, (D t ∨ (t = (tokenAt p).toNatClampNeg ∧ ∃ q', q' < q ∧ bt (reachedWith p) q' = true ∧ (tokenAt p).toNatClampNeg ≠ (tokenAt q').toNatClampNeg)) → (D t ∨ (t = (tokenAt p).toNatClampNeg ∧ ∃ q', q' < q + 1 ∧ bt (reachedWith p) q' = true ∧ (tokenAt p).toNatClampNeg ≠ (tokenAt q').toNatClampNeg)) := by
        rintro t (r | ⟨r, q', r1, r2, r3⟩)
        · exact Or.inl r
        · exact Or.inr ⟨r, q', by omega, r2, r3⟩
      have neg : ∀ t, (D t ∨ (t = (tokenAt p).toNatClampNeg ∧ ∃ q', q' < q + 1 ∧ bt (reachedWith p) q' = true ∧ (tokenAt p).toNatClampNeg ≠ (tokenAt q').toNatClampNeg)) → (D t ∨ (t = (tokenAt p).toNatClampNeg ∧ ∃ q', q' < q ∧ bt (reachedWith p) q' = true ∧ (tokenAt p).toNatClampNeg ≠ (tokenAt q').toNatClampNeg)) ∨ t = i := by
        rintro t (r | ⟨r, q', r1, r2, r3⟩)
        · exact Or.inl (Or.inl r)
        · exact Or.inr (by rw [r, cp])
      have me : D i ∨ (i = (tokenAt p).toNatClampNeg ∧ ∃ q', q' < q + 1 ∧ bt (reachedWith p) q' = true ∧ (tokenAt p).toNatClampNeg ≠ (tokenAt q').toNatClampNeg) := Or.inr ⟨cp.symm, q, by omega, hb, by rw [cp, cq]; exact e⟩
      rcases hx with ⟨e1, r⟩ | ⟨t, t16, e1, r1, r2⟩
      · refine br_t e1 ⟨vp, nm_r (e' := nI i) (by rw [nb_cl (by omega), ti]) (nm_r (nI_1 q) (ih (q + 1) (nI i) (by omega) (Or.inr ⟨i, by omega, rfl, me, fun t' r' => ?_⟩)))⟩
        rcases neg t' r' with r' | r'
        · exact absurd r' (r t')
        · omega
      · rw [e1]
        refine br_f (nb_nm (by omega)) ⟨vp, ?_⟩
        rw [nb_cl (n := p) (by omega), ti]
        refine pk_le t i (fun hle => nm_r (nI_1 q) (ih (q + 1) (nI t) (by omega) (Or.inr ⟨t, t16, rfl, pos t r1, fun t' r' => ?_⟩))) (fun hlt => ⟨vp, nm_e (nm_r (nI_1 q) (ih (q + 1) (nI i) (by omega) (Or.inr ⟨i, by omega, rfl, me, fun t' r' => ?_⟩)))⟩)
        · rcases neg t' r' with r' | r'
          · exact r2 t' r'
          · omega
        · rcases neg t' r' with r' | r'
          · have := r2 t' r'; omega
          · omega
theorem sx_ld4 {post : Int32 → Prop} {d W : Nat} {kd vl : Nat → Nat} (hG : pr_G d W kd vl tokenAt follow bearing) (h : ∀ x : Int32, ld_S (fun t => ∃ p q, p < W ∧ q < W ∧ t = (tokenAt p).toNatClampNeg ∧ bt (reachedWith p) q = true ∧ (tokenAt p).toNatClampNeg ≠ (tokenAt q).toNatClampNeg) x → post x) : ∀ (m p : Nat) (x : Int32), p + m = W → ld_S (fun t => ∃ p' q, p' < p ∧ q < W ∧ t = (tokenAt p').toNatClampNeg ∧ bt (reachedWith p') q = true ∧ (tokenAt p').toNatClampNeg ≠ (tokenAt q).toNatClampNeg) x → wX_leastDoubtfulToken_4 post drafted latestPlace (nI W) fragments elementCount draftKind draftValue weights tokenAt fragmentBegin fragmentFirst fragmentLast fragmentEmpty reachedWith follow bearing accepting kindOfType leastOf greatestOf listedCount listedValue attributeUse attributeType typeOfName inUse nameOf parentOf kidCount kids hasValue valueOf hasAttribute attributeValue walked waiting (m + 1) x (nI p) := by
  have hW := hG.1
  have cg : ∀ (D E : Nat → Prop) (x : Int32), (∀ t, D t ↔ E t) → ld_S D x → ld_S E x := by
    rintro D E x hDE (⟨e, r⟩ | ⟨t, t16, e, r1, r2⟩)
    · exact Or.inl ⟨e, fun t r' => r t ((hDE t).mpr r')⟩
    · exact Or.inr ⟨t, t16, e, (hDE t).mp r1, fun t' r' => r2 t' ((hDE t').mpr r')⟩
  intro m
  induction m with
  | zero =>
    intro p x hp hx
    obtain rfl : p = W := by omega
    exact br_t (nI_le (Nat.le_refl _) (by omega)) (h x hx)
  | succ m ih =>
    intro p x hp hx
    refine br_f (nI_ge (by omega) (by omega)) ⟨W + 1, ?_⟩
    refine sx_ld14 (d := d) (W := W) (kd := kd) (vl := vl) (D := fun t => ∃ p' q, p' < p ∧ q < W ∧ t = (tokenAt p').toNatClampNeg ∧ bt (reachedWith p') q = true ∧ (tokenAt p').toNatClampNeg ≠ (tokenAt q).toNatClampNeg) hG (by omega) (fun x' hx' => ih (p + 1) x' (by omega) (cg _ _ x' (fun t => ?_) hx')) W 0 x (by omega) (cg _ _ x (fun t => ?_) hx)
    · constructor
      · rintro (⟨p', q, r1, r2⟩ | ⟨r, q, r2, r3, r4⟩)
        · exact ⟨p', q, by omega, r2⟩
        · exact ⟨p, q, by omega, r2, r, r3, r4⟩
      · rintro ⟨p', q, r1, r2, r3, r4, r5⟩
        by_cases e : p' = p
        · rw [e] at r3 r4 r5; exact Or.inr ⟨r3, q, r2, r4, r5⟩
        · exact Or.inl ⟨p', q, by omega, r2, r3, r4, r5⟩
    · constructor
      · exact Or.inl
      · rintro (r | ⟨_, q', r, _⟩)
        · exact r
        · omega
theorem sx_least {post : Int32 → Prop} {d W : Nat} {kd vl : Nat → Nat} (hG : pr_G d W kd vl tokenAt follow bearing) (hr : ∀ p q, p < W → (bt (reachedWith p) q = true ↔ pr_P follow tokenAt vl p q)) (h : ∀ x : Int32, cf_best (fun a b => ∃ p q, pr_P follow tokenAt vl p q ∧ (tokenAt p).toNatClampNeg = a ∧ (tokenAt q).toNatClampNeg = b) x → post x) : wpX_leastDoubtfulToken post (drafted, latestPlace, nI W, fragments, elementCount, draftKind, draftValue, weights, tokenAt, fragmentBegin, fragmentFirst, fragmentLast, fragmentEmpty, reachedWith, follow, bearing, accepting, kindOfType, leastOf, greatestOf, listedCount, listedValue, attributeUse, attributeType, typeOfName, inUse, nameOf, parentOf, kidCount, kids, hasValue, valueOf, hasAttribute, attributeValue, walked, waiting) := by
  have hG' := hG
  obtain ⟨hW, hd, gF, gφ, gz, gb, gt⟩ := hG'
  have lt : ∀ p q, pr_P follow tokenAt vl p q → p < W ∧ q < W := by
    rintro p q ⟨k, hk⟩
    obtain ⟨a, b, _⟩ := gl_P_D (D := fun p => p < W) gF gφ k p q hk
    exact ⟨a, b⟩
  refine ⟨W + 1, sx_ld4 hG (fun x hx => h x ?_) W 0 (-1) (by omega) (Or.inl ⟨rfl, fun t ⟨p', q, r, _⟩ => by omega⟩)⟩
  rcases hx with ⟨e, r⟩ | ⟨t, t16, e, ⟨p, q, r1, r2, r3, r4, r5⟩, r6⟩
  · refine Or.inl ⟨e, fun a b hab ⟨p, q, hP, ea, eb⟩ => r a ⟨p, q, (lt p q hP).1, (lt p q hP).2, ea.symm, (hr p q (lt p q hP).1).mpr hP, by rw [ea, eb]; exact hab⟩⟩
  · refine Or.inr ⟨t, t16, e, ⟨(tokenAt q).toNatClampNeg, by rw [r3]; exact fun q2 => r5 q2.symm, p, q, (hr p q r1).mp r4, r3.symm, rfl⟩, fun a b hab ⟨p, q, hP, ea, eb⟩ => r6 a ⟨p, q, (lt p q hP).1, (lt p q hP).2, ea.symm, (hr p q (lt p q hP).1).mpr hP, by rw [ea, eb]; exact hab⟩⟩
end
