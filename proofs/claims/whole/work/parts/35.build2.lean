/-! ===== the component's automaton, over the tree ===== -/
def dr_K (d : Nat) (dk dv : Nat → Int32) (kd vl : Nat → Nat) : Prop := ∀ i, i < d → dk i = nI (kd i) ∧ kd i < 9 ∧ (kd i = 0 → vl i < 6) ∧ (kd i = 8 → vl i < 16 ∧ vl i / 4 ≤ vl i % 4 ∧ 1 ≤ vl i % 4) ∧ (kd i = 0 ∨ kd i = 8 → dv i = nI (vl i))
section
variable {drafted latestPlace positions fragments elementCount : Int32} {draftKind draftValue weights tokenAt fragmentBegin fragmentFirst fragmentLast fragmentEmpty reachedWith follow bearing accepting kindOfType leastOf greatestOf listedCount listedValue attributeUse attributeType typeOfName inUse nameOf parentOf kidCount kids hasValue valueOf hasAttribute attributeValue walked waiting : Nat → Int32}
theorem sx_baT {post : SX → Prop} {d : Nat} {kd vl : Nat → Nat} (hd : d ≤ 16) (hk : dr_K d draftKind draftValue kd vl) : ∀ (R : ex_T) (b f P fu : Nat) (ta fb ff fl fe fo : Nat → Int32), ex_S kd vl R b → ex_W R → b + ex_n R ≤ d → f + b + ex_n R ≤ 16 → P + ex_w R ≤ 30 → (∀ p, P ≤ p → p < 30 → fo (186 + p) = 0) → (∀ ta' fb' ff' fl' fe' fo' : Nat → Int32, xb_Q d kd (ex_w R) (ex_L id R) f P ta fb ff fl fe fo ta' fb' ff' fl' fe' fo' → wX_buildAutomaton_11 post fu (nI b + (-1)) (nI d) latestPlace (nI (P + ex_w R)) (nI (f + 1)) elementCount draftKind draftValue weights ta' fb' ff' fl' fe' reachedWith fo' bearing accepting kindOfType leastOf greatestOf listedCount listedValue attributeUse attributeType typeOfName inUse nameOf parentOf kidCount kids hasValue valueOf hasAttribute attributeValue walked waiting) → wX_buildAutomaton_11 post (fu + ex_n R) (nI (b + ex_n R) + (-1)) (nI d) latestPlace (nI P) (nI f) elementCount draftKind draftValue weights ta fb ff fl fe reachedWith fo bearing accepting kindOfType leastOf greatestOf listedCount listedValue attributeUse attributeType typeOfName inUse nameOf parentOf kidCount kids hasValue valueOf hasAttribute attributeValue walked waiting := by
  have two : ∀ (A B R : ex_T) (kk : Nat), (kk = 1 ∨ kk = 2 ∨ kk = 7) → ex_w R = (if kk = 7 then 2 * (ex_w A + ex_w B) else ex_w A + ex_w B) → (∀ u, ex_L id R u ↔ (kk = 1 ∧ ex_cat (ex_L id A) (ex_L id B) u) ∨ (kk = 2 ∧ (ex_L id A u ∨ ex_L id B u)) ∨ (kk = 7 ∧ (ex_cat (ex_L id A) (ex_L id B) u ∨ ex_cat (ex_L id B) (ex_L id A) u))) →
      (∀ (b f P fu : Nat) (ta fb ff fl fe fo : Nat → Int32), ex_S kd vl A b → ex_W A → b + ex_n A ≤ d → f + b + ex_n A ≤ 16 → P + ex_w A ≤ 30 → (∀ p, P ≤ p → p < 30 → fo (186 + p) = 0) → (∀ ta' fb' ff' fl' fe' fo' : Nat → Int32, xb_Q d kd (ex_w A) (ex_L id A) f P ta fb ff fl fe fo ta' fb' ff' fl' fe' fo' → wX_buildAutomaton_11 post fu (nI b + (-1)) (nI d) latestPlace (nI (P + ex_w A)) (nI (f + 1)) elementCount draftKind draftValue weights ta' fb' ff' fl' fe' reachedWith fo' bearing accepting kindOfType leastOf greatestOf listedCount listedValue attributeUse attributeType typeOfName inUse nameOf parentOf kidCount kids hasValue valueOf hasAttribute attributeValue walked waiting) → wX_buildAutomaton_11 post (fu + ex_n A) (nI (b + ex_n A) + (-1)) (nI d) latestPlace (nI P) (nI f) elementCount draftKind draftValue weights ta fb ff fl fe reachedWith fo bearing accepting kindOfType leastOf greatestOf listedCount listedValue attributeUse attributeType typeOfName inUse nameOf parentOf kidCount kids hasValue valueOf hasAttribute attributeValue walked waiting) →
      (∀ (b f P fu : Nat) (ta fb ff fl fe fo : Nat → Int32), ex_S kd vl B b → ex_W B → b + ex_n B ≤ d → f + b + ex_n B ≤ 16 → P + ex_w B ≤ 30 → (∀ p, P ≤ p → p < 30 → fo (186 + p) = 0) → (∀ ta' fb' ff' fl' fe' fo' : Nat → Int32, xb_Q d kd (ex_w B) (ex_L id B) f P ta fb ff fl fe fo ta' fb' ff' fl' fe' fo' → wX_buildAutomaton_11 post fu (nI b + (-1)) (nI d) latestPlace (nI (P + ex_w B)) (nI (f + 1)) elementCount draftKind draftValue weights ta' fb' ff' fl' fe' reachedWith fo' bearing accepting kindOfType leastOf greatestOf listedCount listedValue attributeUse attributeType typeOfName inUse nameOf parentOf kidCount kids hasValue valueOf hasAttribute attributeValue walked waiting) → wX_buildAutomaton_11 post (fu + ex_n B) (nI (b + ex_n B) + (-1)) (nI d) latestPlace (nI P) (nI f) elementCount draftKind draftValue weights ta fb ff fl fe reachedWith fo bearing accepting kindOfType leastOf greatestOf listedCount listedValue attributeUse attributeType typeOfName inUse nameOf parentOf kidCount kids hasValue valueOf hasAttribute attributeValue walked waiting) →
      ∀ (b f P fu : Nat) (ta fb ff fl fe fo : Nat → Int32), kd b = kk → ex_S kd vl A (b + 1) → ex_S kd vl B (b + 1 + ex_n A) → ex_W A → ex_W B → b + (1 + ex_n A + ex_n B) ≤ d → f + b + (1 + ex_n A + ex_n B) ≤ 16 → P + ex_w R ≤ 30 → (∀ p, P ≤ p → p < 30 → fo (186 + p) = 0) → (∀ ta' fb' ff' fl' fe' fo' : Nat → Int32, xb_Q d kd (ex_w R) (ex_L id R) f P ta fb ff fl fe fo ta' fb' ff' fl' fe' fo' → wX_buildAutomaton_11 post fu (nI b + (-1)) (nI d) latestPlace (nI (P + ex_w R)) (nI (f + 1)) elementCount draftKind draftValue weights ta' fb' ff' fl' fe' reachedWith fo' bearing accepting kindOfType leastOf greatestOf listedCount listedValue attributeUse attributeType typeOfName inUse nameOf parentOf kidCount kids hasValue valueOf hasAttribute attributeValue walked waiting) → wX_buildAutomaton_11 post (fu + (1 + ex_n A + ex_n B)) (nI (b + (1 + ex_n A + ex_n B)) + (-1)) (nI d) latestPlace (nI P) (nI f) elementCount draftKind draftValue weights ta fb ff fl fe reachedWith fo bearing accepting kindOfType leastOf greatestOf listedCount listedValue attributeUse attributeType typeOfName inUse nameOf parentOf kidCount kids hasValue valueOf hasAttribute attributeValue walked waiting := by
    intro A B R kk hkk hw hL ihA ihB b f P fu ta fb ff fl fe fo hkb hSA hSB hWA hWB hbd hfb h30 hz h
    have pA := ex_n_pos A
    have pB := ex_n_pos B
    have hwAB : ex_w A + ex_w B ≤ ex_w R := by rw [hw]; split <;> omega
    rw [show fu + (1 + ex_n A + ex_n B) = fu + 1 + ex_n A + ex_n B by omega, show b + (1 + ex_n A + ex_n B) = b + 1 + ex_n A + ex_n B by omega]
    refine ihB (b + 1 + ex_n A) f P (fu + 1 + ex_n A) ta fb ff fl fe fo hSB hWB (by omega) (by omega) (by omega) hz (fun ta1 fb1 ff1 fl1 fe1 fo1 Q1 => ?_)
    obtain ⟨q1, q2, q3, r1, r2, r3, r4, r5⟩ := Q1
    refine ihA (b + 1) (f + 1) (P + ex_w B) (fu + 1) ta1 fb1 ff1 fl1 fe1 fo1 hSA hWA (by omega) (by omega) (by omega) r4 (fun ta2 fb2 ff2 fl2 fe2 fo2 Q2 => ?_)
    obtain ⟨t1, t2, t3, v1, v2, v3, v4, v5⟩ := Q2
    obtain ⟨k1, k2, _⟩ := hk b (by omega)
    obtain ⟨a1, a2, a3, a4⟩ := v1 f (by omega)
    rw [nb_a1]
    refine br_f (nI_pos (by omega)) ⟨vp_in_nI (by omega) (by omega), nm_r (e' := nI kk) (by rw [nb_cl (by omega), k1, hkb]) (sx_parts (by omega) (br_f (by rcases hkk with rfl | rfl | rfl <;> decide) (br_t (by rcases hkk with rfl | rfl | rfl <;> rfl) ?_)))⟩
    refine sx_join (d := d) (kd := kd) (kk := kk) (w1 := ex_w A) (w2 := ex_w B) (L1 := ex_L id A) (L2 := ex_L id B) (ta0 := ta) (fb0 := fb) (ff0 := ff) (fl0 := fl) (fe0 := fe) (fo0 := fo) (by omega) hkk (by rw [← hw]; exact h30) (ex_ne id A hWA) (ex_ne id B hWB) (by rw [a1]; exact q1) t1 (by rw [a4]; exact q2) t2 ?_ t3 ?_ (fun ta' fb' ff' fl' fe' fo' Q => nm_e ?_)
    · rw [a2, a3, a4]
      exact xb_cg q3 (fun p p1 p2 => v2 p (by omega))
    · refine ⟨fun j hj => ?_, fun p hp => ?_, fun j hj => ?_, v4, fun p p1 p2 => ?_⟩
      · obtain ⟨y1, y2, y3, y4⟩ := v1 j (by omega)
        rw [y1, y2, y3, y4]
        exact r1 j hj
      · obtain ⟨y1, y2⟩ := v2 p (by omega)
        rw [y1, y2]
        exact r2 p hp
      · rw [v3 j hj]; exact r3 j hj
      · by_cases q : p < P + ex_w B
        · rw [(v2 p q).1]; exact r5 p p1 q
        · exact v5 p (by omega) p2
    · rw [← hw] at Q ⊢
      refine h ta' fb' ff' fl' fe' fo' ⟨Q.1, Q.2.1, xb_L Q.2.2.1 hL, Q.2.2.2⟩
  intro R
  induction R with
  | natCast k => intro b f P fu ta fb ff fl fe fo hS; exact hS.elim
  | intCast k => intro b f P fu ta fb ff fl fe fo hS; exact hS.elim
  | num k =>
    intro b f P fu ta fb ff fl fe fo hS hW hbd hfb h30 hz h
    simp only [ex_n, ex_w, Nat.add_zero] at hbd hfb h30 h ⊢
    have hkb : kd b = 6 := hS
    obtain ⟨k1, k2, _⟩ := hk b (by omega)
    rw [hkb] at k1
    rw [nb_a1]
    refine br_f (nI_pos (by omega)) ⟨vp_in_nI (by omega) (by omega), nm_r (e' := nI 6) (by rw [nb_cl (by omega), k1]) (sx_parts (by omega) (br_t rfl ?_))⟩
    refine sx_leafE (b := b) (f := f) (P := P) (by omega) (by omega) k1 (nm_e (h _ _ _ _ _ _ ⟨pk_us, by rw [pk_us]; exact Or.inr rfl, ?_, ?_⟩))
    · rw [pk_us, pk_us, pk_us]
      refine gl_F_eq gl_none (fun p => ⟨fun q => by omega, fun q => q.elim⟩) (fun p => by rw [b_0]; exact ⟨fun q => absurd q Bool.false_ne_true, fun q => q.elim⟩) (fun p => by rw [b_0]; exact ⟨fun q => absurd q Bool.false_ne_true, fun q => q.elim⟩) ⟨fun _ => trivial, fun _ => nb_10⟩ (fun u => Iff.rfl)
    · refine ⟨fun j hj => ?_, fun p _ => ⟨rfl, rfl⟩, fun j _ => rfl, hz, fun p p1 p2 => by omega⟩
      rw [pk_un (by omega), pk_un (by omega), pk_un (by omega), pk_un (by omega)]
      exact ⟨rfl, rfl, rfl, rfl⟩
  | var i =>
    intro b f P fu ta fb ff fl fe fo hS hW hbd hfb h30 hz h
    simp only [ex_n, ex_w] at hbd hfb h30 h ⊢
    obtain ⟨hkb, rfl⟩ := hS
    obtain ⟨k1, k2, _⟩ := hk i (by omega)
    rw [hkb] at k1
    rw [nb_a1]
    refine br_f (nI_pos (by omega)) ⟨vp_in_nI (by omega) (by omega), nm_r (e' := nI 0) (by rw [nb_cl (by omega), k1]) (sx_parts (by omega) (br_t rfl ?_))⟩
    refine sx_leafN (b := i) (f := f) (P := P) (by omega) (by omega) (by omega) k1 (nm_e (h _ _ _ _ _ _ ⟨pk_us, by rw [pk_us]; exact Or.inl rfl, ?_, ?_⟩))
    · rw [pk_us, pk_us, pk_us]
      have z0 := hz P (Nat.le_refl _) (by omega)
      have gl := gl_leaf (φ := fun p q => bt (fo (186 + p)) q = true) (tk := fun p => (upd ta P (nI i) p).toNatClampNeg) (p := P) (fun q hq => by
        have hq' : bt (fo (186 + P)) q = true := hq
        rw [z0, b_0] at hq'
        cases hq')
      refine gl_F_eq gl (fun p => by omega) (fun p => bb_sI (by omega)) (fun p => bb_sI (by omega)) ⟨fun q => absurd rfl q, fun q => q.elim⟩ (fun u => ?_)
      show u = [i] ↔ u = [(upd ta P (nI i) P).toNatClampNeg]
      rw [pk_us, nb_cl (by omega)]
    · refine ⟨fun j hj => ?_, fun p hp => ⟨pk_un (by omega), rfl⟩, fun j _ => rfl, fun p p1 p2 => hz p (by omega) p2, fun p p1 p2 => ?_⟩
      · rw [pk_un (by omega), pk_un (by omega), pk_un (by omega), pk_un (by omega)]
        exact ⟨rfl, rfl, rfl, rfl⟩
      · obtain rfl : p = P := by omega
        exact ⟨i, pk_us, by omega, hkb⟩
  | neg A ih =>
    intro b f P fu ta fb ff fl fe fo hS hW hbd hfb h30 hz h
    simp only [ex_n, ex_w] at hbd hfb h30 h ⊢
    obtain ⟨hkb, hSA⟩ := hS
    obtain ⟨k1, k2, _⟩ := hk b (by omega)
    rw [hkb] at k1
    rw [show fu + (1 + ex_n A) = fu + 1 + ex_n A by omega, show b + (1 + ex_n A) = b + 1 + ex_n A by omega]
    refine ih (b + 1) f P (fu + 1) ta fb ff fl fe fo hSA hW (by omega) (by omega) h30 hz (fun ta1 fb1 ff1 fl1 fe1 fo1 Q1 => ?_)
    obtain ⟨q1, q2, q3, r1, r2, r3, r4, r5⟩ := Q1
    rw [nb_a1]
    refine br_f (nI_pos (by omega)) ⟨vp_in_nI (by omega) (by omega), nm_r (e' := nI 3) (by rw [nb_cl (by omega), k1]) (sx_parts (by omega) (br_f (by decide) (br_f (by decide) (br_f (by decide) ?_))))⟩
    refine sx_rep3 (f := f) (by omega) (nm_e (h _ _ _ _ _ _ ⟨q1, by rw [pk_us]; exact Or.inr rfl, ?_, fun j hj => ?_, r2, r3, r4, r5⟩))
    · rw [pk_us]
      exact gl_F_eq (gl_opt q3) (fun _ => Iff.rfl) (fun _ => Iff.rfl) (fun _ => Iff.rfl) ⟨fun _ => trivial, fun _ => nb_10⟩ (fun u => Iff.rfl)
    · rw [pk_un (by omega)]; exact r1 j hj
  | pow A k ih =>
    intro b f P fu ta fb ff fl fe fo hS hW hbd hfb h30 hz h
    simp only [ex_n] at hbd hfb h ⊢
    obtain ⟨s1, hSA⟩ := hS
    obtain ⟨k1, k2, _, k4, k5⟩ := hk b (by omega)
    have hm1 := ex_m_pos hW.2.2
    have hwe : ex_w (.pow A k) = ex_m k * ex_w A := rfl
    have hwA : ex_w A ≤ ex_m k * ex_w A := by
      have : 1 * ex_w A ≤ ex_m k * ex_w A := Nat.mul_le_mul_right _ hm1
      omega
    have pA := ex_n_pos A
    rw [show fu + (1 + ex_n A) = fu + 1 + ex_n A by omega, show b + (1 + ex_n A) = b + 1 + ex_n A by omega]
    refine ih (b + 1) f P (fu + 1) ta fb ff fl fe fo hSA hW.1 (by omega) (by omega) (by omega) hz (fun ta1 fb1 ff1 fl1 fe1 fo1 Q1 => ?_)
    obtain ⟨q1, q2, q3, r1, r2, r3, r4, r5⟩ := Q1
    rw [nb_a1]
    have hlt : ∀ i, bt (fl1 f) i = true → i < 30 := fun i hi => by have := (q3.2.1 i hi).2; omega
    have hout : ∀ p, (p < P ∨ P + ex_w A ≤ p) → lk_f fo1 (fl1 f) (ff1 f) 30 (186 + p) = fo1 (186 + p) := by
      intro p hp
      refine lk_out (Or.inr ?_)
      rw [show 186 + p - 186 = p by omega]
      cases hv : bt (fl1 f) p with
      | false => rfl
      | true => have := q3.2.1 p hv; omega
    have gp : gl_F (fun p q => bt (lk_f fo1 (fl1 f) (ff1 f) 30 (186 + p)) q = true) (fun p => (ta1 p).toNatClampNeg) (fun p => P ≤ p ∧ p < P + ex_w A) (fun q => bt (ff1 f) q = true) (fun q => bt (fl1 f) q = true) (fe1 f ≠ 0) (fun u => ∃ j, 1 ≤ j ∧ ex_pw (ex_L id A) j u) := gl_plus q3 (fun p q => lk_I hlt)
    have fr : ∀ fe' : Nat → Int32, (∀ j, j < f → fe' j = fe1 j) → xf_R d kd f P (P + ex_w A) ta fb ff fl fe fo ta1 fb1 ff1 fl1 fe' (lk_f fo1 (fl1 f) (ff1 f) 30) := by
      intro fe' hfe'
      refine ⟨fun j hj => ?_, fun p hp => ?_, fun j hj => ?_, fun p p1 p2 => ?_, r5⟩
      · rw [hfe' j hj]; exact r1 j hj
      · rw [hout p (Or.inl hp)]; exact r2 p hp
      · rw [lk_out (Or.inl hj)]; exact r3 j hj
      · rw [hout p (Or.inr p1)]; exact r4 p p1 p2
    rcases s1 with ⟨u1, u2, u3⟩ | ⟨u1, u2⟩ | ⟨u1, u2⟩
    · -- TIMES
      rw [u2] at k1
      have dv := k5 (Or.inr u2)
      have hm : ex_m k = k % 4 := if_pos u1
      have hv := hW.2.2 u1
      rw [hwe, hm] at h30
      refine br_f (nI_pos (by omega)) ⟨vp_in_nI (by omega) (by omega), nm_r (e' := nI 8) (by rw [nb_cl (by omega), k1]) (sx_parts (by omega) (br_f (by decide) (br_f (by decide) (br_t rfl ⟨vp_in_nI (by omega) (by omega), ?_⟩))))⟩
      rw [nb_cl (n := b) (by omega), dv, u3]
      refine nm_r (e' := nI f) (nb_s1 (by omega)) ?_
      show ∃ n21, wX_copyInARow_21 _ (nI f) (nI k >>> ((2 : Int32) &&& 31)) (nI k &&& 3) n21 1 (nI d) latestPlace (nI (P + ex_w A)) (nI (f + 1)) elementCount draftKind draftValue weights ta1 fb1 ff1 fl1 fe1 reachedWith fo1 bearing accepting kindOfType leastOf greatestOf listedCount listedValue attributeUse attributeType typeOfName inUse nameOf parentOf kidCount kids hasValue valueOf hasAttribute attributeValue walked waiting
      rw [tk_sh (by omega), tk_an (by omega)]
      refine ⟨k % 4 - 1 + 1, ?_⟩
      have R1 := sx_row21 (drafted := nI d) (latestPlace := latestPlace) (elementCount := elementCount) (draftKind := draftKind) (draftValue := draftValue) (weights := weights) (reachedWith := reachedWith) (bearing := bearing) (accepting := accepting) (kindOfType := kindOfType) (leastOf := leastOf) (greatestOf := greatestOf) (listedCount := listedCount) (listedValue := listedValue) (attributeUse := attributeUse) (attributeType := attributeType) (typeOfName := typeOfName) (inUse := inUse) (nameOf := nameOf) (parentOf := parentOf) (kidCount := kidCount) (kids := kids) (hasValue := hasValue) (valueOf := valueOf) (hasAttribute := hasAttribute) (attributeValue := attributeValue) (walked := walked) (waiting := waiting) (post := fun u => match u with | (drafted, latestPlace, positions, fragments, elementCount, draftKind, draftValue, weights, tokenAt, fragmentBegin, fragmentFirst, fragmentLast, fragmentEmpty, reachedWith, follow, bearing, accepting, kindOfType, leastOf, greatestOf, listedCount, listedValue, attributeUse, attributeType, typeOfName, inUse, nameOf, parentOf, kidCount, kids, hasValue, valueOf, hasAttribute, attributeValue, walked, waiting) => ∀ x1' : Int32, x1' = nI b + (-1) → wX_buildAutomaton_11 post fu x1' drafted latestPlace positions fragments elementCount draftKind draftValue weights tokenAt fragmentBegin fragmentFirst fragmentLast fragmentEmpty reachedWith follow bearing accepting kindOfType leastOf greatestOf listedCount listedValue attributeUse attributeType typeOfName inUse nameOf parentOf kidCount kids hasValue valueOf hasAttribute attributeValue walked waiting) (d := d) (kd := kd) (f := f) (P := P) (W := ex_w A) (m := k % 4) (l := k / 4) (L := ex_L id A) (ta0 := ta) (fb0 := fb) (ff0 := ff) (fl0 := fl) (fe0 := fe) (fo0 := fo) (by omega) (by omega) (by omega) (by omega) h30 (ex_ne id A hW.1) (fun ta2 fb2 ff2 fl2 fe2 fo2 c1 c2 c3 c4 => nm_e ?_) (k % 4 - 1) 1 ta1 fb1 ff1 fl1 fe1 fo1 (by omega) (by omega) (fun j hj => ?_) (fun j hj => ?_) (fun j hj => ?_) ?_
      · rw [Nat.one_mul] at R1
        exact R1
      · rw [hwe, hm] at h
        refine h ta2 fb2 ff2 fl2 fe2 fo2 ⟨c1, c2, xb_L c3 (fun u => ?_), c4⟩
        rw [ex_tm_iff _ _ (by omega)]
        constructor
        · rintro ⟨j, j1, j2, j3⟩
          unfold ex_lo at j1
          rw [if_pos u1] at j1
          exact ⟨j, j1, j2 u1, j3⟩
        · rintro ⟨j, j1, j2, j3⟩
          exact ⟨j, by unfold ex_lo; rw [if_pos u1]; exact j1, fun _ => j2, j3⟩
      · obtain rfl : j = 0 := by omega
        rw [Nat.zero_mul, Nat.add_zero, Nat.add_zero]; exact q1
      · obtain rfl : j = 0 := by omega
        rw [Nat.add_zero]; exact q2
      · obtain rfl : j = 0 := by omega
        rw [Nat.zero_mul, Nat.add_zero, Nat.add_zero]; exact q3
      · rw [Nat.one_mul]; exact ⟨r1, r2, r3, r4, r5⟩
    · -- STAR
      subst u1
      rw [u2] at k1
      have hm : ex_m 16 * ex_w A = ex_w A := Nat.one_mul _
      rw [hwe, hm] at h
      refine br_f (nI_pos (by omega)) ⟨vp_in_nI (by omega) (by omega), nm_r (e' := nI 4) (by rw [nb_cl (by omega), k1]) (sx_parts (by omega) (br_f (by decide) (br_f (by decide) (br_f (by decide) ?_))))⟩
      refine sx_rep4 (f := f) (by omega) (nm_e (h _ _ _ _ _ _ ⟨q1, by rw [pk_us]; exact Or.inr rfl, ?_, fr _ (fun j hj => pk_un (by omega))⟩))
      rw [pk_us]
      refine gl_F_eq (gl_opt gp) (fun _ => Iff.rfl) (fun _ => Iff.rfl) (fun _ => Iff.rfl) ⟨fun _ => trivial, fun _ => nb_10⟩ (fun u => ?_)
      constructor
      · rintro ⟨j, _, _, j3⟩
        cases j with
        | zero => exact Or.inl j3
        | succ j => exact Or.inr ⟨j + 1, by omega, j3⟩
      · rintro (q | ⟨j, j1, j2⟩)
        · exact ⟨0, Nat.zero_le _, fun q => absurd q (by omega), q⟩
        · exact ⟨j, Nat.zero_le _, fun q => absurd q (by omega), j2⟩
    · -- PLUS
      subst u1
      rw [u2] at k1
      have hm : ex_m 17 * ex_w A = ex_w A := Nat.one_mul _
      rw [hwe, hm] at h
      refine br_f (nI_pos (by omega)) ⟨vp_in_nI (by omega) (by omega), nm_r (e' := nI 5) (by rw [nb_cl (by omega), k1]) (sx_parts (by omega) (br_f (by decide) (br_f (by decide) (br_f (by decide) ?_))))⟩
      refine sx_rep5 (f := f) (by omega) (nm_e (h _ _ _ _ _ _ ⟨q1, q2, ?_, fr _ (fun j hj => rfl)⟩))
      refine gl_F_eq gp (fun _ => Iff.rfl) (fun _ => Iff.rfl) (fun _ => Iff.rfl) Iff.rfl (fun u => ?_)
      constructor
      · rintro ⟨j, j1, _, j3⟩; exact ⟨j, j1, j3⟩
      · rintro ⟨j, j1, j2⟩; exact ⟨j, j1, fun q => absurd q (by omega), j2⟩
  | add A B ihA ihB =>
    intro b f P fu ta fb ff fl fe fo hS hW hbd hfb h30 hz h
    simp only [ex_n] at hbd hfb h ⊢
    exact two A B (.add A B) 2 (by omega) rfl (fun u => ⟨fun q => Or.inr (Or.inl ⟨rfl, q⟩), fun q => by rcases q with q | q | q; exact absurd q.1 (by omega); exact q.2; exact absurd q.1 (by omega)⟩) ihA ihB b f P fu ta fb ff fl fe fo hS.1 hS.2.1 hS.2.2 hW.1 hW.2 hbd hfb h30 hz h
  | mul A B ihA ihB =>
    intro b f P fu ta fb ff fl fe fo hS hW hbd hfb h30 hz h
    simp only [ex_n] at hbd hfb h ⊢
    exact two A B (.mul A B) 1 (by omega) rfl (fun u => ⟨fun q => Or.inl ⟨rfl, q⟩, fun q => by rcases q with q | q | q; exact q.2; exact absurd q.1 (by omega); exact absurd q.1 (by omega)⟩) ihA ihB b f P fu ta fb ff fl fe fo hS.1 hS.2.1 hS.2.2 hW.1 hW.2 hbd hfb h30 hz h
  | sub A B ihA ihB =>
    intro b f P fu ta fb ff fl fe fo hS hW hbd hfb h30 hz h
    simp only [ex_n] at hbd hfb h ⊢
    exact two A B (.sub A B) 7 (by omega) rfl (fun u => ⟨fun q => Or.inr (Or.inr ⟨rfl, q⟩), fun q => by rcases q with q | q | q; exact absurd q.1 (by omega); exact absurd q.1 (by omega); exact q.2⟩) ihA ihB b f P fu ta fb ff fl fe fo hS.1 hS.2.1 hS.2.2 hW.1 hW.2 hbd hfb h30 hz h
end
