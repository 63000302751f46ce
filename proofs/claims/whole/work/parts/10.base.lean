/-! ===== small numbers, small methods ===== -/
theorem nb_i8 {n : Nat} (h : n < 128) : (nI n).toInt8.toInt32 = nI n := (by decide +kernel : ∀ n, n < 128 → (nI n).toInt8.toInt32 = nI n) n h
theorem nb_vb {n : Nat} (h : n < 128) : vp_nar .byte (nI n) = nI n := by rw [vp_nar_byte, nb_i8 h]
theorem nb_v8 {n : Nat} (h : n < 128) : vp_nar .byte (nI n).toInt8.toInt32 = nI n := by rw [nb_i8 h, nb_vb h]
theorem nb_m1 : vp_nar .byte (-1) = -1 := by rw [vp_nar_byte]; decide +kernel
theorem nb_m8 : vp_nar .byte ((-1 : Int32).toInt8.toInt32) = -1 := by rw [vp_nar_byte]; decide +kernel
theorem nb_z8 : vp_nar .byte ((0 : Int32).toInt8.toInt32) = 0 := nb_v8 (n := 0) (by decide)
theorem nb_0 : vp_nar .byte 0 = 0 := nb_vb (n := 0) (by decide)
theorem nb_1 : vp_nar .byte 1 = 1 := nb_vb (n := 1) (by decide)
theorem nb_2 : vp_nar .byte 2 = 2 := nb_vb (n := 2) (by decide)
theorem nb_b0 : vp_nar .boolean 0 = 0 := by decide
theorem nb_b1 : vp_nar .boolean 1 = 1 := by decide
theorem nb_n0 : narrow .boolean (.int 0) = .int 0 := by decide
theorem nb_n1 : narrow .boolean (.int 1) = .int 1 := by decide
theorem nb_10 : ¬ (1 : Int32) = 0 := by decide
theorem nb_m10 : (-1 : Int32) < 0 := by decide
theorem nb_nm {n : Nat} (h : n < 2 ^ 31) : ¬ nI n = -1 := by
  intro e
  have := congrArg Int32.toInt e
  rw [nI_toInt h] at this
  have h2 : (-1 : Int32).toInt = -1 := by decide
  rw [h2] at this
  omega
theorem nb_cl {n : Nat} (h : n < 2 ^ 31) : (nI n).toNatClampNeg = n := nI_clamp h
theorem nb_ix (x : Int32) (n : Nat) (hn : n < 2 ^ 31) : (x < 0 ∨ nI n ≤ x) ∨ ∃ j : Nat, j < n ∧ x = nI j := by
  rcases pk_ix x hn with h | h | h
  · exact Or.inl (Or.inl h)
  · exact Or.inl (Or.inr h)
  · exact Or.inr h
theorem nb_le0 {n : Nat} (h : n < 2 ^ 31) : nI n ≤ 0 ↔ n = 0 := by
  rw [← nI_0, nI_leI h (by omega)]
  omega
theorem nb_pos {n : Nat} (h : n < 2 ^ 31) : (0 : Int32) ≤ nI n := nI_pos' h
theorem nb_m1le (x : Int32) (h : x < 0) : ¬ (0 : Int32) ≤ x := by
  rw [Int32.le_iff_toInt_le]
  rw [Int32.lt_iff_toInt_lt] at h
  omega
theorem nb_lt_of {x : Int32} {n : Nat} (hn : n < 2 ^ 31) (h : nI n ≤ x) : ¬ x < nI n := by
  rw [Int32.lt_iff_toInt_lt]
  rw [Int32.le_iff_toInt_le] at h
  omega
theorem nb_nneg {x : Int32} {n : Nat} (hn : n < 2 ^ 31) (h : nI n ≤ x) : ¬ x < 0 := by
  rw [Int32.lt_iff_toInt_lt]
  rw [Int32.le_iff_toInt_le, nI_toInt hn] at h
  have h2 : (0 : Int32).toInt = 0 := by decide
  omega
section
variable {post : Int32 → Prop}
theorem sx_name0 {x : Int32} (h : x < 0 ∨ nI 6 ≤ x) (p : post 0) : wpX_isName post x := by
  by_cases h0 : x < 0
  · exact br_t h0 p
  · exact br_f h0 (br_t (h.resolve_left h0) p)
theorem sx_name1 {j : Nat} (h : j < 6) (p : post 1) : wpX_isName post (nI j) := br_f (nI_pos (by omega)) (br_f (nI_ge (b := 6) h (by decide)) p)
theorem sx_type0 {x : Int32} (h : x < 0 ∨ nI 6 ≤ x) (p : post 0) : wpX_isType post x := by
  by_cases h0 : x < 0
  · exact br_t h0 p
  · exact br_f h0 (br_t (h.resolve_left h0) p)
theorem sx_type1 {j : Nat} (h : j < 6) (p : post 1) : wpX_isType post (nI j) := br_f (nI_pos (by omega)) (br_f (nI_ge (b := 6) h (by decide)) p)
theorem sx_attr0 {x : Int32} (h : x < 0 ∨ nI 4 ≤ x) (p : post 0) : wpX_isAttribute post x := by
  by_cases h0 : x < 0
  · exact br_t h0 p
  · exact br_f h0 (br_t (h.resolve_left h0) p)
theorem sx_attr1 {j : Nat} (h : j < 4) (p : post 1) : wpX_isAttribute post (nI j) := br_f (nI_pos (by omega)) (br_f (nI_ge (b := 4) h (by decide)) p)
theorem sy_out1 {x : Int32} {n : Nat} (hn : n < 2 ^ 31) (h : x < 0 ∨ nI n ≤ x) (p : post 1) : wpY_out post x (nI n) := by
  by_cases h0 : x < 0
  · exact br_t h0 p
  · exact br_f h0 (br_f (nb_lt_of hn (h.resolve_left h0)) p)
theorem sy_out0 {j n : Nat} (hn : n < 2 ^ 31) (h : j < n) (p : post 0) : wpY_out post (nI j) (nI n) := br_f (nI_pos (by omega)) (br_t (nI_lt h hn) p)
theorem sx_parts {k : Nat} (hk : k < 9) (p : post (nI (ex_pt k))) : wpX_partsOf post (nI k) := by
  have hc : k = 0 ∨ k = 1 ∨ k = 2 ∨ k = 3 ∨ k = 4 ∨ k = 5 ∨ k = 6 ∨ k = 7 ∨ k = 8 := by omega
  unfold wpX_partsOf
  rcases hc with rfl | rfl | rfl | rfl | rfl | rfl | rfl | rfl | rfl
  · exact br_t (by decide) p
  · exact br_f (by decide) (br_f (by decide) (br_t (by decide) p))
  · exact br_f (by decide) (br_f (by decide) (br_f (by decide) (br_t (by decide) p)))
  · exact br_f (by decide) (br_f (by decide) (br_f (by decide) (br_f (by decide) (br_f (by decide) p))))
  · exact br_f (by decide) (br_f (by decide) (br_f (by decide) (br_f (by decide) (br_f (by decide) p))))
  · exact br_f (by decide) (br_f (by decide) (br_f (by decide) (br_f (by decide) (br_f (by decide) p))))
  · exact br_f (by decide) (br_t (by decide) p)
  · exact br_f (by decide) (br_f (by decide) (br_f (by decide) (br_f (by decide) (br_t (by decide) p))))
  · exact br_f (by decide) (br_f (by decide) (br_f (by decide) (br_f (by decide) (br_f (by decide) p))))
theorem sy_parts {k : Nat} (hk : k < 9) (p : post (nI (ex_pt k))) : wpY_parts post (nI k) := by
  have hc : k = 0 ∨ k = 1 ∨ k = 2 ∨ k = 3 ∨ k = 4 ∨ k = 5 ∨ k = 6 ∨ k = 7 ∨ k = 8 := by omega
  unfold wpY_parts
  rcases hc with rfl | rfl | rfl | rfl | rfl | rfl | rfl | rfl | rfl
  · exact br_f (by decide) (br_f (by decide) (br_f (by decide) (br_t (by decide) p)))
  · exact br_t (by decide) p
  · exact br_f (by decide) (br_t (by decide) p)
  · exact br_f (by decide) (br_f (by decide) (br_f (by decide) (br_f (by decide) (br_f (by decide) p))))
  · exact br_f (by decide) (br_f (by decide) (br_f (by decide) (br_f (by decide) (br_f (by decide) p))))
  · exact br_f (by decide) (br_f (by decide) (br_f (by decide) (br_f (by decide) (br_f (by decide) p))))
  · exact br_f (by decide) (br_f (by decide) (br_f (by decide) (br_f (by decide) (br_t (by decide) p))))
  · exact br_f (by decide) (br_f (by decide) (br_t (by decide) p))
  · exact br_f (by decide) (br_f (by decide) (br_f (by decide) (br_f (by decide) (br_f (by decide) p))))
/-- what may be a token -/
def tk_ok (k v : Int32) : Prop := (k = 0 ∧ ∃ j, j < 6 ∧ v = nI j) ∨ (k = 8 ∧ ∃ j, j < 16 ∧ v = nI j ∧ j / 4 ≤ j % 4 ∧ 1 ≤ j % 4) ∨ (∃ j, 0 < j ∧ j < 8 ∧ k = nI j)
theorem tk_sh {j : Nat} (h : j < 2 ^ 31) : nI j >>> ((2 : Int32) &&& 31) = nI (j / 4) := pk_shrN h _ 2 (by decide)
theorem tk_an {j : Nat} (h : j < 2 ^ 31) : nI j &&& 3 = nI (j % 4) := pk_andN (by omega) 2 (by decide)
theorem tk_no {k v : Int32} (hk : k < 0 ∨ nI 9 ≤ k) : ¬ tk_ok k v := by
  rintro (⟨e, _⟩ | ⟨e, _⟩ | ⟨j, h1, h2, e⟩)
  · rw [e] at hk; exact absurd hk (by decide)
  · rw [e] at hk; exact absurd hk (by decide)
  · rw [e] at hk
    rcases hk with hk | hk
    · exact nI_pos (by omega) hk
    · exact nI_ge (b := 9) (by omega) (by omega) hk
theorem sx_isToken {k v : Int32} (h1 : tk_ok k v → post 1) (h0 : ¬ tk_ok k v → post 0) : wpX_isToken post k v := by
  rcases nb_ix k 9 (by omega) with hk | ⟨c, hc, rfl⟩
  · have hn : ¬ tk_ok k v := tk_no hk
    have e0 : ¬ k = 0 := by rintro rfl; exact absurd hk (by decide)
    have e8 : ¬ k = 8 := by rintro rfl; exact absurd hk (by decide)
    refine br_f e0 (br_f e8 ?_)
    by_cases hz : k < 0
    · exact br_t hz (h0 hn)
    · refine br_f hz (br_t ?_ (h0 hn))
      have h9 := hk.resolve_left hz
      rw [Int32.lt_iff_toInt_lt]
      rw [Int32.le_iff_toInt_le] at h9
      have a1 : (8 : Int32).toInt = 8 := by decide
      have a2 : (nI 9).toInt = 9 := by decide
      omega
  · by_cases c0 : c = 0
    · subst c0
      refine br_t rfl ?_
      rcases nb_ix v 6 (by omega) with hv | ⟨j, hj, rfl⟩
      · refine sx_name0 hv ⟨nb_n0, h0 ?_⟩
        rintro (⟨_, j, hj, rfl⟩ | ⟨e, _⟩ | ⟨j, hj, hj2, e⟩)
        · rcases hv with hv | hv
          · exact nI_pos (by omega) hv
          · exact nI_ge (b := 6) hj (by omega) hv
        · exact absurd e (by decide)
        · have e' := (nI_eq (by omega) (by omega)).mp e
          omega
      · exact sx_name1 hj ⟨nb_n1, h1 (Or.inl ⟨rfl, j, hj, rfl⟩)⟩
    · have e0 : ¬ nI c = 0 := nI_ne0 (by omega) (by omega)
      refine br_f e0 ?_
      by_cases c8 : c = 8
      · subst c8
        refine br_t rfl ?_
        have no : (∀ j, j < 16 → v = nI j → j / 4 ≤ j % 4 → 1 ≤ j % 4 → False) → ¬ tk_ok (nI 8) v := by
          intro h
          rintro (⟨e, _⟩ | ⟨_, j, a1, a2, a3, a4⟩ | ⟨j, a1, a2, e⟩)
          · exact e0 e
          · exact h j a1 a2 a3 a4
          · have e' := (nI_eq (by omega) (by omega)).mp e
            omega
        by_cases hz : v < 0
        · refine br_t hz (h0 (no ?_))
          intro j h1 h2 _ _
          rw [h2] at hz
          exact nI_pos (by omega) hz
        · obtain ⟨j, hj, rfl⟩ := nI_of hz
          refine br_f hz ?_
          show ((3 : Int32) < nI j >>> ((2 : Int32) &&& 31) → post 0) ∧ _
          rw [tk_sh hj]
          have no' : (j < 16 → j / 4 ≤ j % 4 → 1 ≤ j % 4 → False) → ¬ tk_ok (nI 8) (nI j) := by
            intro h
            refine no ?_
            intro i a1 a2 a3 a4
            obtain rfl := (nI_eq hj (by omega)).mp a2
            exact h a1 a3 a4
          refine pk_lt 3 (j / 4) (fun hlt => h0 (no' (fun _ _ _ => by omega))) (fun hge => ?_)
          show (nI j &&& 3 < 1 → post 0) ∧ (¬ nI j &&& 3 < 1 → (nI j &&& 3 < nI j >>> ((2 : Int32) &&& 31) → post 0) ∧ (¬ nI j &&& 3 < nI j >>> ((2 : Int32) &&& 31) → post 1))
          rw [tk_sh hj, tk_an hj]
          refine pk_lt (j % 4) 1 (fun hlt => h0 (no' (fun _ _ _ => by omega))) (fun hge1 => ?_)
          refine pk_lt (j % 4) (j / 4) (fun hlt => h0 (no' (fun _ _ _ => by omega))) (fun hge2 => ?_)
          exact h1 (Or.inr (Or.inl ⟨rfl, j, by omega, rfl, hge2, hge1⟩))
      · have e8 : ¬ nI c = 8 := fun e => c8 ((nI_eq (b := 8) (by omega) (by omega)).mp e)
        refine br_f e8 (br_f (nI_pos (by omega)) (br_f (nI_nlt (b := c) (a := 8) (by omega) (by omega)) ?_))
        exact h1 (Or.inr (Or.inr ⟨c, by omega, by omega, rfl⟩))
end
