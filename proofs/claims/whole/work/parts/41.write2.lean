/-! ===== the reference writes the model out: over the tree ===== -/
def wl_n (b : Nat) : Nat → Nat → List (Nat × Nat)
  | 0, _ => []
  | 1, lo => (if lo = 0 then [(3, 0)] else []) ++ [(20, b + 1)]
  | h + 2, lo => (if lo = 0 then [(3, 0)] else []) ++ (1, 0) :: (20, b + 1) :: wl_n b (h + 1) (lo - 1)
theorem wl_len (b : Nat) : ∀ h lo, (wl_n b h lo).length ≤ 3 * h := by
  intro h
  induction h with
  | zero => intro lo; exact Nat.le_refl 0
  | succ h ih =>
    intro lo
    cases h with
    | zero => unfold wl_n; split <;> simp
    | succ h =>
      have := ih (lo - 1)
      unfold wl_n
      split
      · simp only [List.length_append, List.length_cons, List.length_nil]; omega
      · simp only [List.length_append, List.length_cons, List.length_nil]; omega
section
variable {yplace yroot yrowLength yfirst youts ytop : Int32} {ykind ywith ysize ysort ymany yuse ytypeOf yleast ygreatest ylisted ytypeOfName yused yvalued ygiven yname yparent ychildren ycount yrow yvalue yattributes yends ylack yshortest youtKind youtWith ywork yworkWith yweight yfollow yfirsts ylasts ybare ymet ynameAt ytokenAt ytodo : Nat → Int32}
theorem sy_partV {post : SY → Prop} {b o : Nat} {x1 : Int32} (hb : b < 16) (ho : o < 8000) (hk : ykind (96 + b) = nI 0) (h : post (yplace, yroot, yrowLength, yfirst, nI (o + 1), ytop, ykind, ywith, ysize, ysort, ymany, yuse, ytypeOf, yleast, ygreatest, ylisted, ytypeOfName, yused, yvalued, ygiven, yname, yparent, ychildren, ycount, yrow, yvalue, yattributes, yends, ylack, yshortest, upd youtKind o (nI 0), upd youtWith o (nI b), ywork, yworkWith, yweight, yfollow, yfirsts, ylasts, ybare, ymet, ynameAt, ytokenAt, ytodo)) : wpY_part post (yplace, yroot, yrowLength, yfirst, nI o, ytop, ykind, ywith, ysize, ysort, ymany, yuse, ytypeOf, yleast, ygreatest, ylisted, ytypeOfName, yused, yvalued, ygiven, yname, yparent, ychildren, ycount, yrow, yvalue, yattributes, yends, ylack, yshortest, youtKind, youtWith, ywork, yworkWith, yweight, yfollow, yfirsts, ylasts, ybare, ymet, ynameAt, ytokenAt, ytodo) (nI b) x1 := by
  unfold wpY_part
  dsimp only
  rw [show (96 : Int32) + nI b = nI (96 + b) from nI_add 96 b, nb_cl (n := 96 + b) (by omega), hk]
  exact ⟨vp_in_nI (by omega) (by omega), nm_e (br_t rfl (sy_emit (k := 0) ho (by omega) (by omega) h))⟩
theorem sy_part1 {post : SY → Prop} {b o T kk : Nat} {x1 : Int32} (hb : b < 16) (ho : o < 8000) (hT : T < 2000) (hkk : kk = 3 ∨ kk = 4 ∨ kk = 5) (hk : ykind (96 + b) = nI kk) (h : post (yplace, yroot, yrowLength, yfirst, nI (o + 1), nI (T + 1), ykind, ywith, ysize, ysort, ymany, yuse, ytypeOf, yleast, ygreatest, ylisted, ytypeOfName, yused, yvalued, ygiven, yname, yparent, ychildren, ycount, yrow, yvalue, yattributes, yends, ylack, yshortest, upd youtKind o (nI kk), upd youtWith o (nI 0), upd ywork T (nI 20), upd yworkWith T (nI (b + 1)), yweight, yfollow, yfirsts, ylasts, ybare, ymet, ynameAt, ytokenAt, ytodo)) : wpY_part post (yplace, yroot, yrowLength, yfirst, nI o, nI T, ykind, ywith, ysize, ysort, ymany, yuse, ytypeOf, yleast, ygreatest, ylisted, ytypeOfName, yused, yvalued, ygiven, yname, yparent, ychildren, ycount, yrow, yvalue, yattributes, yends, ylack, yshortest, youtKind, youtWith, ywork, yworkWith, yweight, yfollow, yfirsts, ylasts, ybare, ymet, ynameAt, ytokenAt, ytodo) (nI b) x1 := by
  have k0 : ¬ nI kk = 0 := nI_ne0 (by omega) (by omega)
  have k7 : ¬ nI kk = 7 := fun e => absurd ((nI_eq (b := 7) (by omega) (by omega)).mp e) (by omega)
  have p1 : nI (ex_pt kk) ≤ 1 := by rcases hkk with rfl | rfl | rfl <;> decide
  unfold wpY_part
  dsimp only
  rw [show (96 : Int32) + nI b = nI (96 + b) from nI_add 96 b, nb_cl (n := 96 + b) (by omega), hk]
  refine ⟨vp_in_nI (by omega) (by omega), nm_e (br_f k0 (sy_parts (by omega) (br_t p1 (br_f k7 ?_))))⟩
  unfold wY_part_62
  refine sy_emit (v := 0) ho (by omega) (by omega) (br_f k7 ?_)
  unfold wY_part_95
  refine sy_parts (by omega) (br_t p1 ?_)
  unfold wY_part_111
  rw [nI_1]
  exact sy_later (k := 20) hT (by omega) (by omega) (br_f k7 h)
theorem sy_part2 {post : SY → Prop} {b o T kk d : Nat} {kd vl : Nat → Nat} {P : ex_T} (hd : d ≤ 16) (hK : rl_K ykind ywith 96 d kd vl) (hSP : ex_S kd vl P (b + 1)) (hbd : b + 1 + ex_n P < d) (ho : o < 8000) (hT : T < 1990) (hkk : kk = 1 ∨ kk = 2) (hk : ykind (96 + b) = nI kk) (h : post (yplace, yroot, yrowLength, yfirst, nI (o + 1), nI (T + 2), ykind, ywith, ysize, ysort, ymany, yuse, ytypeOf, yleast, ygreatest, ylisted, ytypeOfName, yused, yvalued, ygiven, yname, yparent, ychildren, ycount, yrow, yvalue, yattributes, yends, ylack, yshortest, upd youtKind o (nI kk), upd youtWith o (nI 0), upd (upd ywork T (nI 20)) (T + 1) (nI 20), upd (upd yworkWith T (nI (b + 1 + ex_n P))) (T + 1) (nI (b + 1)), yweight, yfollow, yfirsts, ylasts, ybare, ymet, ynameAt, ytokenAt, ytodo)) : wpY_part post (yplace, yroot, yrowLength, yfirst, nI o, nI T, ykind, ywith, ysize, ysort, ymany, yuse, ytypeOf, yleast, ygreatest, ylisted, ytypeOfName, yused, yvalued, ygiven, yname, yparent, ychildren, ycount, yrow, yvalue, yattributes, yends, ylack, yshortest, youtKind, youtWith, ywork, yworkWith, yweight, yfollow, yfirsts, ylasts, ybare, ymet, ynameAt, ytokenAt, ytodo) (nI b) (nI d) := by
  have k0 : ¬ nI kk = 0 := nI_ne0 (by omega) (by omega)
  have k7 : ¬ nI kk = 7 := fun e => absurd ((nI_eq (b := 7) (by omega) (by omega)).mp e) (by omega)
  have p1 : ¬ nI (ex_pt kk) ≤ 1 := by rcases hkk with rfl | rfl <;> decide
  unfold wpY_part
  dsimp only
  rw [show (96 : Int32) + nI b = nI (96 + b) from nI_add 96 b, nb_cl (n := 96 + b) (by omega), hk, show (97 : Int32) + nI b = nI (96 + (b + 1)) by rw [show 96 + (b + 1) = 97 + b by omega]; exact nI_add 97 b, show (96 : Int32) + nI d = nI (96 + d) from nI_add 96 d]
  refine ⟨vp_in_nI (by omega) (by omega), nm_e (br_f k0 (sy_parts (by omega) (br_f p1 ?_)))⟩
  refine sy_endOf (o := 96) (j := b + 1) (N := d) hK (by omega) (by omega) (by omega) hSP (by omega) ?_
  rw [show (96 : Int32) = nI 96 from rfl, pk_sub (by omega), show 96 + (b + 1 + ex_n P) - 96 = b + 1 + ex_n P by omega]
  refine br_f k7 ?_
  unfold wY_part_62
  refine sy_emit (v := 0) ho (by omega) (by omega) (br_f k7 ?_)
  unfold wY_part_95
  refine sy_parts (by omega) (br_f p1 (sy_later (k := 20) (by omega) (by omega) (by omega) ?_))
  unfold wY_part_111
  rw [nI_1]
  exact sy_later (k := 20) (by omega) (by omega) (by omega) (br_f k7 h)
theorem sy_part7 {post : SY → Prop} {b o d : Nat} {st : List (Nat × Nat)} {kd vl : Nat → Nat} {P : ex_T} (hd : d ≤ 16) (hK : rl_K ykind ywith 96 d kd vl) (hSP : ex_S kd vl P (b + 1)) (hbd : b + 1 + ex_n P < d) (ho : o < 8000) (hT : st.length < 1990) (hk : ykind (96 + b) = nI 7) (hw : ws_R ywork yworkWith st) (h : ∀ wo ww : Nat → Int32, ws_R wo ww ((1, 0) :: (20, b + 1) :: (20, b + 1 + ex_n P) :: (1, 0) :: (20, b + 1 + ex_n P) :: (20, b + 1) :: st) → post (yplace, yroot, yrowLength, yfirst, nI (o + 1), nI (st.length + 6), ykind, ywith, ysize, ysort, ymany, yuse, ytypeOf, yleast, ygreatest, ylisted, ytypeOfName, yused, yvalued, ygiven, yname, yparent, ychildren, ycount, yrow, yvalue, yattributes, yends, ylack, yshortest, upd youtKind o (nI 2), upd youtWith o (nI 0), wo, ww, yweight, yfollow, yfirsts, ylasts, ybare, ymet, ynameAt, ytokenAt, ytodo)) : wpY_part post (yplace, yroot, yrowLength, yfirst, nI o, nI st.length, ykind, ywith, ysize, ysort, ymany, yuse, ytypeOf, yleast, ygreatest, ylisted, ytypeOfName, yused, yvalued, ygiven, yname, yparent, ychildren, ycount, yrow, yvalue, yattributes, yends, ylack, yshortest, youtKind, youtWith, ywork, yworkWith, yweight, yfollow, yfirsts, ylasts, ybare, ymet, ynameAt, ytokenAt, ytodo) (nI b) (nI d) := by
  unfold wpY_part
  dsimp only
  rw [show (96 : Int32) + nI b = nI (96 + b) from nI_add 96 b, nb_cl (n := 96 + b) (by omega), hk, show (97 : Int32) + nI b = nI (96 + (b + 1)) by rw [show 96 + (b + 1) = 97 + b by omega]; exact nI_add 97 b, show (96 : Int32) + nI d = nI (96 + d) from nI_add 96 d]
  refine ⟨vp_in_nI (by omega) (by omega), nm_e (br_f (by decide) (sy_parts (by omega) (br_f (by decide) ?_)))⟩
  refine sy_endOf (o := 96) (j := b + 1) (N := d) hK (by omega) (by omega) (by omega) hSP (by omega) ?_
  rw [show (96 : Int32) = nI 96 from rfl, pk_sub (by omega), show 96 + (b + 1 + ex_n P) - 96 = b + 1 + ex_n P by omega]
  refine br_t rfl ?_
  unfold wY_part_62
  refine sy_emit (k := 2) (v := 0) ho (by omega) (by omega) (br_t rfl ?_)
  rw [nI_1]
  have e1 : st.length + 1 = ((20, b + 1) :: st).length := rfl
  refine sy_later (k := 20) (by omega) (by omega) (by omega) (sy_later (k := 20) (by omega) (by omega) (by omega) (sy_later (k := 1) (v := 0) (by omega) (by omega) (by omega) ?_))
  unfold wY_part_95
  refine sy_parts (by omega) (br_f (by decide) (sy_later (k := 20) (by omega) (by omega) (by omega) ?_))
  unfold wY_part_111
  rw [nI_1]
  refine sy_later (k := 20) (by omega) (by omega) (by omega) (br_t rfl (sy_later (k := 1) (v := 0) (by omega) (by omega) (by omega) (h _ _ ?_)))
  exact ws_push (l := (20, b + 1) :: (20, b + 1 + ex_n P) :: (1, 0) :: (20, b + 1 + ex_n P) :: (20, b + 1) :: st) (ws_push (l := (20, b + 1 + ex_n P) :: (1, 0) :: (20, b + 1 + ex_n P) :: (20, b + 1) :: st) (ws_push (l := (1, 0) :: (20, b + 1 + ex_n P) :: (20, b + 1) :: st) (ws_push (l := (20, b + 1 + ex_n P) :: (20, b + 1) :: st) (ws_push (l := (20, b + 1) :: st) (ws_push (l := st) hw)))))
/-- TIMES: the pile -/
theorem sy_tms27 {post : SY → Prop} {b hi lo : Nat} {st : List (Nat × Nat)} (hb : b < 16) (hhi : hi ≤ 3) (hlh : lo ≤ hi) (hT : st.length < 1980) (h : ∀ wo ww : Nat → Int32, ws_R wo ww (wl_n b hi lo ++ st) → post (yplace, yroot, yrowLength, yfirst, youts, nI (wl_n b hi lo ++ st).length, ykind, ywith, ysize, ysort, ymany, yuse, ytypeOf, yleast, ygreatest, ylisted, ytypeOfName, yused, yvalued, ygiven, yname, yparent, ychildren, ycount, yrow, yvalue, yattributes, yends, ylack, yshortest, youtKind, youtWith, wo, ww, yweight, yfollow, yfirsts, ylasts, ybare, ymet, ynameAt, ytokenAt, ytodo)) : ∀ (j : Nat) (wo ww : Nat → Int32), j ≤ hi → ws_R wo ww (wl_n b (hi - j) (lo - j) ++ st) → wY_times_27 post (nI b) (nI lo) (nI hi) (j + 1) (nI j) yplace yroot yrowLength yfirst youts (nI (wl_n b (hi - j) (lo - j) ++ st).length) ykind ywith ysize ysort ymany yuse ytypeOf yleast ygreatest ylisted ytypeOfName yused yvalued ygiven yname yparent ychildren ycount yrow yvalue yattributes yends ylack yshortest youtKind youtWith wo ww yweight yfollow yfirsts ylasts ybare ymet ynameAt ytokenAt ytodo := by
  intro j
  induction j with
  | zero => intro wo ww _ hw; exact br_t (by decide) (h wo ww hw)
  | succ j ih =>
    intro wo ww hj hw
    have ll := wl_len b (hi - (j + 1)) (lo - (j + 1))
    have ll2 : (wl_n b (hi - (j + 1)) (lo - (j + 1)) ++ st).length < 1990 := by rw [List.length_append]; omega
    refine br_f (by rw [nb_le0 (by omega)]; omega) ?_
    rw [nI_1 b]
    refine sy_later (k := 20) (by omega) (by omega) (by omega) ?_
    have w1 := ws_push (k := 20) (v := b + 1) hw
    -- behind the expression: SEQ or not
    have t53 : ∀ (l : List (Nat × Nat)) (wo ww : Nat → Int32), ws_R wo ww (l ++ st) → (l ++ st).length < 1995 → (if lo - j = 0 then [(3, 0)] else []) ++ l = wl_n b (hi - j) (lo - j) → wY_times_53 post (wY_times_27 post (nI b) (nI lo) (nI hi) (j + 1)) (nI b) (nI lo) (nI hi) (nI (j + 1)) yplace yroot yrowLength yfirst youts (nI (l ++ st).length) ykind ywith ysize ysort ymany yuse ytypeOf yleast ygreatest ylisted ytypeOfName yused yvalued ygiven yname yparent ychildren ycount yrow yvalue yattributes yends ylack yshortest youtKind youtWith wo ww yweight yfollow yfirsts ylasts ybare ymet ynameAt ytokenAt ytodo := by
      intro l wo ww hl hlen he
      refine pk_le (j + 1) lo (fun q => nm_r (nb_a1 j) ?_) (fun q => ?_)
      · rw [if_neg (by omega), List.nil_append] at he
        rw [he] at hl ⊢
        exact ih wo ww (by omega) hl
      · rw [if_pos (by omega)] at he
        refine sy_later (k := 3) (v := 0) (by omega) (by omega) (by omega) (nm_r (nb_a1 j) ?_)
        have w2 := ws_push (k := 3) (v := 0) hl
        have e2 : (3, 0) :: (l ++ st) = wl_n b (hi - j) (lo - j) ++ st := by rw [← he]; rfl
        have e3 : (l ++ st).length + 1 = (wl_n b (hi - j) (lo - j) ++ st).length := by rw [← e2]; rfl
        rw [e2] at w2
        rw [e3]
        exact ih _ _ (by omega) w2
    refine pk_le hi (j + 1) (fun q => ?_) (fun q => ?_)
    · have en : wl_n b (hi - (j + 1)) (lo - (j + 1)) = [] := by rw [show hi - (j + 1) = 0 by omega]; rfl
      rw [en] at w1 ⊢
      refine t53 [(20, b + 1)] _ _ w1 (by simp only [List.length_append, List.length_cons, List.length_nil]; omega) ?_
      rw [show hi - j = 1 by omega]
      rfl
    · refine sy_later (k := 1) (v := 0) (by omega) (by omega) (by omega) ?_
      have w2 := ws_push (k := 1) (v := 0) w1
      refine t53 ((1, 0) :: (20, b + 1) :: wl_n b (hi - (j + 1)) (lo - (j + 1))) _ _ w2 (by simp only [List.length_append, List.length_cons]; rw [List.length_append] at ll2; omega) ?_
      rw [show hi - j = (hi - (j + 1) - 1) + 2 by omega]
      show _ = (if lo - j = 0 then [(3, 0)] else []) ++ (1, 0) :: (20, b + 1) :: wl_n b (hi - (j + 1) - 1 + 1) (lo - j - 1)
      rw [show hi - (j + 1) - 1 + 1 = hi - (j + 1) by omega, show lo - j - 1 = lo - (j + 1) by omega]
theorem sy_times {post : SY → Prop} {b k : Nat} {st : List (Nat × Nat)} (hb : b < 16) (hk : k < 16) (hv : k / 4 ≤ k % 4) (hT : st.length < 1980) (hw : ywith (96 + b) = nI k) (hs : ws_R ywork yworkWith st) (h : ∀ wo ww : Nat → Int32, ws_R wo ww (wl_n b (k % 4) (k / 4) ++ st) → post (yplace, yroot, yrowLength, yfirst, youts, nI (wl_n b (k % 4) (k / 4) ++ st).length, ykind, ywith, ysize, ysort, ymany, yuse, ytypeOf, yleast, ygreatest, ylisted, ytypeOfName, yused, yvalued, ygiven, yname, yparent, ychildren, ycount, yrow, yvalue, yattributes, yends, ylack, yshortest, youtKind, youtWith, wo, ww, yweight, yfollow, yfirsts, ylasts, ybare, ymet, ynameAt, ytokenAt, ytodo)) : wpY_times post (yplace, yroot, yrowLength, yfirst, youts, nI st.length, ykind, ywith, ysize, ysort, ymany, yuse, ytypeOf, yleast, ygreatest, ylisted, ytypeOfName, yused, yvalued, ygiven, yname, yparent, ychildren, ycount, yrow, yvalue, yattributes, yends, ylack, yshortest, youtKind, youtWith, ywork, yworkWith, yweight, yfollow, yfirsts, ylasts, ybare, ymet, ynameAt, ytokenAt, ytodo) (nI b) := by
  unfold wpY_times
  dsimp only
  rw [show (96 : Int32) + nI b = nI (96 + b) from nI_add 96 b, nb_cl (n := 96 + b) (by omega), hw, tk_sh (by omega), tk_an (by omega)]
  have v : vp_in (nI (96 + b)) 112 := vp_in_nI (by omega) (by omega)
  refine ⟨v, nm_e ⟨v, nm_e ⟨k % 4 + 1, ?_⟩⟩⟩
  have e0 : wl_n b (k % 4 - k % 4) (k / 4 - k % 4) ++ st = st := by rw [Nat.sub_self]; rfl
  have t := sy_tms27 (hi := k % 4) (lo := k / 4) (st := st) hb (by omega) hv hT h (k % 4) ywork yworkWith (Nat.le_refl _) (by rw [e0]; exact hs)
  rw [e0] at t
  exact t
end
