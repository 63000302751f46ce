/-! ===== the reference writes the model out ===== -/
/-- the tokens written from b on spell the tree -/
def ou_S (ok ow : Nat → Int32) : ex_T → Nat → Prop
  | .var i => fun b => ok b = nI 0 ∧ ow b = nI i
  | .num _ => fun b => ok b = nI 6
  | .natCast _ => fun _ => False
  | .intCast _ => fun _ => False
  | .neg a => fun b => ok b = nI 3 ∧ ou_S ok ow a (b + 1)
  | .add x y => fun b => ok b = nI 2 ∧ ou_S ok ow x (b + 1) ∧ ou_S ok ow y (b + 1 + ex_n x)
  | .mul x y => fun b => ok b = nI 1 ∧ ou_S ok ow x (b + 1) ∧ ou_S ok ow y (b + 1 + ex_n x)
  | .sub _ _ => fun _ => False
  | .pow a k => fun b => ((k = 16 ∧ ok b = nI 4) ∨ (k = 17 ∧ ok b = nI 5)) ∧ ou_S ok ow a (b + 1)
theorem ou_cg {ok ow ok' ow' : Nat → Int32} : ∀ (R : ex_T) (b : Nat), (∀ j, b ≤ j → j < b + ex_n R → ok' j = ok j ∧ ow' j = ow j) → ou_S ok ow R b → ou_S ok' ow' R b := by
  intro R
  induction R with
  | var i => intro b h hS; obtain ⟨q1, q2⟩ := h b (Nat.le_refl _) (by simp only [ex_n]; omega); exact ⟨q1.trans hS.1, q2.trans hS.2⟩
  | num i => intro b h hS; exact (h b (Nat.le_refl _) (by simp only [ex_n]; omega)).1.trans hS
  | natCast i => intro b h hS; exact hS.elim
  | intCast i => intro b h hS; exact hS.elim
  | neg x ih => intro b h hS; simp only [ex_n] at h; exact ⟨(h b (Nat.le_refl _) (by omega)).1.trans hS.1, ih _ (fun j j1 j2 => h j (by omega) (by omega)) hS.2⟩
  | add x y ihx ihy => intro b h hS; simp only [ex_n] at h; exact ⟨(h b (Nat.le_refl _) (by omega)).1.trans hS.1, ihx _ (fun j j1 j2 => h j (by omega) (by omega)) hS.2.1, ihy _ (fun j j1 j2 => h j (by omega) (by omega)) hS.2.2⟩
  | mul x y ihx ihy => intro b h hS; simp only [ex_n] at h; exact ⟨(h b (Nat.le_refl _) (by omega)).1.trans hS.1, ihx _ (fun j j1 j2 => h j (by omega) (by omega)) hS.2.1, ihy _ (fun j j1 j2 => h j (by omega) (by omega)) hS.2.2⟩
  | sub x y ihx ihy => intro b h hS; exact hS.elim
  | pow x k ih =>
    intro b h hS
    simp only [ex_n] at h
    refine ⟨?_, ih _ (fun j j1 j2 => h j (by omega) (by omega)) hS.2⟩
    have q := (h b (Nat.le_refl _) (by omega)).1
    rcases hS.1 with ⟨q1, q2⟩ | ⟨q1, q2⟩
    · exact Or.inl ⟨q1, q.trans q2⟩
    · exact Or.inr ⟨q1, q.trans q2⟩
/-- how many rounds a tree takes -/
def wo_t (w : Nat) : Nat → Nat → Nat
  | 0, _ => 0
  | 1, lo => (if lo = 0 then 1 else 0) + w
  | h + 2, lo => (if lo = 0 then 1 else 0) + (1 + w + wo_t w (h + 1) (lo - 1))
def wo_i : ex_T → Nat
  | .var _ => 1
  | .num _ => 1
  | .natCast _ => 1
  | .intCast _ => 1
  | .neg a => if ex_w a = 0 then 1 else 1 + wo_i a
  | .add a b => if ex_w a + ex_w b = 0 then 1 else 1 + (wo_i a + wo_i b)
  | .mul a b => if ex_w a + ex_w b = 0 then 1 else 1 + (wo_i a + wo_i b)
  | .sub a b => if 2 * (ex_w a + ex_w b) = 0 then 1 else 1 + (1 + (wo_i a + (wo_i b + (1 + (wo_i b + wo_i a)))))
  | .pow a k => if ex_m k * ex_w a = 0 then 1 else if k < 16 then 1 + wo_t (wo_i a) (k % 4) (k / 4) else 1 + wo_i a
/-- the entries that wait, the next one first -/
def ws_R (wo ww : Nat → Int32) : List (Nat × Nat) → Prop
  | [] => True
  | x :: l => wo l.length = nI x.1 ∧ ww l.length = nI x.2 ∧ ws_R wo ww l
theorem ws_upd {wo ww : Nat → Int32} {j : Nat} {v1 v2 : Int32} : ∀ l : List (Nat × Nat), l.length ≤ j → ws_R wo ww l → ws_R (upd wo j v1) (upd ww j v2) l := by
  intro l
  induction l with
  | nil => intro _ _; exact trivial
  | cons x l ih =>
    intro h hw
    rw [List.length_cons] at h
    exact ⟨by rw [pk_un (by omega)]; exact hw.1, by rw [pk_un (by omega)]; exact hw.2.1, ih (by omega) hw.2.2⟩
theorem ws_push {wo ww : Nat → Int32} {k v : Nat} {l : List (Nat × Nat)} (h : ws_R wo ww l) : ws_R (upd wo l.length (nI k)) (upd ww l.length (nI v)) ((k, v) :: l) := ⟨pk_us, pk_us, ws_upd l (Nat.le_refl _) h⟩
section
variable {yplace yroot yrowLength yfirst youts ytop : Int32} {ykind ywith ysize ysort ymany yuse ytypeOf yleast ygreatest ylisted ytypeOfName yused yvalued ygiven yname yparent ychildren ycount yrow yvalue yattributes yends ylack yshortest youtKind youtWith ywork yworkWith yweight yfollow yfirsts ylasts ybare ymet ynameAt ytokenAt ytodo : Nat → Int32}
theorem sy_later {post : SY → Prop} {k v T : Nat} (hT : T < 2000) (hk : k < 128) (hv : v < 128) (h : post (yplace, yroot, yrowLength, yfirst, youts, nI (T + 1), ykind, ywith, ysize, ysort, ymany, yuse, ytypeOf, yleast, ygreatest, ylisted, ytypeOfName, yused, yvalued, ygiven, yname, yparent, ychildren, ycount, yrow, yvalue, yattributes, yends, ylack, yshortest, youtKind, youtWith, upd ywork T (nI k), upd yworkWith T (nI v), yweight, yfollow, yfirsts, ylasts, ybare, ymet, ynameAt, ytokenAt, ytodo)) : wpY_later post (yplace, yroot, yrowLength, yfirst, youts, nI T, ykind, ywith, ysize, ysort, ymany, yuse, ytypeOf, yleast, ygreatest, ylisted, ytypeOfName, yused, yvalued, ygiven, yname, yparent, ychildren, ycount, yrow, yvalue, yattributes, yends, ylack, yshortest, youtKind, youtWith, ywork, yworkWith, yweight, yfollow, yfirsts, ylasts, ybare, ymet, ynameAt, ytokenAt, ytodo) (nI k) (nI v) := by
  have vT : vp_in (nI T) 2000 := vp_in_nI hT (by omega)
  have cT : (nI T).toNatClampNeg = T := nb_cl (by omega)
  exact ⟨vT, nm_r (e' := upd ywork T (nI k)) (by rw [cT, nb_v8 hk]) (nm_r (nI_1 T) ⟨vT, nm_r (e' := upd yworkWith T (nI v)) (by rw [cT, nb_v8 hv]) h⟩)⟩
theorem sy_emit {post : SY → Prop} {k v o : Nat} (ho : o < 8000) (hk : k < 128) (hv : v < 128) (h : post (yplace, yroot, yrowLength, yfirst, nI (o + 1), ytop, ykind, ywith, ysize, ysort, ymany, yuse, ytypeOf, yleast, ygreatest, ylisted, ytypeOfName, yused, yvalued, ygiven, yname, yparent, ychildren, ycount, yrow, yvalue, yattributes, yends, ylack, yshortest, upd youtKind o (nI k), upd youtWith o (nI v), ywork, yworkWith, yweight, yfollow, yfirsts, ylasts, ybare, ymet, ynameAt, ytokenAt, ytodo)) : wpY_emit post (yplace, yroot, yrowLength, yfirst, nI o, ytop, ykind, ywith, ysize, ysort, ymany, yuse, ytypeOf, yleast, ygreatest, ylisted, ytypeOfName, yused, yvalued, ygiven, yname, yparent, ychildren, ycount, yrow, yvalue, yattributes, yends, ylack, yshortest, youtKind, youtWith, ywork, yworkWith, yweight, yfollow, yfirsts, ylasts, ybare, ymet, ynameAt, ytokenAt, ytodo) (nI k) (nI v) := by
  have vT : vp_in (nI o) 8000 := vp_in_nI ho (by omega)
  have cT : (nI o).toNatClampNeg = o := nb_cl (by omega)
  exact ⟨vT, nm_r (e' := upd youtKind o (nI k)) (by rw [cT, nb_v8 hk]) (nm_r (nI_1 o) ⟨vT, nm_r (e' := upd youtWith o (nI v)) (by rw [cT, nb_v8 hv]) h⟩)⟩
/-- an operator comes off the pile -/
theorem sy_popO {post : SY → Prop} {x1 : Int32} {k fu o : Nat} {st : List (Nat × Nat)} {wo ww ok ow : Nat → Int32} (hk : k < 20) (hl : st.length < 1999) (ho : o < 8000) (hw : ws_R wo ww ((k, 0) :: st)) (h : wY_writeOut_17 post x1 fu yplace yroot yrowLength yfirst (nI (o + 1)) (nI st.length) ykind ywith ysize ysort ymany yuse ytypeOf yleast ygreatest ylisted ytypeOfName yused yvalued ygiven yname yparent ychildren ycount yrow yvalue yattributes yends ylack yshortest (upd ok o (nI k)) (upd ow o (nI 0)) wo ww yweight yfollow yfirsts ylasts ybare ymet ynameAt ytokenAt ytodo) : wY_writeOut_17 post x1 (fu + 1) yplace yroot yrowLength yfirst (nI o) (nI (st.length + 1)) ykind ywith ysize ysort ymany yuse ytypeOf yleast ygreatest ylisted ytypeOfName yused yvalued ygiven yname yparent ychildren ycount yrow yvalue yattributes yends ylack yshortest ok ow wo ww yweight yfollow yfirsts ylasts ybare ymet ynameAt ytokenAt ytodo := by
  obtain ⟨w1, w2, w3⟩ := hw
  have vT : vp_in (nI st.length) 2000 := vp_in_nI (by omega) (by omega)
  refine br_f (by rw [nb_le0 (by omega)]; omega) (nm_r (e' := nI st.length) (nb_s1 (by omega)) ?_)
  rw [nb_cl (n := st.length) (by omega), w1, w2]
  exact ⟨vT, nm_e ⟨vT, br_f (nI_ge (b := 20) hk (by omega)) ⟨vT, sy_emit ho (by omega) (by omega) h⟩⟩⟩
/-- an expression comes off the pile -/
theorem sy_popX {post : SY → Prop} {x1 : Int32} {b fu o W : Nat} {st : List (Nat × Nat)} {wo ww ok ow : Nat → Int32} (hb : b < 16) (hl : st.length < 1999) (hw : ws_R wo ww ((20, b) :: st)) (hW : yweight b = nI (wc_n W)) (h0 : W = 0 → wpY_emit (fun u => match u with | (yplace, yroot, yrowLength, yfirst, youts, ytop, ykind, ywith, ysize, ysort, ymany, yuse, ytypeOf, yleast, ygreatest, ylisted, ytypeOfName, yused, yvalued, ygiven, yname, yparent, ychildren, ycount, yrow, yvalue, yattributes, yends, ylack, yshortest, youtKind, youtWith, ywork, yworkWith, yweight, yfollow, yfirsts, ylasts, ybare, ymet, ynameAt, ytokenAt, ytodo) => wY_writeOut_17 post x1 fu yplace yroot yrowLength yfirst youts ytop ykind ywith ysize ysort ymany yuse ytypeOf yleast ygreatest ylisted ytypeOfName yused yvalued ygiven yname yparent ychildren ycount yrow yvalue yattributes yends ylack yshortest youtKind youtWith ywork yworkWith yweight yfollow yfirsts ylasts ybare ymet ynameAt ytokenAt ytodo) (yplace, yroot, yrowLength, yfirst, nI o, nI st.length, ykind, ywith, ysize, ysort, ymany, yuse, ytypeOf, yleast, ygreatest, ylisted, ytypeOfName, yused, yvalued, ygiven, yname, yparent, ychildren, ycount, yrow, yvalue, yattributes, yends, ylack, yshortest, ok, ow, wo, ww, yweight, yfollow, yfirsts, ylasts, ybare, ymet, ynameAt, ytokenAt, ytodo) (nI 6) (nI 0)) (h1 : W ≠ 0 → ((ykind (96 + b) = 8 → wpY_times (fun u => match u with | (yplace, yroot, yrowLength, yfirst, youts, ytop, ykind, ywith, ysize, ysort, ymany, yuse, ytypeOf, yleast, ygreatest, ylisted, ytypeOfName, yused, yvalued, ygiven, yname, yparent, ychildren, ycount, yrow, yvalue, yattributes, yends, ylack, yshortest, youtKind, youtWith, ywork, yworkWith, yweight, yfollow, yfirsts, ylasts, ybare, ymet, ynameAt, ytokenAt, ytodo) => wY_writeOut_17 post x1 fu yplace yroot yrowLength yfirst youts ytop ykind ywith ysize ysort ymany yuse ytypeOf yleast ygreatest ylisted ytypeOfName yused yvalued ygiven yname yparent ychildren ycount yrow yvalue yattributes yends ylack yshortest youtKind youtWith ywork yworkWith yweight yfollow yfirsts ylasts ybare ymet ynameAt ytokenAt ytodo) (yplace, yroot, yrowLength, yfirst, nI o, nI st.length, ykind, ywith, ysize, ysort, ymany, yuse, ytypeOf, yleast, ygreatest, ylisted, ytypeOfName, yused, yvalued, ygiven, yname, yparent, ychildren, ycount, yrow, yvalue, yattributes, yends, ylack, yshortest, ok, ow, wo, ww, yweight, yfollow, yfirsts, ylasts, ybare, ymet, ynameAt, ytokenAt, ytodo) (nI b)) ∧ (¬ ykind (96 + b) = 8 → wpY_part (fun u => match u with | (yplace, yroot, yrowLength, yfirst, youts, ytop, ykind, ywith, ysize, ysort, ymany, yuse, ytypeOf, yleast, ygreatest, ylisted, ytypeOfName, yused, yvalued, ygiven, yname, yparent, ychildren, ycount, yrow, yvalue, yattributes, yends, ylack, yshortest, youtKind, youtWith, ywork, yworkWith, yweight, yfollow, yfirsts, ylasts, ybare, ymet, ynameAt, ytokenAt, ytodo) => wY_writeOut_17 post x1 fu yplace yroot yrowLength yfirst youts ytop ykind ywith ysize ysort ymany yuse ytypeOf yleast ygreatest ylisted ytypeOfName yused yvalued ygiven yname yparent ychildren ycount yrow yvalue yattributes yends ylack yshortest youtKind youtWith ywork yworkWith yweight yfollow yfirsts ylasts ybare ymet ynameAt ytokenAt ytodo) (yplace, yroot, yrowLength, yfirst, nI o, nI st.length, ykind, ywith, ysize, ysort, ymany, yuse, ytypeOf, yleast, ygreatest, ylisted, ytypeOfName, yused, yvalued, ygiven, yname, yparent, ychildren, ycount, yrow, yvalue, yattributes, yends, ylack, yshortest, ok, ow, wo, ww, yweight, yfollow, yfirsts, ylasts, ybare, ymet, ynameAt, ytokenAt, ytodo) (nI b) x1))) : wY_writeOut_17 post x1 (fu + 1) yplace yroot yrowLength yfirst (nI o) (nI (st.length + 1)) ykind ywith ysize ysort ymany yuse ytypeOf yleast ygreatest ylisted ytypeOfName yused yvalued ygiven yname yparent ychildren ycount yrow yvalue yattributes yends ylack yshortest ok ow wo ww yweight yfollow yfirsts ylasts ybare ymet ynameAt ytokenAt ytodo := by
  obtain ⟨w1, w2, w3⟩ := hw
  have vT : vp_in (nI st.length) 2000 := vp_in_nI (by omega) (by omega)
  refine br_f (by rw [nb_le0 (by omega)]; omega) (nm_r (e' := nI st.length) (nb_s1 (by omega)) ?_)
  rw [nb_cl (n := st.length) (by omega), w1, w2]
  refine ⟨vT, nm_e ⟨vT, br_t (nI_le (a := 20) (Nat.le_refl _) (by omega)) ⟨vp_in_nI hb (by omega), ?_⟩⟩⟩
  have l := wc_le W
  rw [nb_cl (n := b) (by omega), hW]
  refine pk_eq (wc_n W) 0 (fun q => h0 ((wc_0 W).mp q)) (fun q => ⟨?_, ?_⟩)
  · rw [show (96 : Int32) + nI b = nI (96 + b) from nI_add 96 b]; exact vp_in_nI (by omega) (by omega)
  · rw [show (96 : Int32) + nI b = nI (96 + b) from nI_add 96 b, nb_cl (n := 96 + b) (by omega)]
    exact h1 (fun q2 => q ((wc_0 W).mpr q2))
end
