/-! ===== the reference's model ===== -/
/-- the tokens are copied to the type -/
def cp_K (t d : Nat) (kd vl : Nat → Nat) (yk yw kn wi : Nat → Int32) : Prop := (∀ j, (j < 16 * t ∨ 16 * t + d ≤ j) → kn j = yk j ∧ wi j = yw j) ∧ (∀ i, i < d → kn (16 * t + i) = nI (kd i) ∧ (kd i = 0 ∨ kd i = 8 → wi (16 * t + i) = nI (vl i)))
section
variable {yplace yroot yrowLength yfirst youts ytop : Int32} {ykind ywith ysize ysort ymany yuse ytypeOf yleast ygreatest ylisted ytypeOfName yused yvalued ygiven yname yparent ychildren ycount yrow yvalue yattributes yends ylack yshortest youtKind youtWith ywork yworkWith yweight yfollow yfirsts ylasts ybare ymet ynameAt ytokenAt ytodo : Nat → Int32}
theorem sy_md164 {post : Int32 → SY → Prop} {t : Nat} (ht : t < 6) (h : post 0 (yplace, yroot, yrowLength, yfirst, youts, ytop, ykind, ywith, ysize, ysort, ymany, ha_clr yuse t 4, ytypeOf, yleast, ygreatest, ylisted, ytypeOfName, yused, yvalued, ygiven, yname, yparent, ychildren, ycount, yrow, yvalue, yattributes, yends, ylack, yshortest, youtKind, youtWith, ywork, yworkWith, yweight, yfollow, yfirsts, ylasts, ybare, ymet, ynameAt, ytokenAt, ytodo)) : ∀ m i, i + m = 4 → wY_model_164 post (nI t) yplace yroot yrowLength yfirst youts ytop (m + 1) (nI i) ykind ywith ysize ysort ymany (ha_clr yuse t i) ytypeOf yleast ygreatest ylisted ytypeOfName yused yvalued ygiven yname yparent ychildren ycount yrow yvalue yattributes yends ylack yshortest youtKind youtWith ywork yworkWith yweight yfollow yfirsts ylasts ybare ymet ynameAt ytokenAt ytodo := by
  intro m
  induction m with
  | zero =>
    intro i hi
    obtain rfl : i = 4 := by omega
    exact br_t (by decide) h
  | succ m ih =>
    intro i hi
    refine br_f (nI_ge (b := 4) (by omega) (by omega)) ?_
    rw [show (4 : Int32) * nI t + nI i = nI (4 * t + i) from nb_mul' t 4 i]
    exact ⟨vp_in_nI (by omega) (by omega), nm_r (e' := ha_clr yuse t (i + 1)) (by rw [nb_cl (by omega), nb_0]; exact ha_s _ _ _) (nm_r (nI_1 i) (ih (i + 1) (by omega)))⟩
theorem sy_md90 {post : Int32 → SY → Prop} {t d : Nat} {kd vl : Nat → Nat} (ht : t < 6) (hd : d ≤ 16) (hK : rl_K ykind ywith 96 d kd vl) (h : ∀ kn wi : Nat → Int32, cp_K t d kd vl ykind ywith kn wi → post 0 (yplace, yroot, yrowLength, yfirst, youts, ytop, kn, wi, upd ysize t (nI d), upd ysort t 2, ymany, ha_clr yuse t 4, ytypeOf, yleast, ygreatest, ylisted, ytypeOfName, yused, yvalued, ygiven, yname, yparent, ychildren, ycount, yrow, yvalue, yattributes, yends, ylack, yshortest, youtKind, youtWith, ywork, yworkWith, yweight, yfollow, yfirsts, ylasts, ybare, ymet, ynameAt, ytokenAt, ytodo)) : ∀ (m i : Nat) (kn wi : Nat → Int32), i + m = d → cp_K t i kd vl ykind ywith kn wi → wY_model_90 post (nI t) (nI d) yplace yroot yrowLength yfirst youts ytop (m + 1) (nI i) kn wi ysize ysort ymany yuse ytypeOf yleast ygreatest ylisted ytypeOfName yused yvalued ygiven yname yparent ychildren ycount yrow yvalue yattributes yends ylack yshortest youtKind youtWith ywork yworkWith yweight yfollow yfirsts ylasts ybare ymet ynameAt ytokenAt ytodo := by
  intro m
  induction m with
  | zero =>
    intro i kn wi hi hc
    obtain rfl : i = d := by omega
    refine br_t (nI_le (Nat.le_refl _) (by omega)) ⟨vp_in_nI (by omega) (by omega), nm_r (e' := upd ysize t (nI i)) (by rw [nb_cl (by omega), nb_v8 (by omega)]) ⟨vp_in_nI ht (by omega), nm_r (e' := upd ysort t 2) (by rw [nb_cl (by omega), nb_2]) ⟨5, ?_⟩⟩⟩
    have z := sy_md164 (post := post) (t := t) (ykind := kn) (ywith := wi) (ysize := upd ysize t (nI i)) (ysort := upd ysort t 2) ht (h kn wi hc) 4 0 (by omega)
    rw [ha_0] at z
    exact z
  | succ m ih =>
    intro i kn wi hi hc
    obtain ⟨k1, k2, k3, k4, k5⟩ := hK i (by omega)
    obtain ⟨c1, c2⟩ := hc.1 (96 + i) (by omega)
    refine br_f (nI_ge (by omega) (by omega)) ?_
    rw [show (16 : Int32) * nI t + nI i = nI (16 * t + i) from nb_mul' t 16 i, show (96 : Int32) + nI i = nI (96 + i) from nI_add 96 i, nb_cl (n := 96 + i) (by omega), nb_cl (n := 16 * t + i) (by omega), c1, c2]
    have v1 : vp_in (nI (96 + i)) 112 := vp_in_nI (by omega) (by omega)
    have v2 : vp_in (nI (16 * t + i)) 112 := vp_in_nI (by omega) (by omega)
    refine ⟨v1, v2, nm_e ⟨v1, v2, nm_e (nm_r (nI_1 i) (ih (i + 1) _ _ (by omega) ⟨fun j hj => ?_, fun i' hi' => ?_⟩))⟩⟩
    · rw [pk_un (by omega), pk_un (by omega)]; exact hc.1 j (by omega)
    · by_cases e : i' = i
      · rw [e, pk_us, pk_us, k1, nb_vb (by omega)]
        refine ⟨rfl, fun q => ?_⟩
        rw [k5 q, nb_vb]
        rcases q with q | q
        · have := k3 q; omega
        · have := (k4 q).1; omega
      · rw [pk_un (by omega), pk_un (by omega)]; exact hc.2 i' (by omega)
theorem sy_model5 {post : Int32 → SY → Prop} {t d : Nat} {kd vl : Nat → Nat} (ht : t < 6) (hd : d ≤ 16) (hs : ysize 6 = nI d) (hK : rl_K ykind ywith 96 d kd vl) (hsc : ¬ ex_sc kd d 0 1) (h : post 5 (yplace, yroot, yrowLength, yfirst, youts, ytop, ykind, ywith, upd ysize 6 0, ysort, ymany, yuse, ytypeOf, yleast, ygreatest, ylisted, ytypeOfName, yused, yvalued, ygiven, yname, yparent, ychildren, ycount, yrow, yvalue, yattributes, yends, ylack, yshortest, youtKind, youtWith, ywork, yworkWith, yweight, yfollow, yfirsts, ylasts, ybare, ymet, ynameAt, ytokenAt, ytodo)) : wpY_model post (yplace, yroot, yrowLength, yfirst, youts, ytop, ykind, ywith, ysize, ysort, ymany, yuse, ytypeOf, yleast, ygreatest, ylisted, ytypeOfName, yused, yvalued, ygiven, yname, yparent, ychildren, ycount, yrow, yvalue, yattributes, yends, ylack, yshortest, youtKind, youtWith, ywork, yworkWith, yweight, yfollow, yfirsts, ylasts, ybare, ymet, ynameAt, ytokenAt, ytodo) (nI t) := by
  unfold wpY_model
  refine sy_out0 (n := 6) (by omega) ht (br_t rfl (nm_r hs (nm_r (e' := upd ysize 6 0) (by rw [nb_0]) ?_)))
  rw [show (96 : Int32) + nI d = nI (96 + d) from nI_add 96 d]
  exact sy_one (kd := kd) hd (fun i hi => ⟨(hK i hi).1, (hK i hi).2.1⟩) (fun q => absurd q hsc) (fun _ r hr => br_f hr h)
theorem sy_model6 {post : Int32 → SY → Prop} {t : Nat} {kd vl : Nat → Nat} {R : ex_T} (ht : t < 6) (hd : ex_n R ≤ 16) (hs : ysize 6 = nI (ex_n R)) (hK : rl_K ykind ywith 96 (ex_n R) kd vl) (hsc : ex_sc kd (ex_n R) 0 1) (hS : ex_S kd vl R 0) (hW : ex_W R) (hw : 30 < ex_w R) (h : ∀ wt : Nat → Int32, post 6 (yplace, yroot, yrowLength, yfirst, youts, ytop, ykind, ywith, upd ysize 6 0, ysort, ymany, yuse, ytypeOf, yleast, ygreatest, ylisted, ytypeOfName, yused, yvalued, ygiven, yname, yparent, ychildren, ycount, yrow, yvalue, yattributes, yends, ylack, yshortest, youtKind, youtWith, ywork, yworkWith, wt, yfollow, yfirsts, ylasts, ybare, ymet, ynameAt, ytokenAt, ytodo)) : wpY_model post (yplace, yroot, yrowLength, yfirst, youts, ytop, ykind, ywith, ysize, ysort, ymany, yuse, ytypeOf, yleast, ygreatest, ylisted, ytypeOfName, yused, yvalued, ygiven, yname, yparent, ychildren, ycount, yrow, yvalue, yattributes, yends, ylack, yshortest, youtKind, youtWith, ywork, yworkWith, yweight, yfollow, yfirsts, ylasts, ybare, ymet, ynameAt, ytokenAt, ytodo) (nI t) := by
  unfold wpY_model
  refine sy_out0 (n := 6) (by omega) ht (br_t rfl (nm_r hs (nm_r (e' := upd ysize 6 0) (by rw [nb_0]) ?_)))
  rw [show (96 : Int32) + nI (ex_n R) = nI (96 + ex_n R) from nI_add 96 _]
  refine sy_one (kd := kd) hd (fun i hi => ⟨(hK i hi).1, (hK i hi).2.1⟩) (fun _ => br_t rfl ?_) (fun q => absurd hsc q)
  refine sy_weigh (kd := kd) (vl := vl) hd hK hS hW (fun wt hg => br_f ?_ (h wt))
  have l := wc_le (ex_w R)
  rw [wg_b hg]
  refine nI_ge (a := 30) (b := wc_n (ex_w R)) ?_ (by omega)
  have := wc_30 (ex_w R)
  omega
theorem sy_model0 {post : Int32 → SY → Prop} {t : Nat} {kd vl : Nat → Nat} {R : ex_T} (ht : t < 6) (hd : ex_n R ≤ 16) (hs : ysize 6 = nI (ex_n R)) (hK : rl_K ykind ywith 96 (ex_n R) kd vl) (hsc : ex_sc kd (ex_n R) 0 1) (hS : ex_S kd vl R 0) (hW : ex_W R) (hw : ex_w R ≤ 30)
    (h : ∀ (x os tp : Int32) (ok ow wo ww wt fo fi la ba mt nm ta td : Nat → Int32), cf_best (gl_C (ex_L id R) vl) x → (x = -1 → ∀ kn wi : Nat → Int32, cp_K t (ex_n R) kd vl ykind ywith kn wi → post 0 (yplace, yroot, yrowLength, yfirst, os, tp, kn, wi, upd (upd ysize 6 0) t (nI (ex_n R)), upd ysort t 2, ymany, ha_clr yuse t 4, ytypeOf, yleast, ygreatest, ylisted, ytypeOfName, yused, yvalued, ygiven, yname, yparent, ychildren, ycount, yrow, yvalue, yattributes, yends, ylack, yshortest, ok, ow, wo, ww, wt, fo, fi, la, ba, mt, nm, ta, td)) ∧ (¬ x = -1 → post 7 (x, yroot, yrowLength, yfirst, os, tp, ykind, ywith, upd ysize 6 0, ysort, ymany, yuse, ytypeOf, yleast, ygreatest, ylisted, ytypeOfName, yused, yvalued, ygiven, yname, yparent, ychildren, ycount, yrow, yvalue, yattributes, yends, ylack, yshortest, ok, ow, wo, ww, wt, fo, fi, la, ba, mt, nm, ta, td))) : wpY_model post (yplace, yroot, yrowLength, yfirst, youts, ytop, ykind, ywith, ysize, ysort, ymany, yuse, ytypeOf, yleast, ygreatest, ylisted, ytypeOfName, yused, yvalued, ygiven, yname, yparent, ychildren, ycount, yrow, yvalue, yattributes, yends, ylack, yshortest, youtKind, youtWith, ywork, yworkWith, yweight, yfollow, yfirsts, ylasts, ybare, ymet, ynameAt, ytokenAt, ytodo) (nI t) := by
  have hn : ex_n (ex_E R) ≤ 1440 ∧ ex_l (ex_E R) ≤ 480 := by
    rcases Nat.eq_zero_or_pos (ex_w R) with q | q
    · rw [ex_E_0 R q]; simp only [ex_n, ex_l]; omega
    · have h1 := ex_E_n R hW q
      have h3 := ex_E_l R hW q
      have h2 : ex_n R * ex_w R ≤ 16 * 30 := Nat.mul_le_mul hd hw
      omega
  have ew := ex_E_w R hW
  unfold wpY_model
  refine sy_out0 (n := 6) (by omega) ht (br_t rfl (nm_r hs (nm_r (e' := upd ysize 6 0) (by rw [nb_0]) ?_)))
  rw [show (96 : Int32) + nI (ex_n R) = nI (96 + ex_n R) from nI_add 96 _]
  refine sy_one (kd := kd) hd (fun i hi => ⟨(hK i hi).1, (hK i hi).2.1⟩) (fun _ => br_t rfl ?_) (fun q => absurd hsc q)
  refine sy_weigh (kd := kd) (vl := vl) hd hK hS hW (fun wt hg => br_t ?_ ?_)
  · have l := wc_le (ex_w R)
    rw [wg_b hg]
    exact nI_le (b := 30) ((wc_30 _).mpr hw) (by omega)
  refine sy_writeOut (kd := kd) (vl := vl) hd hK hS hW hw hg (fun tp wo ww ok ow hO => ?_)
  refine sy_ambig (d := ex_n R) (kd := kd) (vl := vl) (T := ex_E R) hd hK hO (ex_Q_E R (ex_Q_S R 0 hS (by omega))) (by omega) (by omega) (by omega) (fun ta nm fi la ba fo Q => ?_)
  obtain ⟨_, gF, _, _, gt⟩ := Q
  rw [Nat.zero_add] at gF gt
  have G : yp_G (ex_n R) (ex_w (ex_E R)) kd vl fi fo ta nm := ⟨by omega, hd, fun i hi ki => (hK i hi).2.2.1 ki, fun q hq => (gF.1 q hq).2, fun p q hp hq => (gF.2.2.1 p q ⟨Nat.zero_le _, hp⟩ hq).2, fun p hp => gt p (Nat.zero_le _) hp⟩
  refine sy_pairs (d := ex_n R) (W := ex_w (ex_E R)) (kd := kd) (vl := vl) (yfirsts := fi) (yfollow := fo) (ytokenAt := ta) (ynameAt := nm) G (fun x mt td hx => ?_)
  have hb : cf_best (gl_C (ex_L id R) vl) x := by
    refine cf_iff (fun a b => ?_) hx
    rw [← gl_C_congr (ex_E_L id R hW) a b, ← gl_pairs gF (g := vl) (nm := yp_n ta vl) (fun p _ => rfl) a b]
    constructor
    · rintro ⟨p, q, ⟨k, hk'⟩, ea, eb⟩; exact ⟨k, p, q, hk', ea, eb⟩
    · rintro ⟨k, p, q, hk', ea, eb⟩; exact ⟨p, q, ⟨k, hk'⟩, ea, eb⟩
  obtain ⟨h0, h7⟩ := h x (nI (ex_n (ex_E R))) tp ok ow wo ww wt fo fi la ba mt nm ta td hb
  rcases hx with ⟨ex, _⟩ | ⟨t', t16, ex, _⟩
  · refine br_t (by rw [ex]; exact nb_m10) ⟨ex_n R + 1, ?_⟩
    exact sy_md90 (t := t) (d := ex_n R) (kd := kd) (vl := vl) (ykind := ykind) (ywith := ywith) (ysize := upd ysize 6 0) ht hd hK (fun kn wi c => h0 ex kn wi c) (ex_n R) 0 ykind ywith (by omega) ⟨fun j _ => ⟨rfl, rfl⟩, fun i hi => by omega⟩
  · refine br_f (by rw [ex]; exact nI_pos (by omega)) (h7 ?_)
    rw [ex]
    exact nb_nm (by omega)
end
