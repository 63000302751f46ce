/-! ===== one cell of the reference's tables ===== -/
def ed_R (L : List Nat → Prop) (B : Nat) (w : Nat → Nat) (n b : Nat) (en lk : Nat → Int32) : Prop := ∀ a, a ≤ n → (∀ m, bt (en (32 * b + a)) m = true ↔ m ≤ n ∧ dp_E L w a m) ∧ ∃ x, lk (32 * b + a) = nI x ∧ dp_M B (dp_K L w n a) x
def ed_P (w : Nat → Nat) (n : Nat) (vl : Nat → Nat) (R : ex_T) (b : Nat) (sh en lk : Nat → Int32) : Prop := sh b = nI (ex_sh R) ∧ ed_R (ex_L vl R) (ex_w R) w n b en lk
theorem ed_R_cg {L : List Nat → Prop} {B : Nat} {w : Nat → Nat} {n b : Nat} {en lk en' lk' : Nat → Int32} (h : ed_R L B w n b en lk) (hn : n ≤ 24) (h1 : ∀ i, 32 * b ≤ i → i < 32 * b + 32 → en' i = en i ∧ lk' i = lk i) : ed_R L B w n b en' lk' := by
  intro a ha
  obtain ⟨q1, q2⟩ := h1 (32 * b + a) (by omega) (by omega)
  rw [q1, q2]
  exact h a ha
theorem ed_lk {L : List Nat → Prop} {B : Nat} {w : Nat → Nat} {n b : Nat} {en lk : Nat → Int32} (h : ed_R L B w n b en lk) (hB : B ≤ 100000) : ∃ f : Nat → Nat, ∀ m, m ≤ n → lk (32 * b + m) = nI (f m) ∧ f m ≤ 100000 ∧ dp_M B (dp_K L w n m) (f m) := by
  refine Classical.axiomOfChoice (r := fun m (x : Nat) => m ≤ n → lk (32 * b + m) = nI x ∧ x ≤ 100000 ∧ dp_M B (dp_K L w n m) x) (fun m => ?_)
  by_cases hm : m ≤ n
  · obtain ⟨_, x, h1, h2⟩ := h m hm
    refine ⟨x, fun _ => ⟨h1, ?_, h2⟩⟩
    rcases h2 with ⟨_, q, _⟩ | ⟨q, _⟩ <;> omega
  · exact ⟨0, fun q => absurd q hm⟩
theorem dp_M_cg {B B' : Nat} {K K' : Nat → Prop} {x : Nat} (h : dp_M B K x) (hB : B ≤ B') (hK : ∀ d, K d ↔ K' d) : dp_M B' K' x := by
  rcases h with ⟨h1, h2, h3⟩ | ⟨h1, h2⟩
  · exact Or.inl ⟨(hK x).mp h1, by omega, fun d hd => h3 d ((hK d).mpr hd)⟩
  · exact Or.inr ⟨h1, fun d hd => h2 d ((hK d).mpr hd)⟩
section
variable {yplace yroot yrowLength yfirst youts ytop : Int32} {ykind ywith ysize ysort ymany yuse ytypeOf yleast ygreatest ylisted ytypeOfName yused yvalued ygiven yname yparent ychildren ycount yrow yvalue yattributes yends ylack yshortest youtKind youtWith ywork yworkWith yweight yfollow yfirsts ylasts ybare ymet ynameAt ytokenAt ytodo : Nat → Int32}
theorem sy_wordsR {post : SY → Prop} {b a n lo s B : Nat} {w : Nat → Nat} {L : List Nat → Prop} (hb : b + 1 < 16) (ha : a ≤ n) (hn : n ≤ 24) (hlo : lo ≤ 1) (hB : B ≤ 30) (hs : yshortest (b + 1) = nI s) (hs1 : s ≤ 30) (hR : ed_R L B w n (b + 1) yends ylack)
    (h : ∀ (E : Int32) (x : Nat), (∀ m, bt E m = true ↔ m ≤ n ∧ dp_E (fun u => ∃ j, lo ≤ j ∧ ex_pw L j u) w a m) → dp_M B (dp_K (fun u => ∃ j, lo ≤ j ∧ ex_pw L j u) w n a) x → post (yplace, yroot, yrowLength, yfirst, youts, ytop, ykind, ywith, ysize, ysort, ymany, yuse, ytypeOf, yleast, ygreatest, ylisted, ytypeOfName, yused, yvalued, ygiven, yname, yparent, ychildren, ycount, yrow, yvalue, yattributes, upd yends (32 * b + a) E, upd ylack (32 * b + a) (nI x), yshortest, youtKind, youtWith, ywork, yworkWith, yweight, yfollow, yfirsts, ylasts, ybare, ymet, ynameAt, ytokenAt, ytodo)) : wpY_words post (yplace, yroot, yrowLength, yfirst, youts, ytop, ykind, ywith, ysize, ysort, ymany, yuse, ytypeOf, yleast, ygreatest, ylisted, ytypeOfName, yused, yvalued, ygiven, yname, yparent, ychildren, ycount, yrow, yvalue, yattributes, yends, ylack, yshortest, youtKind, youtWith, ywork, yworkWith, yweight, yfollow, yfirsts, ylasts, ybare, ymet, ynameAt, ytokenAt, ytodo) (nI b) (nI a) (nI n) (nI lo) (nI 100) := by
  obtain ⟨lk, hlk⟩ := ed_lk hR (by omega)
  refine nm_r (nI_1 b) (nm_e ⟨29, ?_⟩)
  refine sy_wR (B := B) (w := w) (lk := lk) (L := L) hb ha hn hlo hs hs1 (fun m hm => ⟨(hlk m hm).1, (hlk m hm).2.1⟩) (fun m hm => (hR m hm).1) (fun S A f q1 q2 q3 q4 q5 q6 q7 q8 q9 => ?_) 28 0 100000 0 _ 0 (by omega) (fun m q => ?_) (fun m q => ?_) (fun m k q => ?_) (fun _ => ⟨fun m => b_0 m, fun m => bb_sI (by omega)⟩) (fun q => by omega) (fun m q => ?_) (fun m q => ?_) (fun q => by omega) (Or.inl rfl) (fun q => ?_) (fun m q => ?_) (Nat.le_refl _)
  · obtain ⟨r1, r2⟩ := dp_rep (B := B) (A := fun m => bt A m = true) (S := fun m => bt S m = true) (lk := lk) hlo ha (by omega) (fun m hm => (hlk m hm).2.2) q1 q2 q3 q4 q5 q6 q7 q8 q9
    refine br_t (nI_le (b := 100000) q9 (by omega)) (sy_keep (by omega) (by omega) (h S f (fun m => ⟨fun q => ⟨(q4 m q).1, (r1 m (q4 m q).1).mp q⟩, fun q => (r1 m q.1).mpr q.2⟩) r2))
  · rw [bb_sI (by omega)] at q
    rw [q]; exact ⟨ha, rfl, by omega⟩
  · rw [b_0] at q; cases q
  · rw [b_0] at q; cases q
  · rw [b_0] at q; cases q
  · rw [b_0] at q; cases q
  · rw [b_0] at q; cases q
  · rw [b_0] at q; cases q
theorem sy_wordsT {post : SY → Prop} {b a n lo hi s B : Nat} {w : Nat → Nat} {L : List Nat → Prop} (hb : b + 1 < 16) (ha : a ≤ n) (hn : n ≤ 24) (hlh : lo ≤ hi) (hhi : hi ≤ 3) (hB : hi * B ≤ 30) (hB0 : B ≤ 30) (hs : yshortest (b + 1) = nI s) (hsl : dp_s L s) (hsB : s ≤ B) (hR : ed_R L B w n (b + 1) yends ylack)
    (h : ∀ (E : Int32) (x : Nat), (∀ m, bt E m = true ↔ m ≤ n ∧ dp_E (fun u => ∃ j, lo ≤ j ∧ j ≤ hi ∧ ex_pw L j u) w a m) → dp_M (hi * B) (dp_K (fun u => ∃ j, lo ≤ j ∧ j ≤ hi ∧ ex_pw L j u) w n a) x → post (yplace, yroot, yrowLength, yfirst, youts, ytop, ykind, ywith, ysize, ysort, ymany, yuse, ytypeOf, yleast, ygreatest, ylisted, ytypeOfName, yused, yvalued, ygiven, yname, yparent, ychildren, ycount, yrow, yvalue, yattributes, upd yends (32 * b + a) E, upd ylack (32 * b + a) (nI x), yshortest, youtKind, youtWith, ywork, yworkWith, yweight, yfollow, yfirsts, ylasts, ybare, ymet, ynameAt, ytokenAt, ytodo)) : wpY_words post (yplace, yroot, yrowLength, yfirst, youts, ytop, ykind, ywith, ysize, ysort, ymany, yuse, ytypeOf, yleast, ygreatest, ylisted, ytypeOfName, yused, yvalued, ygiven, yname, yparent, ychildren, ycount, yrow, yvalue, yattributes, yends, ylack, yshortest, youtKind, youtWith, ywork, yworkWith, yweight, yfollow, yfirsts, ylasts, ybare, ymet, ynameAt, ytokenAt, ytodo) (nI b) (nI a) (nI n) (nI lo) (nI hi) := by
  obtain ⟨lk, hlk⟩ := ed_lk hR (by omega)
  refine nm_r (nI_1 b) (nm_e ⟨hi + 1 + 1, ?_⟩)
  refine sy_wT (w := w) (lk := lk) (L := L) hb ha hn hlh hhi hs (by omega) (fun m hm => ⟨(hlk m hm).1, (hlk m hm).2.1⟩) (fun m hm => (hR m hm).1) (fun S f q1 q2 q3 q4 q5 => ?_) (hi + 1) 0 100000 0 _ 0 (by omega) (fun _ m => ?_) (fun m => ?_) (Or.inl rfl) (fun q => ?_) (fun i m q => by omega) (Nat.le_refl _)
  · obtain ⟨r1, r2⟩ := dp_tms (B := B) (S := fun m => bt S m = true) (lk := lk) (s := s) hlh ha (by omega) (fun m hm => (hlk m hm).2.2) hsl hsB (fun m hm => ⟨fun q => ((q1 m).mp q).2, fun q => (q1 m).mpr ⟨hm, q⟩⟩) q2 q3 q4 q5
    refine br_t (nI_le (b := 100000) q5 (by omega)) (sy_keep (by omega) (by omega) (h S f (fun m => ⟨fun q => ⟨((q1 m).mp q).1, (r1 m ((q1 m).mp q).1).mp q⟩, fun q => (r1 m q.1).mpr q.2⟩) r2))
  · rw [bb_sI (by omega)]
    constructor
    · intro q; rw [q]; exact ⟨ha, rfl⟩
    · rintro ⟨_, q⟩; exact (show a = m from q).symm
  · rw [b_0]
    exact ⟨fun q => absurd q Bool.false_ne_true, fun ⟨_, i, q, _⟩ => by omega⟩
  · rw [b_0] at q; cases q
/-- the head of look -/
theorem sy_look0 {post : SY → Prop} {t b a n kk : Nat} (ht : t < 6) (hb : b < 16) (hk : ykind (16 * t + b) = nI kk) (h : ∀ (x4 x5 x6 : Int32), x4 = nI kk → x5 = ywith (16 * t + b) → x6 = nI (32 * (b + 1)) → ((x4 < 0 → wY_look_266 post (nI b) (nI a) x4 yplace yroot yrowLength (nI (16 * t)) youts ytop ykind ywith ysize ysort ymany yuse ytypeOf yleast ygreatest ylisted ytypeOfName yused yvalued ygiven yname yparent ychildren ycount yrow yvalue yattributes yends ylack yshortest youtKind youtWith ywork yworkWith yweight yfollow yfirsts ylasts ybare ymet ynameAt ytokenAt ytodo) ∧ (¬ x4 < 0 → ((8 < x4 → wY_look_266 post (nI b) (nI a) x4 yplace yroot yrowLength (nI (16 * t)) youts ytop ykind ywith ysize ysort ymany yuse ytypeOf yleast ygreatest ylisted ytypeOfName yused yvalued ygiven yname yparent ychildren ycount yrow yvalue yattributes yends ylack yshortest youtKind youtWith ywork yworkWith yweight yfollow yfirsts ylasts ybare ymet ynameAt ytokenAt ytodo) ∧ (¬ 8 < x4 → ((x4 = 0 → ((nI n ≤ nI a → wY_look_108 post (nI b) (nI a) (nI n) yplace yroot yrowLength (nI (16 * t)) youts ytop ykind ywith ysize ysort ymany yuse ytypeOf yleast ygreatest ylisted ytypeOfName yused yvalued ygiven yname yparent ychildren ycount yrow yvalue yattributes yends ylack yshortest youtKind youtWith ywork yworkWith yweight yfollow yfirsts ylasts ybare ymet ynameAt ytokenAt ytodo) ∧ (¬ nI n ≤ nI a → (vp_in (nI a) 32 ∧ ((yrow (nI a).toNatClampNeg = x5 → wY_look_109 post (nI b) (nI a) (nI n) 1 yplace yroot yrowLength (nI (16 * t)) youts ytop ykind ywith ysize ysort ymany yuse ytypeOf yleast ygreatest ylisted ytypeOfName yused yvalued ygiven yname yparent ychildren ycount yrow yvalue yattributes yends ylack yshortest youtKind youtWith ywork yworkWith yweight yfollow yfirsts ylasts ybare ymet ynameAt ytokenAt ytodo) ∧ (¬ yrow (nI a).toNatClampNeg = x5 → wY_look_108 post (nI b) (nI a) (nI n) yplace yroot yrowLength (nI (16 * t)) youts ytop ykind ywith ysize ysort ymany yuse ytypeOf yleast ygreatest ylisted ytypeOfName yused yvalued ygiven yname yparent ychildren ycount yrow yvalue yattributes yends ylack yshortest youtKind youtWith ywork yworkWith yweight yfollow yfirsts ylasts ybare ymet ynameAt ytokenAt ytodo)))))) ∧ (¬ x4 = 0 → ((x4 = 1 → wY_look_266 post (nI b) (nI a) x4 yplace yroot yrowLength (nI (16 * t)) youts ytop ykind ywith ysize ysort ymany yuse ytypeOf yleast ygreatest ylisted ytypeOfName yused yvalued ygiven yname yparent ychildren ycount yrow yvalue yattributes yends ylack yshortest youtKind youtWith ywork yworkWith yweight yfollow yfirsts ylasts ybare ymet ynameAt ytokenAt ytodo) ∧ (¬ x4 = 1 → ((x4 = 2 → wY_look_266 post (nI b) (nI a) x4 yplace yroot yrowLength (nI (16 * t)) youts ytop ykind ywith ysize ysort ymany yuse ytypeOf yleast ygreatest ylisted ytypeOfName yused yvalued ygiven yname yparent ychildren ycount yrow yvalue yattributes yends ylack yshortest youtKind youtWith ywork yworkWith yweight yfollow yfirsts ylasts ybare ymet ynameAt ytokenAt ytodo) ∧ (¬ x4 = 2 → ((x4 = 3 → (vp_in (x6 + nI a) 512 ∧ ((nI a = nI n → wY_look_216 post 0 (yends (x6 + nI a).toNatClampNeg ||| ((1 : Int32) <<< (nI a &&& 31))) (nI a) (nI b) yplace yroot yrowLength (nI (16 * t)) youts ytop ykind ywith ysize ysort ymany yuse ytypeOf yleast ygreatest ylisted ytypeOfName yused yvalued ygiven yname yparent ychildren ycount yrow yvalue yattributes yends ylack yshortest youtKind youtWith ywork yworkWith yweight yfollow yfirsts ylasts ybare ymet ynameAt ytokenAt ytodo) ∧ (¬ nI a = nI n → (vp_in (x6 + nI a) 512 ∧ wY_look_216 post (ylack (x6 + nI a).toNatClampNeg) (yends (x6 + nI a).toNatClampNeg ||| ((1 : Int32) <<< (nI a &&& 31))) (nI a) (nI b) yplace yroot yrowLength (nI (16 * t)) youts ytop ykind ywith ysize ysort ymany yuse ytypeOf yleast ygreatest ylisted ytypeOfName yused yvalued ygiven yname yparent ychildren ycount yrow yvalue yattributes yends ylack yshortest youtKind youtWith ywork yworkWith yweight yfollow yfirsts ylasts ybare ymet ynameAt ytokenAt ytodo))))) ∧ (¬ x4 = 3 → ((x4 = 4 → wpY_words post (yplace, yroot, yrowLength, nI (16 * t), youts, ytop, ykind, ywith, ysize, ysort, ymany, yuse, ytypeOf, yleast, ygreatest, ylisted, ytypeOfName, yused, yvalued, ygiven, yname, yparent, ychildren, ycount, yrow, yvalue, yattributes, yends, ylack, yshortest, youtKind, youtWith, ywork, yworkWith, yweight, yfollow, yfirsts, ylasts, ybare, ymet, ynameAt, ytokenAt, ytodo) (nI b) (nI a) (nI n) 0 100) ∧ (¬ x4 = 4 → ((x4 = 5 → wpY_words post (yplace, yroot, yrowLength, nI (16 * t), youts, ytop, ykind, ywith, ysize, ysort, ymany, yuse, ytypeOf, yleast, ygreatest, ylisted, ytypeOfName, yused, yvalued, ygiven, yname, yparent, ychildren, ycount, yrow, yvalue, yattributes, yends, ylack, yshortest, youtKind, youtWith, ywork, yworkWith, yweight, yfollow, yfirsts, ylasts, ybare, ymet, ynameAt, ytokenAt, ytodo) (nI b) (nI a) (nI n) 1 100) ∧ (¬ x4 = 5 → ((x4 = 6 → ((nI a = nI n → wY_look_176 post 0 ((1 : Int32) <<< (nI a &&& 31)) (nI a) (nI b) yplace yroot yrowLength (nI (16 * t)) youts ytop ykind ywith ysize ysort ymany yuse ytypeOf yleast ygreatest ylisted ytypeOfName yused yvalued ygiven yname yparent ychildren ycount yrow yvalue yattributes yends ylack yshortest youtKind youtWith ywork yworkWith yweight yfollow yfirsts ylasts ybare ymet ynameAt ytokenAt ytodo) ∧ (¬ nI a = nI n → wY_look_176 post 100000 ((1 : Int32) <<< (nI a &&& 31)) (nI a) (nI b) yplace yroot yrowLength (nI (16 * t)) youts ytop ykind ywith ysize ysort ymany yuse ytypeOf yleast ygreatest ylisted ytypeOfName yused yvalued ygiven yname yparent ychildren ycount yrow yvalue yattributes yends ylack yshortest youtKind youtWith ywork yworkWith yweight yfollow yfirsts ylasts ybare ymet ynameAt ytokenAt ytodo))) ∧ (¬ x4 = 6 → ((x4 = 7 → wY_look_266 post (nI b) (nI a) x4 yplace yroot yrowLength (nI (16 * t)) youts ytop ykind ywith ysize ysort ymany yuse ytypeOf yleast ygreatest ylisted ytypeOfName yused yvalued ygiven yname yparent ychildren ycount yrow yvalue yattributes yends ylack yshortest youtKind youtWith ywork yworkWith yweight yfollow yfirsts ylasts ybare ymet ynameAt ytokenAt ytodo) ∧ (¬ x4 = 7 → ((x4 = 8 → wpY_words post (yplace, yroot, yrowLength, nI (16 * t), youts, ytop, ykind, ywith, ysize, ysort, ymany, yuse, ytypeOf, yleast, ygreatest, ylisted, ytypeOfName, yused, yvalued, ygiven, yname, yparent, ychildren, ycount, yrow, yvalue, yattributes, yends, ylack, yshortest, youtKind, youtWith, ywork, yworkWith, yweight, yfollow, yfirsts, ylasts, ybare, ymet, ynameAt, ytokenAt, ytodo) (nI b) (nI a) (nI n) (x5 >>> ((2 : Int32) &&& 31)) (x5 &&& 3)) ∧ (¬ x4 = 8 → True))))))))))))))))))))))) : wpY_look post (yplace, yroot, yrowLength, nI (16 * t), youts, ytop, ykind, ywith, ysize, ysort, ymany, yuse, ytypeOf, yleast, ygreatest, ylisted, ytypeOfName, yused, yvalued, ygiven, yname, yparent, ychildren, ycount, yrow, yvalue, yattributes, yends, ylack, yshortest, youtKind, youtWith, ywork, yworkWith, yweight, yfollow, yfirsts, ylasts, ybare, ymet, ynameAt, ytokenAt, ytodo) (nI b) (nI a) (nI n) := by
  unfold wpY_look
  dsimp only
  rw [nI_add, nb_cl (n := 16 * t + b) (by omega), hk]
  have e6 : 32 * (nI b + 1) = nI (32 * (b + 1)) := by rw [nI_1]; exact pk_mul 32 (b + 1)
  refine ⟨vp_in_nI (by omega) (by omega), nm_e ⟨vp_in_nI (by omega) (by omega), nm_e (nm_r e6 ?_)⟩⟩
  exact h _ _ _ rfl rfl rfl
/-- NAME -/
theorem sy_lookV {post : SY → Prop} {t b a n : Nat} {w vl : Nat → Nat} (ht : t < 6) (hb : b < 16) (ha : a ≤ n) (hn : n ≤ 24) (hrow : ∀ i, i < n → yrow i = nI (w i) ∧ w i < 6) (hk : ykind (16 * t + b) = nI 0) (hv : vl b < 6) (hw : ywith (16 * t + b) = nI (vl b))
    (h : ∀ (E : Int32) (x : Nat), (∀ m, bt E m = true ↔ m ≤ n ∧ dp_E (ex_L vl (.var b)) w a m) → dp_M 1 (dp_K (ex_L vl (.var b)) w n a) x → post (yplace, yroot, yrowLength, nI (16 * t), youts, ytop, ykind, ywith, ysize, ysort, ymany, yuse, ytypeOf, yleast, ygreatest, ylisted, ytypeOfName, yused, yvalued, ygiven, yname, yparent, ychildren, ycount, yrow, yvalue, yattributes, upd yends (32 * b + a) E, upd ylack (32 * b + a) (nI x), yshortest, youtKind, youtWith, ywork, yworkWith, yweight, yfollow, yfirsts, ylasts, ybare, ymet, ynameAt, ytokenAt, ytodo)) : wpY_look post (yplace, yroot, yrowLength, nI (16 * t), youts, ytop, ykind, ywith, ysize, ysort, ymany, yuse, ytypeOf, yleast, ygreatest, ylisted, ytypeOfName, yused, yvalued, ygiven, yname, yparent, ychildren, ycount, yrow, yvalue, yattributes, yends, ylack, yshortest, youtKind, youtWith, ywork, yworkWith, yweight, yfollow, yfirsts, ylasts, ybare, ymet, ynameAt, ytokenAt, ytodo) (nI b) (nI a) (nI n) := by
  have hM := dp_var_M (f := vl) (w := w) (i := b) ha
  refine sy_look0 ht hb hk (fun x4 x5 x6 e4 e5 e6 => ?_)
  subst e4
  refine br_f (by decide) (br_f (by decide) (br_t rfl ?_))
  have hz : ∀ m, ¬ (m ≤ n ∧ dp_E (ex_L vl (.var b)) w a m) → (bt 0 m = true ↔ m ≤ n ∧ dp_E (ex_L vl (.var b)) w a m) := fun m q => by rw [b_0]; exact ⟨fun q2 => absurd q2 Bool.false_ne_true, fun q2 => absurd q2 q⟩
  by_cases an : a = n
  · rw [if_pos an] at hM
    refine br_t (nI_le (by omega) (by omega)) (br_t rfl (br_t (by rw [an]) (sy_keep hb (by omega) (h 0 1 (fun m => hz m ?_) hM))))
    rintro ⟨q1, q2⟩
    have := (dp_var_E.mp q2).1
    omega
  · have ne : ¬ nI a = nI n := fun q => an ((nI_eq (by omega) (by omega)).mp q)
    obtain ⟨r1, r2⟩ := hrow a (by omega)
    rw [if_neg an] at hM
    refine br_f (nI_ge (by omega) (by omega)) ⟨vp_in_nI (by omega) (by omega), ?_⟩
    rw [nb_cl (n := a) (by omega), r1, e5, hw]
    refine pk_eq (w a) (vl b) (fun q => ?_) (fun q => ?_)
    · have hbits : ∀ m, bt ((2 : Int32) <<< (nI a &&& 31)) m = true ↔ m ≤ n ∧ dp_E (ex_L vl (.var b)) w a m := by
        intro m
        rw [bb_s2 (by omega), decide_eq_true_iff, dp_var_E]
        constructor
        · intro q2; exact ⟨by omega, q2, q⟩
        · rintro ⟨_, q2, _⟩; exact q2
      refine br_f nb_10 (br_f ne (br_f nb_10 ?_))
      rw [nI_1]
      by_cases a1 : a + 1 = n
      · rw [if_pos ⟨q, a1⟩] at hM
        exact br_t (by rw [a1]) (sy_keep hb (by omega) (h _ 0 hbits hM))
      · rw [if_neg (fun q2 => a1 q2.2)] at hM
        exact br_f (fun q2 => a1 ((nI_eq (by omega) (by omega)).mp q2)) (sy_keep hb (by omega) (h _ 100000 hbits hM))
    · rw [if_neg (fun q2 => q q2.1)] at hM
      refine br_t rfl (br_f ne (br_t rfl (sy_keep hb (by omega) (h 0 100000 (fun m => hz m ?_) hM))))
      rintro ⟨_, q2⟩
      exact q (dp_var_E.mp q2).2
/-- NOTHING -/
theorem sy_lookN {post : SY → Prop} {t b a n : Nat} {w : Nat → Nat} (ht : t < 6) (hb : b < 16) (ha : a ≤ n) (hn : n ≤ 24) (hk : ykind (16 * t + b) = nI 6)
    (h : ∀ (E : Int32) (x : Nat), (∀ m, bt E m = true ↔ m ≤ n ∧ dp_E (fun u => u = []) w a m) → dp_M 0 (dp_K (fun u => u = []) w n a) x → post (yplace, yroot, yrowLength, nI (16 * t), youts, ytop, ykind, ywith, ysize, ysort, ymany, yuse, ytypeOf, yleast, ygreatest, ylisted, ytypeOfName, yused, yvalued, ygiven, yname, yparent, ychildren, ycount, yrow, yvalue, yattributes, upd yends (32 * b + a) E, upd ylack (32 * b + a) (nI x), yshortest, youtKind, youtWith, ywork, yworkWith, yweight, yfollow, yfirsts, ylasts, ybare, ymet, ynameAt, ytokenAt, ytodo)) : wpY_look post (yplace, yroot, yrowLength, nI (16 * t), youts, ytop, ykind, ywith, ysize, ysort, ymany, yuse, ytypeOf, yleast, ygreatest, ylisted, ytypeOfName, yused, yvalued, ygiven, yname, yparent, ychildren, ycount, yrow, yvalue, yattributes, yends, ylack, yshortest, youtKind, youtWith, ywork, yworkWith, yweight, yfollow, yfirsts, ylasts, ybare, ymet, ynameAt, ytokenAt, ytodo) (nI b) (nI a) (nI n) := by
  have hM := dp_eps_M (w := w) ha
  have hbits : ∀ m, bt ((1 : Int32) <<< (nI a &&& 31)) m = true ↔ m ≤ n ∧ dp_E (fun u => u = []) w a m := by
    intro m
    rw [bb_sI (by omega), dp_eps_E]
    exact ⟨fun q => ⟨by omega, q⟩, fun q => q.2⟩
  refine sy_look0 ht hb hk (fun x4 x5 x6 e4 e5 e6 => ?_)
  subst e4
  refine br_f (by decide) (br_f (by decide) (br_f (by decide) (br_f (by decide) (br_f (by decide) (br_f (by decide) (br_f (by decide) (br_f (by decide) (br_t rfl ?_))))))))
  by_cases an : a = n
  · rw [if_pos an] at hM
    exact br_t (by rw [an]) (sy_keep hb (by omega) (h _ 0 hbits hM))
  · rw [if_neg an] at hM
    exact br_f (fun q => an ((nI_eq (by omega) (by omega)).mp q)) (sy_keep hb (by omega) (h _ 100000 hbits hM))
/-- OPTION -/
theorem sy_lookO {post : SY → Prop} {t b a n B : Nat} {w : Nat → Nat} {L : List Nat → Prop} (ht : t < 6) (hb : b + 1 < 16) (ha : a ≤ n) (hn : n ≤ 24) (hk : ykind (16 * t + b) = nI 3) (hR : ed_R L B w n (b + 1) yends ylack)
    (h : ∀ (E : Int32) (x : Nat), (∀ m, bt E m = true ↔ m ≤ n ∧ dp_E (fun u => u = [] ∨ L u) w a m) → dp_M B (dp_K (fun u => u = [] ∨ L u) w n a) x → post (yplace, yroot, yrowLength, nI (16 * t), youts, ytop, ykind, ywith, ysize, ysort, ymany, yuse, ytypeOf, yleast, ygreatest, ylisted, ytypeOfName, yused, yvalued, ygiven, yname, yparent, ychildren, ycount, yrow, yvalue, yattributes, upd yends (32 * b + a) E, upd ylack (32 * b + a) (nI x), yshortest, youtKind, youtWith, ywork, yworkWith, yweight, yfollow, yfirsts, ylasts, ybare, ymet, ynameAt, ytokenAt, ytodo)) : wpY_look post (yplace, yroot, yrowLength, nI (16 * t), youts, ytop, ykind, ywith, ysize, ysort, ymany, yuse, ytypeOf, yleast, ygreatest, ylisted, ytypeOfName, yused, yvalued, ygiven, yname, yparent, ychildren, ycount, yrow, yvalue, yattributes, yends, ylack, yshortest, youtKind, youtWith, ywork, yworkWith, yweight, yfollow, yfirsts, ylasts, ybare, ymet, ynameAt, ytokenAt, ytodo) (nI b) (nI a) (nI n) := by
  obtain ⟨hb1, x, hx, hxM⟩ := hR a ha
  have hM := dp_opt_M ha hxM
  have hbits : ∀ m, bt (yends (32 * (b + 1) + a) ||| ((1 : Int32) <<< (nI a &&& 31))) m = true ↔ m ≤ n ∧ dp_E (fun u => u = [] ∨ L u) w a m := by
    intro m
    rw [bb_orI, bb_sI (by omega), hb1 m, dp_opt_E]
    constructor
    · rintro (⟨q1, q2⟩ | q)
      · exact ⟨q1, Or.inr q2⟩
      · exact ⟨by omega, Or.inl q⟩
    · rintro ⟨q1, q | q⟩
      · exact Or.inr q
      · exact Or.inl ⟨q1, q⟩
  refine sy_look0 ht (by omega) hk (fun x4 x5 x6 e4 e5 e6 => ?_)
  subst e4 e6
  refine br_f (by decide) (br_f (by decide) (br_f (by decide) (br_f (by decide) (br_f (by decide) (br_t rfl ?_)))))
  rw [nI_add, nb_cl (n := 32 * (b + 1) + a) (by omega), hx]
  have vi : vp_in (nI (32 * (b + 1) + a)) 512 := vp_in_nI (by omega) (by omega)
  refine ⟨vi, ?_⟩
  by_cases an : a = n
  · rw [if_pos an] at hM
    exact br_t (by rw [an]) (sy_keep (by omega) (by omega) (h _ 0 hbits hM))
  · rw [if_neg an] at hM
    exact br_f (fun q => an ((nI_eq (by omega) (by omega)).mp q)) ⟨vi, sy_keep (by omega) (by omega) (h _ x hbits hM)⟩
end
