/-! ===== the reference writes the model out: the tree ===== -/
theorem wo_0 : ∀ R : ex_T, ex_w R = 0 → wo_i R = 1 := by
  intro R h
  cases R with
  | var i => rfl
  | num k => rfl
  | natCast k => rfl
  | intCast k => rfl
  | neg a => exact if_pos h
  | add a b => exact if_pos h
  | mul a b => exact if_pos h
  | sub a b => exact if_pos h
  | pow a k => exact if_pos h
theorem wl_le (b : Nat) (a : ex_T) : ∀ h lo, (wl_n b (h + 1) lo).length ≤ ex_n (ex_N a (h + 1) lo) := by
  have p := ex_n_pos a
  intro h
  induction h with
  | zero =>
    intro lo
    unfold wl_n ex_N
    by_cases q : lo = 0
    · rw [if_pos q, if_pos q]; simp only [List.length_append, List.length_cons, List.length_nil, ex_n]; omega
    · rw [if_neg q, if_neg q]; simp only [List.length_append, List.length_cons, List.length_nil]; omega
  | succ h ih =>
    intro lo
    have := ih (lo - 1)
    unfold wl_n ex_N
    by_cases q : lo = 0
    · rw [if_pos q, if_pos q]; simp only [List.length_append, List.length_cons, List.length_nil, ex_n]; omega
    · rw [if_neg q, if_neg q]; simp only [List.length_append, List.length_cons, List.length_nil, ex_n]; omega
def op_l (lo : Nat) : List (Nat × Nat) := if lo = 0 then [(3, 0)] else []
section
variable {yplace yroot yrowLength yfirst youts ytop : Int32} {ykind ywith ysize ysort ymany yuse ytypeOf yleast ygreatest ylisted ytypeOfName yused yvalued ygiven yname yparent ychildren ycount yrow yvalue yattributes yends ylack yshortest youtKind youtWith ywork yworkWith yweight yfollow yfirsts ylasts ybare ymet ynameAt ytokenAt ytodo : Nat → Int32}
theorem sy_cons {post : SY → Prop} {d b : Nat} {kd vl : Nat → Nat} {A : ex_T} (ih : (∀ (b o fu : Nat) (st : List (Nat × Nat)) (wo ww ok ow : Nat → Int32), ex_S kd vl A b → ex_W A → wg_P yweight A b → b + ex_n A ≤ d → o + ex_n (ex_E A) + st.length ≤ 1900 → ws_R wo ww ((20, b) :: st) → (∀ wo' ww' ok' ow' : Nat → Int32, ws_R wo' ww' st → ou_S ok' ow' (ex_E A) o → (∀ j, j < o → ok' j = ok j ∧ ow' j = ow j) → wY_writeOut_17 post (nI d) fu yplace yroot yrowLength yfirst (nI (o + ex_n (ex_E A))) (nI st.length) ykind ywith ysize ysort ymany yuse ytypeOf yleast ygreatest ylisted ytypeOfName yused yvalued ygiven yname yparent ychildren ycount yrow yvalue yattributes yends ylack yshortest ok' ow' wo' ww' yweight yfollow yfirsts ylasts ybare ymet ynameAt ytokenAt ytodo) → wY_writeOut_17 post (nI d) (fu + wo_i A) yplace yroot yrowLength yfirst (nI o) (nI (st.length + 1)) ykind ywith ysize ysort ymany yuse ytypeOf yleast ygreatest ylisted ytypeOfName yused yvalued ygiven yname yparent ychildren ycount yrow yvalue yattributes yends ylack yshortest ok ow wo ww yweight yfollow yfirsts ylasts ybare ymet ynameAt ytokenAt ytodo)) (hS : ex_S kd vl A (b + 1)) (hW : ex_W A) (hg : wg_P yweight A (b + 1)) (hbd : b + 1 + ex_n A ≤ d) : ∀ (h lo o fu : Nat) (st : List (Nat × Nat)) (wo ww ok ow : Nat → Int32), o + ex_n (ex_N (ex_E A) (h + 1) lo) + st.length ≤ 1900 → ws_R wo ww (wl_n b (h + 1) lo ++ st) → (∀ wo' ww' ok' ow' : Nat → Int32, ws_R wo' ww' st → ou_S ok' ow' (ex_N (ex_E A) (h + 1) lo) o → (∀ j, j < o → ok' j = ok j ∧ ow' j = ow j) → wY_writeOut_17 post (nI d) fu yplace yroot yrowLength yfirst (nI (o + ex_n (ex_N (ex_E A) (h + 1) lo))) (nI st.length) ykind ywith ysize ysort ymany yuse ytypeOf yleast ygreatest ylisted ytypeOfName yused yvalued ygiven yname yparent ychildren ycount yrow yvalue yattributes yends ylack yshortest ok' ow' wo' ww' yweight yfollow yfirsts ylasts ybare ymet ynameAt ytokenAt ytodo) → wY_writeOut_17 post (nI d) (fu + wo_t (wo_i A) (h + 1) lo) yplace yroot yrowLength yfirst (nI o) (nI (wl_n b (h + 1) lo ++ st).length) ykind ywith ysize ysort ymany yuse ytypeOf yleast ygreatest ylisted ytypeOfName yused yvalued ygiven yname yparent ychildren ycount yrow yvalue yattributes yends ylack yshortest ok ow wo ww yweight yfollow yfirsts ylasts ybare ymet ynameAt ytokenAt ytodo := by
  -- an OPTION ahead
  have opt : ∀ (T : ex_T) (l st : List (Nat × Nat)) (lo o fu r : Nat) (wo ww ok ow : Nat → Int32), l.length ≤ ex_n T → o + ex_n (if lo = 0 then .neg T else T) + st.length ≤ 1900 → ws_R wo ww (op_l lo ++ l ++ st) → (∀ (o' : Nat) (ok ow : Nat → Int32), o' + ex_n T + st.length ≤ 1900 → ws_R wo ww (l ++ st) → (∀ wo' ww' ok' ow' : Nat → Int32, ws_R wo' ww' st → ou_S ok' ow' T o' → (∀ j, j < o' → ok' j = ok j ∧ ow' j = ow j) → wY_writeOut_17 post (nI d) fu yplace yroot yrowLength yfirst (nI (o' + ex_n T)) (nI st.length) ykind ywith ysize ysort ymany yuse ytypeOf yleast ygreatest ylisted ytypeOfName yused yvalued ygiven yname yparent ychildren ycount yrow yvalue yattributes yends ylack yshortest ok' ow' wo' ww' yweight yfollow yfirsts ylasts ybare ymet ynameAt ytokenAt ytodo) → wY_writeOut_17 post (nI d) (fu + r) yplace yroot yrowLength yfirst (nI o') (nI (l ++ st).length) ykind ywith ysize ysort ymany yuse ytypeOf yleast ygreatest ylisted ytypeOfName yused yvalued ygiven yname yparent ychildren ycount yrow yvalue yattributes yends ylack yshortest ok ow wo ww yweight yfollow yfirsts ylasts ybare ymet ynameAt ytokenAt ytodo) → (∀ wo' ww' ok' ow' : Nat → Int32, ws_R wo' ww' st → ou_S ok' ow' (if lo = 0 then .neg T else T) o → (∀ j, j < o → ok' j = ok j ∧ ow' j = ow j) → wY_writeOut_17 post (nI d) fu yplace yroot yrowLength yfirst (nI (o + ex_n (if lo = 0 then .neg T else T))) (nI st.length) ykind ywith ysize ysort ymany yuse ytypeOf yleast ygreatest ylisted ytypeOfName yused yvalued ygiven yname yparent ychildren ycount yrow yvalue yattributes yends ylack yshortest ok' ow' wo' ww' yweight yfollow yfirsts ylasts ybare ymet ynameAt ytokenAt ytodo) → wY_writeOut_17 post (nI d) (fu + ((if lo = 0 then 1 else 0) + r)) yplace yroot yrowLength yfirst (nI o) (nI (op_l lo ++ l ++ st).length) ykind ywith ysize ysort ymany yuse ytypeOf yleast ygreatest ylisted ytypeOfName yused yvalued ygiven yname yparent ychildren ycount yrow yvalue yattributes yends ylack yshortest ok ow wo ww yweight yfollow yfirsts ylasts ybare ymet ynameAt ytokenAt ytodo := by
    intro T l st lo o fu r wo ww ok ow hl hB hw go h
    by_cases q : lo = 0
    · have eo : op_l lo = [(3, 0)] := if_pos q
      rw [eo] at hw ⊢
      simp only [if_pos q] at hB h ⊢
      simp only [ex_n] at hB h
      rw [show fu + (1 + r) = fu + r + 1 by omega]
      refine sy_popO (k := 3) (st := l ++ st) (by omega) (by rw [List.length_append]; omega) (by omega) hw (go (o + 1) _ _ (by omega) hw.2.2 (fun wo' ww' ok' ow' c1 c2 c3 => ?_))
      rw [show o + 1 + ex_n T = o + (1 + ex_n T) by omega]
      refine h wo' ww' ok' ow' c1 ⟨?_, c2⟩ (fun j hj => ?_)
      · rw [(c3 o (by omega)).1, pk_us]
      · obtain ⟨e1, e2⟩ := c3 j (by omega)
        rw [e1, e2, pk_un (by omega), pk_un (by omega)]
        exact ⟨rfl, rfl⟩
    · have eo : op_l lo = [] := if_neg q
      rw [eo] at hw ⊢
      simp only [if_neg q] at hB h ⊢
      rw [Nat.zero_add]
      exact go o ok ow hB hw h
  intro h
  induction h with
  | zero =>
    intro lo o fu st wo ww ok ow hB hw hc
    unfold wl_n ex_N wo_t at *
    exact opt (ex_E A) [(20, b + 1)] st lo o fu (wo_i A) wo ww ok ow (ex_n_pos _) hB hw (fun o' ok ow hB' hw' hc' => ih (b + 1) o' fu st wo ww ok ow hS hW hg hbd hB' hw' hc') hc
  | succ h ihh =>
    intro lo o fu st wo ww ok ow hB hw hc
    have pA := ex_n_pos (ex_E A)
    have hl := wl_le b (ex_E A) h (lo - 1)
    have t := opt (.mul (ex_E A) (ex_N (ex_E A) (h + 1) (lo - 1))) ((1, 0) :: (20, b + 1) :: wl_n b (h + 1) (lo - 1)) st lo o fu (1 + wo_i A + wo_t (wo_i A) (h + 1) (lo - 1)) wo ww ok ow (by simp only [List.length_cons, ex_n]; omega) hB hw (fun o' ok ow hB' hw' hc' => ?_) hc
    · exact t
    · simp only [ex_n] at hB' hc'
      rw [show fu + (1 + wo_i A + wo_t (wo_i A) (h + 1) (lo - 1)) = fu + wo_t (wo_i A) (h + 1) (lo - 1) + wo_i A + 1 by omega]
      refine sy_popO (k := 1) (st := (20, b + 1) :: (wl_n b (h + 1) (lo - 1) ++ st)) (by omega) (by simp only [List.length_cons, List.length_append]; omega) (by omega) hw' ?_
      refine ih (b + 1) (o' + 1) (fu + wo_t (wo_i A) (h + 1) (lo - 1)) (wl_n b (h + 1) (lo - 1) ++ st) wo ww _ _ hS hW hg hbd (by rw [List.length_append]; omega) hw'.2.2 (fun wo1 ww1 ok1 ow1 c1 c2 c3 => ?_)
      refine ihh (lo - 1) (o' + 1 + ex_n (ex_E A)) fu st wo1 ww1 ok1 ow1 (by omega) c1 (fun wo2 ww2 ok2 ow2 e1 e2 e3 => ?_)
      rw [show o' + 1 + ex_n (ex_E A) + ex_n (ex_N (ex_E A) (h + 1) (lo - 1)) = o' + (1 + ex_n (ex_E A) + ex_n (ex_N (ex_E A) (h + 1) (lo - 1))) by omega]
      refine hc' wo2 ww2 ok2 ow2 e1 ⟨?_, ou_cg _ _ (fun j j1 j2 => e3 j (by omega)) c2, e2⟩ (fun j hj => ?_)
      · rw [(e3 o' (by omega)).1, (c3 o' (by omega)).1, pk_us]
      · obtain ⟨u1, u2⟩ := e3 j (by omega)
        obtain ⟨u3, u4⟩ := c3 j (by omega)
        rw [u1, u2, u3, u4, pk_un (by omega), pk_un (by omega)]
        exact ⟨rfl, rfl⟩
theorem sy_woT {post : SY → Prop} {d : Nat} {kd vl : Nat → Nat} (hd : d ≤ 16) (hK : rl_K ykind ywith 96 d kd vl) : ∀ R : ex_T, (∀ (b o fu : Nat) (st : List (Nat × Nat)) (wo ww ok ow : Nat → Int32), ex_S kd vl R b → ex_W R → wg_P yweight R b → b + ex_n R ≤ d → o + ex_n (ex_E R) + st.length ≤ 1900 → ws_R wo ww ((20, b) :: st) → (∀ wo' ww' ok' ow' : Nat → Int32, ws_R wo' ww' st → ou_S ok' ow' (ex_E R) o → (∀ j, j < o → ok' j = ok j ∧ ow' j = ow j) → wY_writeOut_17 post (nI d) fu yplace yroot yrowLength yfirst (nI (o + ex_n (ex_E R))) (nI st.length) ykind ywith ysize ysort ymany yuse ytypeOf yleast ygreatest ylisted ytypeOfName yused yvalued ygiven yname yparent ychildren ycount yrow yvalue yattributes yends ylack yshortest ok' ow' wo' ww' yweight yfollow yfirsts ylasts ybare ymet ynameAt ytokenAt ytodo) → wY_writeOut_17 post (nI d) (fu + wo_i R) yplace yroot yrowLength yfirst (nI o) (nI (st.length + 1)) ykind ywith ysize ysort ymany yuse ytypeOf yleast ygreatest ylisted ytypeOfName yused yvalued ygiven yname yparent ychildren ycount yrow yvalue yattributes yends ylack yshortest ok ow wo ww yweight yfollow yfirsts ylasts ybare ymet ynameAt ytokenAt ytodo) := by
  have kind : ∀ b kk, b < d → kd b = kk → ykind (96 + b) = nI kk := fun b kk hb q => by rw [(hK b hb).1, q]
  have n8 : ∀ kk, kk < 8 → ¬ nI kk = 8 := fun kk hk e => absurd ((nI_eq (b := 8) (by omega) (by omega)).mp e) (by omega)
  have zero : ∀ R : ex_T, ex_w R = 0 → (∀ (b o fu : Nat) (st : List (Nat × Nat)) (wo ww ok ow : Nat → Int32), ex_S kd vl R b → ex_W R → wg_P yweight R b → b + ex_n R ≤ d → o + ex_n (ex_E R) + st.length ≤ 1900 → ws_R wo ww ((20, b) :: st) → (∀ wo' ww' ok' ow' : Nat → Int32, ws_R wo' ww' st → ou_S ok' ow' (ex_E R) o → (∀ j, j < o → ok' j = ok j ∧ ow' j = ow j) → wY_writeOut_17 post (nI d) fu yplace yroot yrowLength yfirst (nI (o + ex_n (ex_E R))) (nI st.length) ykind ywith ysize ysort ymany yuse ytypeOf yleast ygreatest ylisted ytypeOfName yused yvalued ygiven yname yparent ychildren ycount yrow yvalue yattributes yends ylack yshortest ok' ow' wo' ww' yweight yfollow yfirsts ylasts ybare ymet ynameAt ytokenAt ytodo) → wY_writeOut_17 post (nI d) (fu + wo_i R) yplace yroot yrowLength yfirst (nI o) (nI (st.length + 1)) ykind ywith ysize ysort ymany yuse ytypeOf yleast ygreatest ylisted ytypeOfName yused yvalued ygiven yname yparent ychildren ycount yrow yvalue yattributes yends ylack yshortest ok ow wo ww yweight yfollow yfirsts ylasts ybare ymet ynameAt ytokenAt ytodo) := by
    intro R h0 b o fu st wo ww ok ow hS hW hg hbd hB hw h
    have pR := ex_n_pos R
    rw [wo_0 R h0]
    rw [ex_E_0 R h0] at hB h
    simp only [ex_n] at hB h
    refine sy_popX (W := ex_w R) (by omega) (by omega) hw (wg_b hg) (fun _ => sy_emit (k := 6) (v := 0) (by omega) (by omega) (by omega) (h _ _ _ _ hw.2.2 pk_us (fun j hj => ⟨pk_un (by omega), pk_un (by omega)⟩))) (fun q => absurd h0 q)
  have two : ∀ (P Q R : ex_T) (kk : Nat), (kk = 1 ∨ kk = 2) → ex_w R = ex_w P + ex_w Q → (∀ ok ow b, ou_S ok ow (ex_E R) b ↔ ex_w R = 0 ∧ ou_S ok ow (ex_E R) b ∨ ex_w R ≠ 0 ∧ ok b = nI kk ∧ ou_S ok ow (ex_E P) (b + 1) ∧ ou_S ok ow (ex_E Q) (b + 1 + ex_n (ex_E P))) → (ex_w R ≠ 0 → ex_n (ex_E R) = 1 + ex_n (ex_E P) + ex_n (ex_E Q)) → (ex_w R ≠ 0 → wo_i R = 1 + (wo_i P + wo_i Q)) → ex_n R = 1 + ex_n P + ex_n Q → (∀ b, ex_S kd vl R b → kd b = kk ∧ ex_S kd vl P (b + 1) ∧ ex_S kd vl Q (b + 1 + ex_n P)) → (ex_W R → ex_W P ∧ ex_W Q) → (∀ b, wg_P yweight R b → wg_P yweight P (b + 1) ∧ wg_P yweight Q (b + 1 + ex_n P)) → (∀ (b o fu : Nat) (st : List (Nat × Nat)) (wo ww ok ow : Nat → Int32), ex_S kd vl P b → ex_W P → wg_P yweight P b → b + ex_n P ≤ d → o + ex_n (ex_E P) + st.length ≤ 1900 → ws_R wo ww ((20, b) :: st) → (∀ wo' ww' ok' ow' : Nat → Int32, ws_R wo' ww' st → ou_S ok' ow' (ex_E P) o → (∀ j, j < o → ok' j = ok j ∧ ow' j = ow j) → wY_writeOut_17 post (nI d) fu yplace yroot yrowLength yfirst (nI (o + ex_n (ex_E P))) (nI st.length) ykind ywith ysize ysort ymany yuse ytypeOf yleast ygreatest ylisted ytypeOfName yused yvalued ygiven yname yparent ychildren ycount yrow yvalue yattributes yends ylack yshortest ok' ow' wo' ww' yweight yfollow yfirsts ylasts ybare ymet ynameAt ytokenAt ytodo) → wY_writeOut_17 post (nI d) (fu + wo_i P) yplace yroot yrowLength yfirst (nI o) (nI (st.length + 1)) ykind ywith ysize ysort ymany yuse ytypeOf yleast ygreatest ylisted ytypeOfName yused yvalued ygiven yname yparent ychildren ycount yrow yvalue yattributes yends ylack yshortest ok ow wo ww yweight yfollow yfirsts ylasts ybare ymet ynameAt ytokenAt ytodo) → (∀ (b o fu : Nat) (st : List (Nat × Nat)) (wo ww ok ow : Nat → Int32), ex_S kd vl Q b → ex_W Q → wg_P yweight Q b → b + ex_n Q ≤ d → o + ex_n (ex_E Q) + st.length ≤ 1900 → ws_R wo ww ((20, b) :: st) → (∀ wo' ww' ok' ow' : Nat → Int32, ws_R wo' ww' st → ou_S ok' ow' (ex_E Q) o → (∀ j, j < o → ok' j = ok j ∧ ow' j = ow j) → wY_writeOut_17 post (nI d) fu yplace yroot yrowLength yfirst (nI (o + ex_n (ex_E Q))) (nI st.length) ykind ywith ysize ysort ymany yuse ytypeOf yleast ygreatest ylisted ytypeOfName yused yvalued ygiven yname yparent ychildren ycount yrow yvalue yattributes yends ylack yshortest ok' ow' wo' ww' yweight yfollow yfirsts ylasts ybare ymet ynameAt ytokenAt ytodo) → wY_writeOut_17 post (nI d) (fu + wo_i Q) yplace yroot yrowLength yfirst (nI o) (nI (st.length + 1)) ykind ywith ysize ysort ymany yuse ytypeOf yleast ygreatest ylisted ytypeOfName yused yvalued ygiven yname yparent ychildren ycount yrow yvalue yattributes yends ylack yshortest ok ow wo ww yweight yfollow yfirsts ylasts ybare ymet ynameAt ytokenAt ytodo) → ex_w R ≠ 0 → (∀ (b o fu : Nat) (st : List (Nat × Nat)) (wo ww ok ow : Nat → Int32), ex_S kd vl R b → ex_W R → wg_P yweight R b → b + ex_n R ≤ d → o + ex_n (ex_E R) + st.length ≤ 1900 → ws_R wo ww ((20, b) :: st) → (∀ wo' ww' ok' ow' : Nat → Int32, ws_R wo' ww' st → ou_S ok' ow' (ex_E R) o → (∀ j, j < o → ok' j = ok j ∧ ow' j = ow j) → wY_writeOut_17 post (nI d) fu yplace yroot yrowLength yfirst (nI (o + ex_n (ex_E R))) (nI st.length) ykind ywith ysize ysort ymany yuse ytypeOf yleast ygreatest ylisted ytypeOfName yused yvalued ygiven yname yparent ychildren ycount yrow yvalue yattributes yends ylack yshortest ok' ow' wo' ww' yweight yfollow yfirsts ylasts ybare ymet ynameAt ytokenAt ytodo) → wY_writeOut_17 post (nI d) (fu + wo_i R) yplace yroot yrowLength yfirst (nI o) (nI (st.length + 1)) ykind ywith ysize ysort ymany yuse ytypeOf yleast ygreatest ylisted ytypeOfName yused yvalued ygiven yname yparent ychildren ycount yrow yvalue yattributes yends ylack yshortest ok ow wo ww yweight yfollow yfirsts ylasts ybare ymet ynameAt ytokenAt ytodo) := by
    intro P Q R kk hkk hw1 hou hne hwo hn hS1 hW1 hg1 ihP ihQ h0 b o fu st wo ww ok ow hS hW hg hbd hB hw h
    obtain ⟨sb, sP, sQ⟩ := hS1 b hS
    obtain ⟨wP, wQ⟩ := hW1 hW
    obtain ⟨gP, gQ⟩ := hg1 b hg
    have pP := ex_n_pos P
    have pQ := ex_n_pos Q
    have qP := ex_n_pos (ex_E P)
    have qQ := ex_n_pos (ex_E Q)
    have hbg := wg_b hg
    rw [hne h0] at hB h
    rw [hwo h0, show fu + (1 + (wo_i P + wo_i Q)) = fu + wo_i Q + wo_i P + 1 by omega]
    have kb := kind b kk (by omega) sb
    refine sy_popX (W := ex_w R) (by omega) (by omega) hw hbg (fun q => absurd q h0) (fun _ => br_f (by rw [kb]; exact n8 kk (by omega)) ?_)
    refine sy_part2 (P := P) (d := d) (kk := kk) (T := st.length) hd hK sP (by omega) (by omega) (by omega) hkk kb ?_
    refine ihP (b + 1) (o + 1) (fu + wo_i Q) ((20, b + 1 + ex_n P) :: st) _ _ _ _ sP wP gP (by omega) (by simp only [List.length_cons]; omega) (ws_push (k := 20) (v := b + 1) (l := (20, b + 1 + ex_n P) :: st) (ws_push (k := 20) (v := b + 1 + ex_n P) (l := st) hw.2.2)) (fun wo1 ww1 ok1 ow1 c1 c2 c3 => ?_)
    refine ihQ (b + 1 + ex_n P) (o + 1 + ex_n (ex_E P)) fu st wo1 ww1 ok1 ow1 sQ wQ gQ (by omega) (by omega) c1 (fun wo2 ww2 ok2 ow2 e1 e2 e3 => ?_)
    rw [show o + 1 + ex_n (ex_E P) + ex_n (ex_E Q) = o + (1 + ex_n (ex_E P) + ex_n (ex_E Q)) by omega]
    refine h wo2 ww2 ok2 ow2 e1 ((hou ok2 ow2 o).mpr (Or.inr ⟨h0, ?_, ou_cg _ _ (fun j j1 j2 => e3 j (by omega)) c2, e2⟩)) (fun j hj => ?_)
    · rw [(e3 o (by omega)).1, (c3 o (by omega)).1, pk_us]
    · obtain ⟨u1, u2⟩ := e3 j (by omega)
      obtain ⟨u3, u4⟩ := c3 j (by omega)
      rw [u1, u2, u3, u4, pk_un (by omega), pk_un (by omega)]
      exact ⟨rfl, rfl⟩
  have one : ∀ (A R : ex_T) (kk : Nat), (kk = 3 ∨ kk = 4 ∨ kk = 5) → (ex_w R ≠ 0 → ∀ ok ow b, ok b = nI kk → ou_S ok ow (ex_E A) (b + 1) → ou_S ok ow (ex_E R) b) → (ex_w R ≠ 0 → ex_n (ex_E R) = 1 + ex_n (ex_E A)) → (ex_w R ≠ 0 → wo_i R = 1 + wo_i A) → ex_n R = 1 + ex_n A → ex_W A → (∀ (b o fu : Nat) (st : List (Nat × Nat)) (wo ww ok ow : Nat → Int32), ex_S kd vl A b → ex_W A → wg_P yweight A b → b + ex_n A ≤ d → o + ex_n (ex_E A) + st.length ≤ 1900 → ws_R wo ww ((20, b) :: st) → (∀ wo' ww' ok' ow' : Nat → Int32, ws_R wo' ww' st → ou_S ok' ow' (ex_E A) o → (∀ j, j < o → ok' j = ok j ∧ ow' j = ow j) → wY_writeOut_17 post (nI d) fu yplace yroot yrowLength yfirst (nI (o + ex_n (ex_E A))) (nI st.length) ykind ywith ysize ysort ymany yuse ytypeOf yleast ygreatest ylisted ytypeOfName yused yvalued ygiven yname yparent ychildren ycount yrow yvalue yattributes yends ylack yshortest ok' ow' wo' ww' yweight yfollow yfirsts ylasts ybare ymet ynameAt ytokenAt ytodo) → wY_writeOut_17 post (nI d) (fu + wo_i A) yplace yroot yrowLength yfirst (nI o) (nI (st.length + 1)) ykind ywith ysize ysort ymany yuse ytypeOf yleast ygreatest ylisted ytypeOfName yused yvalued ygiven yname yparent ychildren ycount yrow yvalue yattributes yends ylack yshortest ok ow wo ww yweight yfollow yfirsts ylasts ybare ymet ynameAt ytokenAt ytodo) → ex_w R ≠ 0 → ∀ (b o fu : Nat) (st : List (Nat × Nat)) (wo ww ok ow : Nat → Int32), kd b = kk → ex_S kd vl A (b + 1) → wg_P yweight R b → wg_P yweight A (b + 1) → b + ex_n R ≤ d → o + ex_n (ex_E R) + st.length ≤ 1900 → ws_R wo ww ((20, b) :: st) → (∀ wo' ww' ok' ow' : Nat → Int32, ws_R wo' ww' st → ou_S ok' ow' (ex_E R) o → (∀ j, j < o → ok' j = ok j ∧ ow' j = ow j) → wY_writeOut_17 post (nI d) fu yplace yroot yrowLength yfirst (nI (o + ex_n (ex_E R))) (nI st.length) ykind ywith ysize ysort ymany yuse ytypeOf yleast ygreatest ylisted ytypeOfName yused yvalued ygiven yname yparent ychildren ycount yrow yvalue yattributes yends ylack yshortest ok' ow' wo' ww' yweight yfollow yfirsts ylasts ybare ymet ynameAt ytokenAt ytodo) → wY_writeOut_17 post (nI d) (fu + wo_i R) yplace yroot yrowLength yfirst (nI o) (nI (st.length + 1)) ykind ywith ysize ysort ymany yuse ytypeOf yleast ygreatest ylisted ytypeOfName yused yvalued ygiven yname yparent ychildren ycount yrow yvalue yattributes yends ylack yshortest ok ow wo ww yweight yfollow yfirsts ylasts ybare ymet ynameAt ytokenAt ytodo := by
    intro A R kk hkk hou hne hwo hn wA ihA h0 b o fu st wo ww ok ow sb sA hgR gA hbd hB hw h
    have pA := ex_n_pos A
    have qA := ex_n_pos (ex_E A)
    rw [hne h0] at hB h
    rw [hwo h0, show fu + (1 + wo_i A) = fu + wo_i A + 1 by omega]
    have kb := kind b kk (by omega) sb
    refine sy_popX (W := ex_w R) (by omega) (by omega) hw (wg_b hgR) (fun q => absurd q h0) (fun _ => br_f (by rw [kb]; exact n8 kk (by omega)) ?_)
    refine sy_part1 (kk := kk) (T := st.length) (by omega) (by omega) (by omega) hkk kb ?_
    refine ihA (b + 1) (o + 1) fu st _ _ _ _ sA wA gA (by omega) (by omega) (ws_push (k := 20) (v := b + 1) (l := st) hw.2.2) (fun wo1 ww1 ok1 ow1 c1 c2 c3 => ?_)
    rw [show o + 1 + ex_n (ex_E A) = o + (1 + ex_n (ex_E A)) by omega]
    refine h wo1 ww1 ok1 ow1 c1 (hou h0 _ _ _ ?_ c2) (fun j hj => ?_)
    · rw [(c3 o (by omega)).1, pk_us]
    · obtain ⟨u3, u4⟩ := c3 j (by omega)
      rw [u3, u4, pk_un (by omega), pk_un (by omega)]
      exact ⟨rfl, rfl⟩
  intro R
  induction R with
  | natCast k => intro b o fu st wo ww ok ow hS; exact hS.elim
  | intCast k => intro b o fu st wo ww ok ow hS; exact hS.elim
  | num k => exact zero _ rfl
  | var i =>
    intro b o fu st wo ww ok ow hS hW hg hbd hB hw h
    obtain ⟨sb, rfl⟩ := hS
    simp only [ex_n, ex_E] at hbd hB h
    have kb := kind i 0 (by omega) sb
    refine sy_popX (W := 1) (by omega) (by omega) hw hg (fun q => by omega) (fun _ => br_f (by rw [kb]; decide) ?_)
    exact sy_partV (by omega) (by omega) kb (h _ _ _ _ hw.2.2 ⟨pk_us, pk_us⟩ (fun j hj => ⟨pk_un (by omega), pk_un (by omega)⟩))
  | neg A ih =>
    by_cases h0 : ex_w A = 0
    · exact zero _ h0
    · intro b o fu st wo ww ok ow hS hW hg hbd hB hw h
      have e : ex_E (.neg A) = .neg (ex_E A) := if_neg h0
      exact one A (.neg A) 3 (by omega) (fun _ ok ow b c1 c2 => by rw [e]; exact ⟨c1, c2⟩) (fun _ => by rw [e]; rfl) (fun _ => if_neg h0) rfl hW ih h0 b o fu st wo ww ok ow hS.1 hS.2 hg hg.2 hbd hB hw h
  | add P Q ihP ihQ =>
    by_cases h0 : ex_w P + ex_w Q = 0
    · exact zero _ h0
    · have e : ex_E (.add P Q) = .add (ex_E P) (ex_E Q) := if_neg h0
      exact two P Q (.add P Q) 2 (by omega) rfl (fun ok ow b => by rw [e]; exact ⟨fun q => Or.inr ⟨h0, q⟩, fun q => q.elim (fun q => q.2) (fun q => q.2)⟩) (fun _ => by rw [e]; rfl) (fun _ => if_neg h0) rfl (fun b hS => hS) (fun hW => hW) (fun b hg => hg.2) ihP ihQ h0
  | mul P Q ihP ihQ =>
    by_cases h0 : ex_w P + ex_w Q = 0
    · exact zero _ h0
    · have e : ex_E (.mul P Q) = .mul (ex_E P) (ex_E Q) := if_neg h0
      exact two P Q (.mul P Q) 1 (by omega) rfl (fun ok ow b => by rw [e]; exact ⟨fun q => Or.inr ⟨h0, q⟩, fun q => q.elim (fun q => q.2) (fun q => q.2)⟩) (fun _ => by rw [e]; rfl) (fun _ => if_neg h0) rfl (fun b hS => hS) (fun hW => hW) (fun b hg => hg.2) ihP ihQ h0
  | sub P Q ihP ihQ =>
    by_cases h0 : 2 * (ex_w P + ex_w Q) = 0
    · exact zero _ h0
    · intro b o fu st wo ww ok ow hS hW hg hbd hB hw h
      obtain ⟨sb, sP, sQ⟩ := hS
      obtain ⟨hgb, gP, gQ⟩ := hg
      have pP := ex_n_pos P
      have pQ := ex_n_pos Q
      have qP := ex_n_pos (ex_E P)
      have qQ := ex_n_pos (ex_E Q)
      have e : ex_E (.sub P Q) = .add (.mul (ex_E P) (ex_E Q)) (.mul (ex_E Q) (ex_E P)) := if_neg h0
      have ew : wo_i (.sub P Q) = 1 + (1 + (wo_i P + (wo_i Q + (1 + (wo_i Q + wo_i P))))) := if_neg h0
      rw [e] at hB h
      simp only [ex_n] at hbd hB h
      rw [ew, show fu + (1 + (1 + (wo_i P + (wo_i Q + (1 + (wo_i Q + wo_i P)))))) = fu + wo_i P + wo_i Q + 1 + wo_i Q + wo_i P + 1 + 1 by omega]
      have kb := kind b 7 (by omega) sb
      refine sy_popX (W := ex_w (.sub P Q)) (by omega) (by omega) hw hgb (fun q => absurd q h0) (fun _ => br_f (by rw [kb]; decide) ?_)
      refine sy_part7 (P := P) (d := d) (st := st) hd hK sP (by omega) (by omega) (by omega) kb hw.2.2 (fun wo0 ww0 w0 => ?_)
      refine sy_popO (k := 1) (o := o + 1) (st := (20, b + 1) :: (20, b + 1 + ex_n P) :: (1, 0) :: (20, b + 1 + ex_n P) :: (20, b + 1) :: st) (by omega) (by simp only [List.length_cons]; omega) (by omega) w0 ?_
      refine ihP (b + 1) (o + 1 + 1) (fu + wo_i P + wo_i Q + 1 + wo_i Q) ((20, b + 1 + ex_n P) :: (1, 0) :: (20, b + 1 + ex_n P) :: (20, b + 1) :: st) wo0 ww0 _ _ sP hW.1 gP (by omega) (by simp only [List.length_cons]; omega) w0.2.2 (fun wo1 ww1 ok1 ow1 c1 c2 c3 => ?_)
      refine ihQ (b + 1 + ex_n P) (o + 1 + 1 + ex_n (ex_E P)) (fu + wo_i P + wo_i Q + 1) ((1, 0) :: (20, b + 1 + ex_n P) :: (20, b + 1) :: st) wo1 ww1 ok1 ow1 sQ hW.2 gQ (by omega) (by simp only [List.length_cons]; omega) c1 (fun wo2 ww2 ok2 ow2 e1 e2 e3 => ?_)
      refine sy_popO (k := 1) (o := o + 1 + 1 + ex_n (ex_E P) + ex_n (ex_E Q)) (st := (20, b + 1 + ex_n P) :: (20, b + 1) :: st) (by omega) (by simp only [List.length_cons]; omega) (by omega) e1 ?_
      refine ihQ (b + 1 + ex_n P) (o + 1 + 1 + ex_n (ex_E P) + ex_n (ex_E Q) + 1) (fu + wo_i P) ((20, b + 1) :: st) wo2 ww2 _ _ sQ hW.2 gQ (by omega) (by simp only [List.length_cons]; omega) e1.2.2 (fun wo3 ww3 ok3 ow3 f1 f2 f3 => ?_)
      refine ihP (b + 1) (o + 1 + 1 + ex_n (ex_E P) + ex_n (ex_E Q) + 1 + ex_n (ex_E Q)) fu st wo3 ww3 ok3 ow3 sP hW.1 gP (by omega) (by omega) f1 (fun wo4 ww4 ok4 ow4 g1 g2 g3 => ?_)
      rw [show o + 1 + 1 + ex_n (ex_E P) + ex_n (ex_E Q) + 1 + ex_n (ex_E Q) + ex_n (ex_E P) = o + (1 + (1 + ex_n (ex_E P) + ex_n (ex_E Q)) + (1 + ex_n (ex_E Q) + ex_n (ex_E P))) by omega]
      refine h wo4 ww4 ok4 ow4 g1 ⟨?_, ⟨?_, ?_, ?_⟩, ?_, ?_, ?_⟩ (fun j hj => ?_)
      · rw [(g3 o (by omega)).1, (f3 o (by omega)).1, pk_un (by omega), (e3 o (by omega)).1, (c3 o (by omega)).1, pk_un (by omega), pk_us]
      · rw [(g3 (o + 1) (by omega)).1, (f3 (o + 1) (by omega)).1, pk_un (by omega), (e3 (o + 1) (by omega)).1, (c3 (o + 1) (by omega)).1, pk_us]
      · refine ou_cg _ _ (fun j j1 j2 => ?_) c2
        obtain ⟨a1, a2⟩ := g3 j (by omega)
        obtain ⟨a3, a4⟩ := f3 j (by omega)
        obtain ⟨a5, a6⟩ := e3 j (by omega)
        rw [a1, a2, a3, a4, pk_un (by omega), pk_un (by omega)]
        exact ⟨a5, a6⟩
      · refine ou_cg _ _ (fun j j1 j2 => ?_) e2
        obtain ⟨a1, a2⟩ := g3 j (by omega)
        obtain ⟨a3, a4⟩ := f3 j (by omega)
        rw [a1, a2, a3, a4, pk_un (by omega), pk_un (by omega)]
        exact ⟨rfl, rfl⟩
      · simp only [ex_n]
        rw [show o + 1 + (1 + ex_n (ex_E P) + ex_n (ex_E Q)) = o + 1 + 1 + ex_n (ex_E P) + ex_n (ex_E Q) by omega, (g3 (o + 1 + 1 + ex_n (ex_E P) + ex_n (ex_E Q)) (by omega)).1, (f3 (o + 1 + 1 + ex_n (ex_E P) + ex_n (ex_E Q)) (by omega)).1, pk_us]
      · simp only [ex_n]
        rw [show o + 1 + (1 + ex_n (ex_E P) + ex_n (ex_E Q)) + 1 = o + 1 + 1 + ex_n (ex_E P) + ex_n (ex_E Q) + 1 by omega]
        exact ou_cg _ _ (fun j j1 j2 => g3 j (by omega)) f2
      · simp only [ex_n]
        rw [show o + 1 + (1 + ex_n (ex_E P) + ex_n (ex_E Q)) + 1 + ex_n (ex_E Q) = o + 1 + 1 + ex_n (ex_E P) + ex_n (ex_E Q) + 1 + ex_n (ex_E Q) by omega]
        exact g2
      · obtain ⟨a1, a2⟩ := g3 j (by omega)
        obtain ⟨a3, a4⟩ := f3 j (by omega)
        obtain ⟨a5, a6⟩ := e3 j (by omega)
        obtain ⟨a7, a8⟩ := c3 j (by omega)
        rw [a1, a2, a3, a4, pk_un (by omega), pk_un (by omega), a5, a6, a7, a8, pk_un (by omega), pk_un (by omega), pk_un (by omega), pk_un (by omega)]
        exact ⟨rfl, rfl⟩
  | pow A k ih =>
    by_cases h0 : ex_m k * ex_w A = 0
    · exact zero _ h0
    · intro b o fu st wo ww ok ow hS hW hg hbd hB hw h
      obtain ⟨s1, sA⟩ := hS
      obtain ⟨hgb, gA⟩ := hg
      have pA := ex_n_pos A
      rcases s1 with ⟨u1, u2, u3⟩ | ⟨u1, u2⟩ | ⟨u1, u2⟩
      · have e : ex_E (.pow A k) = ex_N (ex_E A) (k % 4) (k / 4) := (if_neg h0).trans (if_pos u1)
        have ew : wo_i (.pow A k) = 1 + wo_t (wo_i A) (k % 4) (k / 4) := (if_neg h0).trans (if_pos u1)
        have hv := hW.2.2 u1
        simp only [ex_n] at hbd
        rw [e] at hB h
        rw [ew, show fu + (1 + wo_t (wo_i A) (k % 4) (k / 4)) = fu + wo_t (wo_i A) (k % 4) (k / 4) + 1 by omega]
        have kb := kind b 8 (by omega) u2
        have wb : ywith (96 + b) = nI k := by rw [(hK b (by omega)).2.2.2.2 (Or.inr u2), u3]
        refine sy_popX (W := ex_w (.pow A k)) (by omega) (by omega) hw hgb (fun q => absurd q h0) (fun _ => br_t (by rw [kb]; rfl) ?_)
        refine sy_times (st := st) (by omega) u1 hv.1 (by omega) wb hw.2.2 (fun wo0 ww0 w0 => ?_)
        have e4 : k % 4 = (k % 4 - 1) + 1 := by omega
        have c := sy_cons (A := A) (b := b) (post := post) ih sA hW.1 gA (by omega) (k % 4 - 1) (k / 4) o fu st wo0 ww0 ok ow (by rw [← e4]; exact hB) (by rw [← e4]; exact w0) (by rw [← e4]; exact h)
        rw [← e4] at c
        exact c
      · subst u1
        have e : ex_E (.pow A 16) = .pow (ex_E A) 16 := (if_neg h0).trans (if_neg (by omega))
        have ew : wo_i (.pow A 16) = 1 + wo_i A := (if_neg h0).trans (if_neg (by omega))
        exact one A (.pow A 16) 4 (by omega) (fun _ ok ow b c1 c2 => by rw [e]; exact ⟨Or.inl ⟨rfl, c1⟩, c2⟩) (fun _ => by rw [e]; rfl) (fun _ => ew) rfl hW.1 ih h0 b o fu st wo ww ok ow u2 sA ⟨hgb, gA⟩ gA hbd hB hw h
      · subst u1
        have e : ex_E (.pow A 17) = .pow (ex_E A) 17 := (if_neg h0).trans (if_neg (by omega))
        have ew : wo_i (.pow A 17) = 1 + wo_i A := (if_neg h0).trans (if_neg (by omega))
        exact one A (.pow A 17) 5 (by omega) (fun _ ok ow b c1 c2 => by rw [e]; exact ⟨Or.inr ⟨rfl, c1⟩, c2⟩) (fun _ => by rw [e]; rfl) (fun _ => ew) rfl hW.1 ih h0 b o fu st wo ww ok ow u2 sA ⟨hgb, gA⟩ gA hbd hB hw h
theorem sy_writeOut {post : SY → Prop} {kd vl : Nat → Nat} {R : ex_T} (hd : ex_n R ≤ 16) (hK : rl_K ykind ywith 96 (ex_n R) kd vl) (hS : ex_S kd vl R 0) (hW : ex_W R) (hw : ex_w R ≤ 30) (hg : wg_P yweight R 0) (h : ∀ (tp : Int32) (wo ww ok ow : Nat → Int32), ou_S ok ow (ex_E R) 0 → post (yplace, yroot, yrowLength, yfirst, nI (ex_n (ex_E R)), tp, ykind, ywith, ysize, ysort, ymany, yuse, ytypeOf, yleast, ygreatest, ylisted, ytypeOfName, yused, yvalued, ygiven, yname, yparent, ychildren, ycount, yrow, yvalue, yattributes, yends, ylack, yshortest, ok, ow, wo, ww, yweight, yfollow, yfirsts, ylasts, ybare, ymet, ynameAt, ytokenAt, ytodo)) : wpY_writeOut post (yplace, yroot, yrowLength, yfirst, youts, ytop, ykind, ywith, ysize, ysort, ymany, yuse, ytypeOf, yleast, ygreatest, ylisted, ytypeOfName, yused, yvalued, ygiven, yname, yparent, ychildren, ycount, yrow, yvalue, yattributes, yends, ylack, yshortest, youtKind, youtWith, ywork, yworkWith, yweight, yfollow, yfirsts, ylasts, ybare, ymet, ynameAt, ytokenAt, ytodo) (nI (ex_n R)) := by
  have hlen : ex_n (ex_E R) ≤ 1440 := by
    rcases Nat.eq_zero_or_pos (ex_w R) with q | q
    · rw [ex_E_0 R q]; simp only [ex_n]; omega
    · have := ex_E_n R hW q
      have h2 : ex_n R * ex_w R ≤ 16 * 30 := Nat.mul_le_mul hd hw
      omega
  unfold wpY_writeOut
  refine sy_later (k := 20) (v := 0) (T := 0) (by omega) (by omega) (by omega) ⟨1 + wo_i R, ?_⟩
  refine sy_woT (d := ex_n R) (kd := kd) (vl := vl) hd hK R 0 0 1 [] _ _ youtKind youtWith hS hW hg (by omega) (by simp only [List.length_nil]; omega) (ws_push (k := 20) (v := 0) (l := []) trivial) (fun wo' ww' ok' ow' _ c2 _ => br_t (by decide) ?_)
  rw [Nat.zero_add]
  exact h _ wo' ww' ok' ow' c2
end
