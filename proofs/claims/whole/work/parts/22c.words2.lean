/-! ===== STAR and PLUS in the reference's tables ===== -/
section
variable {yplace yroot yrowLength yfirst youts ytop : Int32} {ykind ywith ysize ysort ymany yuse ytypeOf yleast ygreatest ylisted ytypeOfName yused yvalued ygiven yname yparent ychildren ycount yrow yvalue yattributes yends ylack yshortest youtKind youtWith ywork yworkWith yweight yfollow yfirsts ylasts ybare ymet ynameAt ytokenAt ytodo : Nat → Int32}
theorem sy_wR {post : SY → Prop} {b a n lo s B : Nat} {w lk : Nat → Nat} {L : List Nat → Prop} (hb : b + 1 < 16) (ha : a ≤ n) (hn : n ≤ 24) (hlo : lo ≤ 1) (hs : yshortest (b + 1) = nI s) (hs1 : s ≤ 30) (hl : ∀ m, m ≤ n → ylack (32 * (b + 1) + m) = nI (lk m) ∧ lk m ≤ 100000) (hE : ∀ m, m ≤ n → ∀ k, bt (yends (32 * (b + 1) + m)) k = true ↔ k ≤ n ∧ dp_E L w m k)
    (h : ∀ (S A : Int32) (f : Nat), bt A a = true → (∀ m, bt A m = true → m ≤ n ∧ ∃ i, dp_ch L w i a m) → (∀ m k, bt A m = true → k ≤ n → dp_E L w m k → bt A k = true) → (∀ m, bt S m = true → m ≤ n ∧ ∃ i, lo ≤ i ∧ dp_ch L w i a m) → (∀ m, bt A m = true → (lo = 0 ∨ m ≠ a ∨ dp_E L w a a) → bt S m = true) → (f = 100000 ∨ (f = 0 ∧ bt S n = true) ∨ ∃ m, bt A m = true ∧ f = lk m) → (bt S n = true → f = 0) → (∀ m, bt A m = true → f ≤ lk m) → f ≤ 100000 → wY_words_224 post (nI b) (nI a) S (nI f) yplace yroot yrowLength yfirst youts ytop ykind ywith ysize ysort ymany yuse ytypeOf yleast ygreatest ylisted ytypeOfName yused yvalued ygiven yname yparent ychildren ycount yrow yvalue yattributes yends ylack yshortest youtKind youtWith ywork yworkWith yweight yfollow yfirsts ylasts ybare ymet ynameAt ytokenAt ytodo) :
    ∀ (c j f : Nat) (S N A : Int32), j + c = 28 → (∀ m, bt N m = true → m ≤ n ∧ dp_ch L w j a m ∧ a + j ≤ m + lo) → (∀ m, bt A m = true → m ≤ n ∧ ∃ i, dp_ch L w i a m) → (∀ m k, bt A m = true → k ≤ n → dp_E L w m k → bt A k = true ∨ bt N k = true) → (j = 0 → (∀ m, bt A m = false) ∧ ∀ m, bt N m = true ↔ m = a) → (0 < j → bt A a = true) → (∀ m, bt S m = true → bt A m = true ∧ ∃ i, lo ≤ i ∧ dp_ch L w i a m) → (∀ m, bt A m = true → (lo = 0 ∨ m ≠ a) → bt S m = true) → (0 < j → dp_E L w a a → bt S a = true ∨ bt N a = true ∨ lo = 0) → (f = 100000 ∨ (f = 0 ∧ bt S n = true) ∨ ∃ m, bt A m = true ∧ f = lk m) → (bt S n = true → f = 0) → (∀ m, bt A m = true → f ≤ lk m) → f ≤ 100000 → wY_words_23 post (nI b) (nI a) (nI n) (nI lo) (nI 100) (nI (b + 1)) yplace yroot yrowLength yfirst youts ytop ykind ywith ysize ysort ymany yuse ytypeOf yleast ygreatest ylisted ytypeOfName yused yvalued ygiven yname yparent ychildren ycount yrow yvalue yattributes yends ylack yshortest youtKind youtWith ywork yworkWith yweight yfollow yfirsts ylasts ybare ymet ynameAt ytokenAt ytodo (c + 1) S (nI f) N A (nI j) := by
  have fin : ∀ (c j f : Nat) (S N A : Int32), j < 60 → N = 0 → (∀ m, bt A m = true → m ≤ n ∧ ∃ i, dp_ch L w i a m) → (∀ m k, bt A m = true → k ≤ n → dp_E L w m k → bt A k = true ∨ bt N k = true) → (j = 0 → (∀ m, bt A m = false) ∧ ∀ m, bt N m = true ↔ m = a) → (0 < j → bt A a = true) → (∀ m, bt S m = true → bt A m = true ∧ ∃ i, lo ≤ i ∧ dp_ch L w i a m) → (∀ m, bt A m = true → (lo = 0 ∨ m ≠ a) → bt S m = true) → (0 < j → dp_E L w a a → bt S a = true ∨ bt N a = true ∨ lo = 0) → (f = 100000 ∨ (f = 0 ∧ bt S n = true) ∨ ∃ m, bt A m = true ∧ f = lk m) → (bt S n = true → f = 0) → (∀ m, bt A m = true → f ≤ lk m) → f ≤ 100000 → wY_words_23 post (nI b) (nI a) (nI n) (nI lo) (nI 100) (nI (b + 1)) yplace yroot yrowLength yfirst youts ytop ykind ywith ysize ysort ymany yuse ytypeOf yleast ygreatest ylisted ytypeOfName yused yvalued ygiven yname yparent ychildren ycount yrow yvalue yattributes yends ylack yshortest youtKind youtWith ywork yworkWith yweight yfollow yfirsts ylasts ybare ymet ynameAt ytokenAt ytodo (c + 1) S (nI f) N A (nI j) := by
    intro c j f S N A hj N0 iA1 iA2 iA3 iA4 iS1 iS2 iS3 f1 f2 f3 f4
    have nN : ∀ m, bt N m = true → False := fun m q => by rw [N0, b_0] at q; cases q
    have j0 : 0 < j := by
      rcases Nat.eq_zero_or_pos j with q | q
      · exact (nN a (((iA3 q).2 a).mpr rfl)).elim
      · exact q
    refine br_f (nI_nlt (a := 100) (by omega) (by omega)) (br_f (nI_ge (b := 60) (by omega) (by omega)) (br_t N0 (h S A f (iA4 j0) iA1 (fun m k h1 h2 h3 => (iA2 m k h1 h2 h3).elim id (fun q => (nN k q).elim)) (fun m q => ⟨(iA1 m (iS1 m q).1).1, (iS1 m q).2⟩) (fun m q1 q2 => ?_) f1 f2 f3 f4)))
    rcases q2 with q2 | q2 | q2
    · exact iS2 m q1 (Or.inl q2)
    · exact iS2 m q1 (Or.inr q2)
    · by_cases q3 : m = a
      · rcases iS3 j0 q2 with q | q | q
        · rw [q3]; exact q
        · exact (nN a q).elim
        · exact iS2 m q1 (Or.inl q)
      · exact iS2 m q1 (Or.inr q3)
  intro c
  induction c with
  | zero =>
    intro j f S N A hj iN1 iA1 iA2 iA3 iA4 iS1 iS2 iS3 f1 f2 f3 f4
    have N0 : N = 0 := by
      apply Classical.byContradiction
      intro q
      obtain ⟨m, hm⟩ := bb_ne.mp q
      obtain ⟨q1, _, q2⟩ := iN1 m hm
      omega
    exact fin 0 j f S N A (by omega) N0 iA1 iA2 iA3 iA4 iS1 iS2 iS3 f1 f2 f3 f4
  | succ c ih =>
    intro j f S N A hj iN1 iA1 iA2 iA3 iA4 iS1 iS2 iS3 f1 f2 f3 f4
    by_cases N0 : N = 0
    · exact fin (c + 1) j f S N A (by omega) N0 iA1 iA2 iA3 iA4 iS1 iS2 iS3 f1 f2 f3 f4
    · refine br_f (nI_nlt (a := 100) (by omega) (by omega)) (br_f (nI_ge (b := 60) (by omega) (by omega)) (br_f N0 ?_))
      have e0 : (lo - 1 - j) * s = 0 := by rw [show lo - 1 - j = 0 by omega, Nat.zero_mul]
      -- what holds of all' = all | now
      have jA : ∀ m, bt (A ||| N) m = true → m ≤ n ∧ ∃ i, dp_ch L w i a m := by
        intro m q
        rcases bb_orI.mp q with q | q
        · exact iA1 m q
        · obtain ⟨q1, q2, _⟩ := iN1 m q
          exact ⟨q1, j, q2⟩
      have jAa : bt (A ||| N) a = true := by
        rcases Nat.eq_zero_or_pos j with q | q
        · exact bb_orI.mpr (Or.inr (((iA3 q).2 a).mpr rfl))
        · exact bb_orI.mpr (Or.inl (iA4 q))
      -- one round
      have go : ∀ S' : Int32, (lo ≤ j → S' = S ||| N) → (j < lo → S' = S) → wY_words_56 post (wY_words_23 post (nI b) (nI a) (nI n) (nI lo) (nI 100) (nI (b + 1)) yplace yroot yrowLength yfirst youts ytop ykind ywith ysize ysort ymany yuse ytypeOf yleast ygreatest ylisted ytypeOfName yused yvalued ygiven yname yparent ychildren ycount yrow yvalue yattributes yends ylack yshortest youtKind youtWith ywork yworkWith yweight yfollow yfirsts ylasts ybare ymet ynameAt ytokenAt ytodo (c + 1)) (nI b) (nI a) (nI n) (nI lo) (nI 100) (nI (b + 1)) S' (nI f) N A (nI j) yplace yroot yrowLength yfirst youts ytop ykind ywith ysize ysort ymany yuse ytypeOf yleast ygreatest ylisted ytypeOfName yused yvalued ygiven yname yparent ychildren ycount yrow yvalue yattributes yends ylack yshortest youtKind youtWith ywork yworkWith yweight yfollow yfirsts ylasts ybare ymet ynameAt ytokenAt ytodo := by
        intro S' hge hlt
        have SS : ∀ m, bt S m = true → bt S' m = true := by
          intro m q
          rcases Nat.lt_or_ge j lo with q2 | q2
          · rw [hlt q2]; exact q
          · rw [hge q2]; exact bb_orI.mpr (Or.inl q)
        have jS1 : ∀ m, bt S' m = true → bt (A ||| N) m = true ∧ ∃ i, lo ≤ i ∧ dp_ch L w i a m := by
          intro m q
          rcases Nat.lt_or_ge j lo with q2 | q2
          · rw [hlt q2] at q
            obtain ⟨r1, r2⟩ := iS1 m q
            exact ⟨bb_orI.mpr (Or.inl r1), r2⟩
          · rw [hge q2] at q
            rcases bb_orI.mp q with q | q
            · obtain ⟨r1, r2⟩ := iS1 m q
              exact ⟨bb_orI.mpr (Or.inl r1), r2⟩
            · exact ⟨bb_orI.mpr (Or.inr q), j, q2, (iN1 m q).2.1⟩
        have jS2 : ∀ m, bt (A ||| N) m = true → (lo = 0 ∨ m ≠ a) → bt S' m = true := by
          intro m q1 q2
          rcases bb_orI.mp q1 with q | q
          · exact SS m (iS2 m q q2)
          · rcases Nat.lt_or_ge j lo with q3 | q3
            · have q4 := ((iA3 (by omega)).2 m).mp q
              rcases q2 with q2 | q2
              · omega
              · exact absurd q4 q2
            · rw [hge q3]; exact bb_orI.mpr (Or.inr q)
        refine sy_w56 hn (by omega) (by omega) (fun f0 hf0 => ?_)
        have f0le : f0 ≤ 100000 := by rcases hf0 with q | q <;> omega
        refine ⟨n + 1 - a + 1, sy_w81 (f0 := f0) hb hn (by omega) (by omega) (by omega) hs hs1 hl f0le (fun f' X hX k1 k2 k3 => ?_) (n + 1 - a) a f0 0 (by omega) (Nat.le_refl _) (fun k => by rw [b_0]; exact ⟨fun q => absurd q Bool.false_ne_true, fun ⟨m, m1, m2, _⟩ => by omega⟩) (Nat.le_refl _) (fun m m1 m2 => by omega) (Or.inl rfl)⟩
        rw [e0] at k2 k3
        have hX1 : ∀ k, bt X k = true → ∃ m, bt N m = true ∧ m ≤ n ∧ k ≤ n ∧ dp_E L w m k := by
          intro k q
          obtain ⟨m, m1, m2, m3, m4⟩ := (hX k).mp q
          obtain ⟨e1, e2⟩ := (hE m m2 k).mp m4
          exact ⟨m, m3, m2, e1, e2⟩
        have hX2 : ∀ m k, bt N m = true → k ≤ n → dp_E L w m k → bt X k = true := by
          intro m k q1 q2 q3
          obtain ⟨r1, r2, _⟩ := iN1 m q1
          exact (hX k).mpr ⟨m, dp_ch_le j a m r2, r1, q1, (hE m r1 k).mpr ⟨q2, q3⟩⟩
        have g1 : f' = 100000 ∨ (f' = 0 ∧ bt S' n = true) ∨ ∃ m, bt (A ||| N) m = true ∧ f' = lk m := by
          rcases k3 with q | ⟨m, m1, m2, m3, m4⟩
          · rw [q]
            rcases hf0 with ⟨q, _⟩ | ⟨q, q2, q3⟩
            · rw [q]
              rcases f1 with q | ⟨q, q2⟩ | ⟨m, q, q2⟩
              · exact Or.inl q
              · exact Or.inr (Or.inl ⟨q, SS n q2⟩)
              · exact Or.inr (Or.inr ⟨m, bb_orI.mpr (Or.inl q), q2⟩)
            · exact Or.inr (Or.inl ⟨q, by rw [hge q2]; exact bb_orI.mpr (Or.inr q3)⟩)
          · exact Or.inr (Or.inr ⟨m, bb_orI.mpr (Or.inr m3), by omega⟩)
        have g2 : bt S' n = true → f' = 0 := by
          intro q
          have : f0 = 0 := by
            rcases hf0 with ⟨q1, q2⟩ | ⟨q1, _⟩
            · rcases Nat.lt_or_ge j lo with q3 | q3
              · rw [hlt q3] at q
                rw [q1]; exact f2 q
              · rw [hge q3] at q
                rcases bb_orI.mp q with q | q
                · rw [q1]; exact f2 q
                · rw [q2 q3] at q; cases q
            · exact q1
          omega
        have g3 : ∀ m, bt (A ||| N) m = true → f' ≤ lk m := by
          intro m q
          rcases bb_orI.mp q with q | q
          · have := f3 m q
            rcases hf0 with r | r <;> omega
          · obtain ⟨r1, r2, _⟩ := iN1 m q
            have := k2 m (dp_ch_le j a m r2) r1 q
            omega
        refine nm_e (br_f (by decide) ?_)
        rcases Nat.lt_or_ge j lo with q | q
        · -- j = 0, PLUS
          refine br_t (nI_lt q (by omega)) (nm_r (nI_1 j) (ih (j + 1) f' S' X (A ||| N) (by omega) (fun m hm => ?_) jA (fun m k h1 h2 h3 => ?_) (fun q => by omega) (fun _ => jAa) jS1 jS2 (fun _ hEa => Or.inr (Or.inl ?_)) g1 g2 g3 (by omega)))
          · obtain ⟨m', r1, r2, r3, r4⟩ := hX1 m hm
            have r5 := (iN1 m' r1).2.1
            have r6 := dp_ch_le j a m' r5
            have r7 := r4.1
            exact ⟨r3, ⟨m', r5, r4⟩, by omega⟩
          · rcases bb_orI.mp h1 with r | r
            · rw [(iA3 (by omega)).1 m] at r; cases r
            · exact Or.inr (hX2 m k r h2 h3)
          · exact hX2 a a (((iA3 (by omega)).2 a).mpr rfl) ha hEa
        · refine br_f (nI_nlt q (by omega)) (nm_e (nm_r (nI_1 j) (ih (j + 1) f' S' _ (A ||| N) (by omega) (fun m hm => ?_) jA (fun m k h1 h2 h3 => ?_) (fun q => by omega) (fun _ => jAa) jS1 jS2 (fun _ hEa => ?_) g1 g2 g3 (by omega))))
          · obtain ⟨hm1, hm2⟩ := bb_notI.mp hm
            obtain ⟨m', r1, r2, r3, r4⟩ := hX1 m hm1
            obtain ⟨_, r5, r6⟩ := iN1 m' r1
            have r7 := r4.1
            have r8 : m ≠ m' := by
              intro q2
              rw [q2, bb_orI.mpr (Or.inr r1)] at hm2
              cases hm2
            exact ⟨r3, ⟨m', r5, r4⟩, by omega⟩
          · have key : bt X k = true → bt (A ||| N) k = true ∨ bt (X &&& ((A ||| N) ^^^ (-1))) k = true := by
              intro r
              cases hv : bt (A ||| N) k with
              | true => exact Or.inl rfl
              | false => exact Or.inr (bb_notI.mpr ⟨r, hv⟩)
            rcases bb_orI.mp h1 with r | r
            · rcases iA2 m k r h2 h3 with r2 | r2
              · exact Or.inl (bb_orI.mpr (Or.inl r2))
              · exact Or.inl (bb_orI.mpr (Or.inr r2))
            · exact key (hX2 m k r h2 h3)
          · rcases Nat.eq_zero_or_pos j with q2 | q2
            · exact Or.inr (Or.inr (by omega))
            · rcases iS3 q2 hEa with r | r | r
              · exact Or.inl (SS a r)
              · exact Or.inl (by rw [hge q]; exact bb_orI.mpr (Or.inr r))
              · exact Or.inr (Or.inr r)
      exact pk_lt j lo (fun hlt => go S (fun q => by omega) (fun _ => rfl)) (fun hge => nm_e (go _ (fun _ => rfl) (fun q => by omega)))
end
