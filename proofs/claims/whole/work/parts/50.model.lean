/-! ===== model ===== -/
theorem rl_T_clr {so mn us ty tn : Nat → Int32} {t : Nat} (h : rl_T so mn us ty tn) : rl_T so mn (ha_clr us t 4) ty tn := by
  refine ⟨h.1, h.2.1, fun j hj => ⟨?_, (h.2.2.1 j hj).2⟩, h.2.2.2⟩
  unfold ha_clr
  by_cases q : 4 * t ≤ j ∧ j < 4 * t + 4
  · rw [if_pos q]; exact ⟨0, by omega, rfl⟩
  · rw [if_neg q]; exact (h.2.2.1 j hj).1
theorem rl_D_0 {dk dv yk yw ys : Nat → Int32} (h : ys 6 = nI 0) : rl_D 0 dk dv yk yw ys := ⟨by omega, h, fun _ => 0, fun _ => 0, fun i hi => by omega, fun i hi => by omega⟩
theorem ex_parse0 {kd vl : Nat → Nat} {d : Nat} (hV : ex_V kd vl d) (h : ex_sc kd d 0 1) : ∃ R, ex_S kd vl R 0 ∧ ex_W R ∧ ex_n R = d := by
  obtain ⟨R, h1, h2, h3, h4⟩ := ex_parse (kd := kd) (vl := vl) d 0 0 (by rw [Nat.zero_add]; exact hV) h
  refine ⟨R, h1, h2, ?_⟩
  cases e : d - ex_n R with
  | zero => omega
  | succ m => rw [e] at h4; exact absurd rfl h4.1
theorem xb_OK {d W : Nat} {R : ex_T} {kd vl : Nat → Nat} {ta fo be ac fo0 be0 ac0 : Nat → Int32} (hd : d ≤ 16) (hW : W ≤ 30) (hv : ∀ i, i < d → kd i = 0 → vl i < 6) (D : xb_D d W (ex_L id R) kd vl ta fo be ac fo0 be0 ac0) : xa_OK (fun s => fo (186 + s)) (fun c => be (36 + c)) (ac 6) (ex_L vl R) := by
  obtain ⟨A, em, gF, gz, ga, ge, gb, f1, f2, f3, gt⟩ := D
  have e : (fun w => ∃ u, ex_L id R u ∧ u.map vl = w) = ex_L vl R := funext (fun w => propext (ex_L_map vl R w).symm)
  rw [← e]
  refine xa_of (g := vl) gF hW (fun p hp => ?_) (fun p q hp => Iff.rfl) (fun p q h1 h2 => ?_) (fun q => Iff.rfl) ga ge (fun n q hn => gb n hn q)
  · obtain ⟨i, i1, i2, i3⟩ := gt p hp
    show vl ((ta p).toNatClampNeg) < 6
    rw [i1, nb_cl (by omega)]
    exact hv i i2 i3
  · show bt (fo (186 + p)) q = false
    rw [gz p h1 h2, b_0]
theorem i_vc_model {k : Nat} {u : SX} {v : SY} (I : i_Rel k u v) (hk : k + 5 ≤ 2560) (v1 : Int32) : wpX_model (fun r u' => wpY_model (fun r' v' => r' = r ∧ i_Rel (k + 5) u' v') v v1) u v1 := by
  refine i_el I (P := fun u v => wpX_model (fun r u' => wpY_model (fun r' v' => r' = r ∧ i_Rel (k + 5) u' v') v v1) u v1) ?_
  intro d latestPlace positions fragments elementCount draftKind draftValue weights tokenAt fragmentBegin fragmentFirst fragmentLast fragmentEmpty reachedWith follow bearing accepting kindOfType leastOf greatestOf listedCount listedValue attributeUse attributeType typeOfName inUse nameOf parentOf kidCount kids hasValue valueOf hasAttribute attributeValue walked waiting yroot yrowLength yfirst youts ytop ykind ywith ysize yparent yrow yends ylack yshortest youtKind youtWith ywork yworkWith yweight yfollow yfirsts ylasts ybare ymet ynameAt ytokenAt ytodo hD hT hM hE
  unfold wpX_model
  rcases nb_ix v1 6 (by omega) with hv | ⟨t, ht, rfl⟩
  · refine sx_type0 hv ?_
    refine br_t rfl ?_
    try unfold wpY_model
    refine sy_out1 (n := 6) (by omega) hv ?_
    refine br_f nb_10 ?_
    exact ⟨rfl, i_mk hD hT hM hE⟩
  · refine sx_type1 ht ?_
    refine br_f nb_10 ?_
    have hD' := hD
    obtain ⟨hd, hs, kd, vl, hK, hdk⟩ := hD'
    have hdr : dr_K d draftKind draftValue kd vl := fun i hi => by
      obtain ⟨a1, a2, a3, a4, a5⟩ := hK i hi
      exact ⟨(hdk i hi).1, a2, a3, a4, (hdk i hi).2⟩
    have hV : ex_V kd vl d := fun b hb => ⟨(hK b hb).2.1, (hK b hb).2.2.2.1⟩
    have z6 : ∀ f : Nat → Int32, upd f 6 0 6 = nI 0 := fun f => pk_us
    have M6 : ∀ fo be ac : Nat → Int32, (∀ j, j < 186 → fo j = follow j) → (∀ j, j < 36 → be j = bearing j) → (∀ j, j < 6 → ac j = accepting j) → rl_M kindOfType fo be ac ykind ywith (upd ysize 6 0) := fun fo be ac h1 h2 h3 => rl_M_cg hM (fun _ _ q => q) h1 h2 h3 (fun _ _ => rfl) (fun _ _ => rfl) (fun t ht => pk_un (by omega))
    by_cases hsc : ex_sc kd d 0 1
    · obtain ⟨R, hS, hW, hn⟩ := ex_parse0 hV hsc
      subst hn
      by_cases hw : ex_w R ≤ 30
      · refine sx_judge0 (kd := kd) (vl := vl) hd hdr hsc hS hW hw (fun x fr wt ta fb ff fl fe rw fo be ac hx D => ?_)
        have D' := D
        obtain ⟨A, em, gF, gz, ga, ge, gb, f1, f2, f3, gt⟩ := D'
        refine ⟨fun ex => br_t rfl ?_, fun nx => br_f (by decide) ?_⟩
        · refine sx_adopt ht ?_
          refine sy_model0 (kd := kd) (vl := vl) ht hd hs hK hsc hS hW hw (fun y os tp ok ow wo ww yt yfo fi la ba mt nm yta td hy => ⟨fun ey kn wi c => ?_, fun ny => absurd ((cf_uniq hy hx).trans ex) ny⟩)
          refine ⟨rfl, i_mk (d := 0) (rl_D_0 (by rw [pk_un (by omega), pk_us]; rfl)) (rl_T_clr (rl_T_so (s := 2) hT (by omega))) ?_ hE⟩
          intro t' ht' hs'
          by_cases e : t' = t
          · subst e
            refine ⟨kd, vl, R, hd, pk_us, fun i hi => ?_, hS, hW, hw, ?_⟩
            · obtain ⟨a1, a2, a3, a4, a5⟩ := hK i hi
              exact ⟨(c.2 i hi).1, a2, a3, a4, (c.2 i hi).2⟩
            · exact xa_OK_cg (xb_OK hd hw (fun i hi => (hK i hi).2.2.1) D) (fun s hs => cy_in hs) (fun n hn => cy_in hn) pk_us
          · rw [pk_un e] at hs'
            obtain ⟨kd', vl', R', a1, a2, a3, a4, a5, a6, a7⟩ := hM t' ht' hs'
            refine ⟨kd', vl', R', a1, ?_, rl_K_cg a3 (fun i hi => (c.1 _ (by omega)).1) (fun i hi => (c.1 _ (by omega)).2), a4, a5, a6, xa_OK_cg a7 (fun s hs => ?_) (fun n hn => ?_) ?_⟩
            · rw [pk_un e, pk_un (by omega)]; exact a2
            · show cy_f fo 186 (31 * t) 31 (31 * t' + s) = follow (31 * t' + s)
              rw [cy_out (by omega)]
              exact f1 _ (by omega)
            · show cy_f be 36 (6 * t) 6 (6 * t' + n) = bearing (6 * t' + n)
              rw [cy_out (by omega)]
              exact f2 _ (by omega)
            · rw [pk_un e]; exact f3 t' ht'
        · refine sy_model0 (kd := kd) (vl := vl) ht hd hs hK hsc hS hW hw (fun y os tp ok ow wo ww yt yfo fi la ba mt nm yta td hy => ⟨fun ey => absurd ((cf_uniq hx hy).trans ey) nx, fun ny => ?_⟩)
          rw [cf_uniq hy hx]
          exact ⟨rfl, i_mk (d := 0) (rl_D_0 (z6 _)) hT (M6 fo be ac f1 f2 f3) hE⟩
      · refine sx_judge6 (kd := kd) (vl := vl) hd hdr hsc hS hW (by omega) (fun wt => br_f (by decide) ?_)
        refine sy_model6 (kd := kd) (vl := vl) ht hd hs hK hsc hS hW (by omega) (fun yt => ?_)
        exact ⟨rfl, i_mk (d := 0) (rl_D_0 (z6 _)) hT (M6 _ _ _ (fun _ _ => rfl) (fun _ _ => rfl) (fun _ _ => rfl)) hE⟩
    · refine sx_judge5 (kd := kd) (vl := vl) hd hdr hsc (br_f (by decide) ?_)
      refine sy_model5 (kd := kd) (vl := vl) ht hd hs hK hsc ?_
      exact ⟨rfl, i_mk (d := 0) (rl_D_0 (z6 _)) hT (M6 _ _ _ (fun _ _ => rfl) (fun _ _ => rfl) (fun _ _ => rfl)) hE⟩
