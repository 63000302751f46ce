/-! ===== still owed ===== -/
theorem i_vc_model {k : Nat} {u : SX} {v : SY} (I : i_Rel k u v) (hk : k + 5 ≤ 2560) (v1 : Int32) : wpX_model (fun r u' => wpY_model (fun r' v' => r' = r ∧ i_Rel (k + 5) u' v') v v1) u v1 := by sorry
