/-! the asking calls -/
theorem i_vc_code {k : Nat} {u : SX} {v : SY} (I : i_Rel k u v) (hk : k + 5 ≤ 2560) (v1 : Int32) : wpX_code (fun r => wpY_code (fun r' v' => r' = r ∧ i_Rel (k + 5) u v') v v1) u v1 := by
  obtain ⟨ac, ar⟩ := u
  obtain ⟨cl, ed, rn, cd, kn⟩ := v
  replace I : gc_I ac ar cl ed cd kn := I
  unfold wpX_code
  dsimp only
  rcases gc_cs v1 (N := 2) (by decide) with ho | ⟨g, hg, rfl⟩
  · refine gc_xgA ho ?_
    unfold wpY_code
    dsimp only
    exact gc_ygA ho ⟨rfl, I⟩
  refine gc_xgB hg ⟨vp_in_nI hg (by omega), ?_⟩
  obtain ⟨hH, hC, hE, hK⟩ := I.2 g hg
  refine gc_yco hg hH hC hE fun rn' => ⟨?_, I⟩
  rw [nI_clamp (by omega)]
theorem i_vc_canonical {k : Nat} {u : SX} {v : SY} (I : i_Rel k u v) (hk : k + 5 ≤ 2560) (v1 : Int32) : wpX_canonical (fun r => wpY_canonical (fun r' v' => r' = r ∧ i_Rel (k + 5) u v') v v1) u v1 := by
  obtain ⟨ac, ar⟩ := u
  obtain ⟨cl, ed, rn, cd, kn⟩ := v
  replace I : gc_I ac ar cl ed cd kn := I
  unfold wpX_canonical
  dsimp only
  rcases gc_cs v1 (N := 2) (by decide) with ho | ⟨g, hg, rfl⟩
  · refine gc_xgA ho ?_
    unfold wpY_canonical
    dsimp only
    exact gc_ygA ho ⟨rfl, I⟩
  refine gc_xgB hg ⟨vp_in_nI hg (by omega), ?_⟩
  obtain ⟨hH, hC, hE, hK⟩ := I.2 g hg
  rw [nI_clamp (by omega)]
  refine gc_xsm I.1 ?_
  unfold wpY_canonical
  dsimp only
  refine gc_ygB hg ?_
  refine gc_ywW hg hC hE hK fun rn' cd' kn' hA hW => ?_
  have e7 : nI g * 720 = nI (g * 720) := pk_mul g 720
  refine ⟨by rw [e7]; exact vp_in_nI (by omega) (by omega), nm_r (e' := ac g) ?_ ?_⟩
  · rw [e7, nI_clamp (by omega)]
    exact (hA 0 (by omega)).trans (gc_aa_0 hH)
  · exact gc_ycn hg hH hA ⟨rfl, gc_I_W I hW⟩
theorem i_vc_symmetries {k : Nat} {u : SX} {v : SY} (I : i_Rel k u v) (hk : k + 5 ≤ 2560) (v1 : Int32) : wpX_symmetries (fun r => wpY_symmetries (fun r' v' => r' = r ∧ i_Rel (k + 5) u v') v v1) u v1 := by
  obtain ⟨ac, ar⟩ := u
  obtain ⟨cl, ed, rn, cd, kn⟩ := v
  replace I : gc_I ac ar cl ed cd kn := I
  unfold wpX_symmetries
  dsimp only
  rcases gc_cs v1 (N := 2) (by decide) with ho | ⟨g, hg, rfl⟩
  · refine gc_xgA ho ?_
    unfold wpY_symmetries
    dsimp only
    exact gc_ygA ho ⟨rfl, I⟩
  refine gc_xgB hg ⟨vp_in_nI hg (by omega), ?_⟩
  obtain ⟨hH, hC, hE, hK⟩ := I.2 g hg
  rw [nI_clamp (by omega)]
  refine gc_xsy I.1 ?_
  unfold wpY_symmetries
  dsimp only
  refine gc_ygB hg ?_
  refine gc_ywW hg hC hE hK fun rn' cd' kn' hA hW => ?_
  refine gc_yco hg hH hC hE fun rn2 => ?_
  exact gc_ysy hg hA ⟨rfl, gc_I_W I hW⟩
theorem i_vc_orbit {k : Nat} {u : SX} {v : SY} (I : i_Rel k u v) (hk : k + 5 ≤ 2560) (v1 : Int32) (v2 : Int32) : wpX_orbit (fun r => wpY_orbit (fun r' v' => r' = r ∧ i_Rel (k + 5) u v') v v1 v2) u v1 v2 := by
  obtain ⟨ac, ar⟩ := u
  obtain ⟨cl, ed, rn, cd, kn⟩ := v
  replace I : gc_I ac ar cl ed cd kn := I
  unfold wpX_orbit
  dsimp only
  rcases gc_cs v1 (N := 2) (by decide) with ho | ⟨g, hg, rfl⟩
  · refine gc_xgA ho ?_
    unfold wpY_orbit
    dsimp only
    exact gc_ygA ho ⟨rfl, I⟩
  refine gc_xgB hg ?_
  rcases gc_cs v2 (N := 6) (by decide) with ho | ⟨a, ha, rfl⟩
  · refine gc_xvA ho ?_
    unfold wpY_orbit
    dsimp only
    refine gc_ygB hg ?_
    exact gc_yvA ho ⟨rfl, I⟩
  refine gc_xvB ha ⟨vp_in_nI hg (by omega), ?_⟩
  obtain ⟨hH, hC, hE, hK⟩ := I.2 g hg
  rw [nI_clamp (by omega)]
  refine gc_xom ha I.1 ?_
  exact gc_yorb hg ha hH hC hE hK fun rn' cd' kn' hW => ⟨rfl, gc_I_W I hW⟩
theorem i_vc_orbits {k : Nat} {u : SX} {v : SY} (I : i_Rel k u v) (hk : k + 5 ≤ 2560) (v1 : Int32) : wpX_orbits (fun r => wpY_orbits (fun r' v' => r' = r ∧ i_Rel (k + 5) u v') v v1) u v1 := by
  obtain ⟨ac, ar⟩ := u
  obtain ⟨cl, ed, rn, cd, kn⟩ := v
  replace I : gc_I ac ar cl ed cd kn := I
  unfold wpX_orbits
  dsimp only
  rcases gc_cs v1 (N := 2) (by decide) with ho | ⟨g, hg, rfl⟩
  · refine gc_xgA ho ?_
    unfold wpY_orbits
    dsimp only
    exact gc_ygA ho ⟨rfl, I⟩
  refine gc_xgB hg ⟨vp_in_nI hg (by omega), ?_⟩
  obtain ⟨hH, hC, hE, hK⟩ := I.2 g hg
  rw [nI_clamp (by omega)]
  refine gc_xon I.1 ?_
  unfold wpY_orbits
  dsimp only
  refine gc_ygB hg ?_
  exact gc_yon hg hH hC hE hK fun rn' cd' kn' hW => ⟨rfl, gc_I_W I hW⟩
theorem i_vc_variants {k : Nat} {u : SX} {v : SY} (I : i_Rel k u v) (hk : k + 5 ≤ 2560) (v1 : Int32) : wpX_variants (fun r => wpY_variants (fun r' v' => r' = r ∧ i_Rel (k + 5) u v') v v1) u v1 := by
  obtain ⟨ac, ar⟩ := u
  obtain ⟨cl, ed, rn, cd, kn⟩ := v
  replace I : gc_I ac ar cl ed cd kn := I
  unfold wpX_variants
  dsimp only
  rcases gc_cs v1 (N := 2) (by decide) with ho | ⟨g, hg, rfl⟩
  · refine gc_xgA ho ?_
    unfold wpY_variants
    dsimp only
    exact gc_ygA ho ⟨rfl, I⟩
  refine gc_xgB hg ⟨vp_in_nI hg (by omega), ?_⟩
  obtain ⟨hH, hC, hE, hK⟩ := I.2 g hg
  rw [nI_clamp (by omega)]
  refine gc_xvc hH I.1 ?_
  unfold wpY_variants
  dsimp only
  refine gc_ygB hg ?_
  refine gc_ywW hg hC hE hK fun rn' cd' kn' hA hW => ?_
  exact gc_yva hg hA ⟨by rw [gc_variants hH], gc_I_W I hW⟩
