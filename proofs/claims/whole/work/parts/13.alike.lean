/-! alike, alikeWithoutColours -/
theorem gc_nr0 : narrow .boolean (.int 0) = .int 0 := by rfl
theorem gc_nr1 : narrow .boolean (.int 1) = .int 1 := by rfl
theorem i_vc_alike {k : Nat} {u : SX} {v : SY} (I : i_Rel k u v) (hk : k + 5 ≤ 2560) : wpX_alike (fun r => wpY_alike (fun r' v' => r' = r ∧ i_Rel (k + 5) u v') v) u := by
  obtain ⟨ac, ar⟩ := u
  obtain ⟨cl, ed, rn, cd, kn⟩ := v
  replace I : gc_I ac ar cl ed cd kn := I
  obtain ⟨hH, hC, hE, hK⟩ := I.2 0 (by omega)
  obtain ⟨hH1, hC1, hE1, hK1⟩ := I.2 1 (by omega)
  unfold wpX_alike
  dsimp only
  refine gc_xsm I.1 ?_
  refine gc_xsm I.1 ?_
  have hal : (∃ p, p < 720 ∧ gc_aa p (ac 0) &&& 134217727 = ac 1 &&& 134217727) ↔ gc_mn (ac 0) 720 = gc_mn (ac 1) 720 := by
    rw [gc_alike hH hH1, gc_H_mask hH1]
    constructor
    · rintro ⟨p, hp, e⟩; rw [gc_H_mask (gc_aa_H hp _)] at e; exact ⟨p, hp, e⟩
    · rintro ⟨p, hp, e⟩; exact ⟨p, hp, by rw [gc_H_mask (gc_aa_H hp _)]; exact e⟩
  unfold wpY_alike wpY_comes
  dsimp only
  refine br_c (fun c => ?_) (fun c => ?_)
  · refine gc_ywW (g := 0) (by omega) hC hE hK fun rn' cd' kn' hA hW => ?_
    refine gc_yco (g := 1) (by omega) hH1 hC1 hE1 fun rn2 => ?_
    refine nm_e ?_
    exact gc_ycm hA (fun _ => ⟨gc_nr1, rfl, gc_I_W I hW⟩) (fun z => absurd (hal.mpr c) z)
  · refine gc_ywW (g := 0) (by omega) hC hE hK fun rn' cd' kn' hA hW => ?_
    refine gc_yco (g := 1) (by omega) hH1 hC1 hE1 fun rn2 => ?_
    refine nm_e ?_
    exact gc_ycm hA (fun z => absurd (hal.mp z) c) (fun _ => ⟨gc_nr0, rfl, gc_I_W I hW⟩)
theorem i_vc_alikeWithoutColours {k : Nat} {u : SX} {v : SY} (I : i_Rel k u v) (hk : k + 5 ≤ 2560) : wpX_alikeWithoutColours (fun r => wpY_alikeWithoutColours (fun r' v' => r' = r ∧ i_Rel (k + 5) u v') v) u := by
  obtain ⟨ac, ar⟩ := u
  obtain ⟨cl, ed, rn, cd, kn⟩ := v
  replace I : gc_I ac ar cl ed cd kn := I
  obtain ⟨hH, hC, hE, hK⟩ := I.2 0 (by omega)
  obtain ⟨hH1, hC1, hE1, hK1⟩ := I.2 1 (by omega)
  unfold wpX_alikeWithoutColours
  dsimp only
  refine gc_xsm I.1 ?_
  refine gc_xsm I.1 ?_
  have hal : (∃ p, p < 720 ∧ gc_aa p (ac 0) &&& 32767 = ac 1 &&& 32767) ↔ gc_mn (ac 0 &&& 32767) 720 = gc_mn (ac 1 &&& 32767) 720 := by
    rw [gc_alike (gc_H_and _ hH) (gc_H_and _ hH1)]
    constructor
    · rintro ⟨p, hp, e⟩; exact ⟨p, hp, by unfold gc_aa at e ⊢; rw [gc_act_mask (gc_pm_P hp)]; exact e⟩
    · rintro ⟨p, hp, e⟩; exact ⟨p, hp, by unfold gc_aa at e ⊢; rw [gc_act_mask (gc_pm_P hp)] at e; exact e⟩
  unfold wpY_alikeWithoutColours wpY_comes
  dsimp only
  refine br_c (fun c => ?_) (fun c => ?_)
  · refine gc_ywW (g := 0) (by omega) hC hE hK fun rn' cd' kn' hA hW => ?_
    refine gc_yco (g := 1) (by omega) hH1 hC1 hE1 fun rn2 => ?_
    refine nm_e ?_
    exact gc_ycm hA (fun _ => ⟨gc_nr1, rfl, gc_I_W I hW⟩) (fun z => absurd (hal.mpr c) z)
  · refine gc_ywW (g := 0) (by omega) hC hE hK fun rn' cd' kn' hA hW => ?_
    refine gc_yco (g := 1) (by omega) hH1 hC1 hE1 fun rn2 => ?_
    refine nm_e ?_
    exact gc_ycm hA (fun z => absurd (hal.mp z) c) (fun _ => ⟨gc_nr0, rfl, gc_I_W I hW⟩)
