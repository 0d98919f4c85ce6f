/-! the reference's asking methods -/
section
variable {cl ed rn cd kn : Nat → Int32}
/-- the cache after an asking call: graph g's is right if known, the other graph's is as it was -/
def gc_W (x : Int32) (g : Nat) (cd kn cd' kn' : Nat → Int32) : Prop := gc_KR x kn' cd' g ∧ (∀ j, (j < g * 720 ∨ g * 720 + 720 ≤ j) → cd' j = cd j) ∧ (∀ j, j ≠ g → kn' j = kn j)
theorem gc_W_r {x : Int32} {g : Nat} (h : gc_KR x kn cd g) : gc_W x g cd kn cd kn := ⟨h, fun _ _ => rfl, fun _ _ => rfl⟩
theorem gc_W_t {x : Int32} {g : Nat} {cd1 kn1 cd2 kn2 : Nat → Int32} (h1 : gc_W x g cd kn cd1 kn1) (h2 : gc_W x g cd1 kn1 cd2 kn2) : gc_W x g cd kn cd2 kn2 :=
  ⟨h2.1, fun j hj => (h2.2.1 j hj).trans (h1.2.1 j hj), fun j hj => (h2.2.2 j hj).trans (h1.2.2 j hj)⟩
def gc_A (x : Int32) (g : Nat) (cd : Nat → Int32) : Prop := ∀ p, p < 720 → cd (g * 720 + p) = gc_aa p x
theorem gc_ywW {post : SY → Prop} {x : Int32} {g : Nat} (hg : g < 2) (hC : gc_GC x cl g) (hE : gc_GE x ed g) (hK : gc_KR x kn cd g)
    (h : ∀ rn' cd' kn' : Nat → Int32, gc_A x g cd' → gc_W x g cd kn cd' kn' → post (cl, ed, rn', cd', kn')) : wpY_work post (cl, ed, rn, cd, kn) (nI g) :=
  gc_ywk hg hC hE hK fun rn' cd' kn' h1 h2 h3 => h rn' cd' kn' h1 ⟨fun _ => h1, h2, h3⟩
theorem gc_cdA {x : Int32} {g : Nat} (hg : g < 2) (hA : gc_A x g cd) {p : Nat} (hp : p < 720) : cd (nI g * 720 + nI p).toNatClampNeg = gc_aa p x := by
  rw [gc_c720 hg hp]
  exact hA p hp
theorem gc_ycn {post : Int32 → SY → Prop} {x : Int32} {g : Nat} (hg : g < 2) (hH : gc_H x) (hA : gc_A x g cd) (h : post (gc_mn x 720) (cl, ed, rn, cd, kn)) : ∃ n, wY_canonical_28 post (nI g) cl ed rn cd kn n x 1 := by
  have key : ∀ (d p m : Nat), p + d = 720 → d < m → wY_canonical_28 post (nI g) cl ed rn cd kn m (gc_mn x p) (nI p) := by
    intro d
    induction d with
    | zero =>
      intro p m hv hm
      obtain ⟨m, rfl⟩ : ∃ k, m = k + 1 := ⟨m - 1, by omega⟩
      obtain rfl : p = 720 := by omega
      exact br_t (nI_le (a := 720) (b := 720) (by omega) (by omega)) h
    | succ d ih =>
      intro p m hv hm
      obtain ⟨m, rfl⟩ : ∃ k, m = k + 1 := ⟨m - 1, by omega⟩
      have ih := ih (p + 1) m (by omega) (by omega)
      rw [gc_mn_s] at ih
      have hi : vp_in (nI g * 720 + nI p) 1440 := gc_n720 hg (by omega)
      refine br_f (nI_ge (b := 720) (by omega) (by omega)) ⟨hi, ?_⟩
      rw [gc_cdA hg hA (by omega : p < 720)]
      refine br_c (fun c => nm_r (nI_1 p) ?_) (fun c => ⟨hi, nm_e (nm_r (nI_1 p) ?_)⟩)
      · rw [if_pos c] at ih
        exact ih
      · rw [if_neg c] at ih
        exact ih
  have k1 := key 719 1 720 (by omega) (by omega)
  rw [gc_mn_1 hH] at k1
  exact ⟨720, k1⟩
theorem gc_ysy {post : Int32 → SY → Prop} {x : Int32} {g : Nat} (hg : g < 2) (hA : gc_A x g cd) (h : post (nI (gc_sy x 720)) (cl, ed, rn, cd, kn)) : ∃ n, wY_symmetries_26 post (nI g) x cl ed rn cd kn n 0 0 := by
  have key : ∀ (d p m : Nat), p + d = 720 → d < m → wY_symmetries_26 post (nI g) x cl ed rn cd kn m (nI (gc_sy x p)) (nI p) := by
    intro d
    induction d with
    | zero =>
      intro p m hv hm
      obtain ⟨m, rfl⟩ : ∃ k, m = k + 1 := ⟨m - 1, by omega⟩
      obtain rfl : p = 720 := by omega
      exact br_t (nI_le (a := 720) (b := 720) (by omega) (by omega)) h
    | succ d ih =>
      intro p m hv hm
      obtain ⟨m, rfl⟩ : ∃ k, m = k + 1 := ⟨m - 1, by omega⟩
      have ih := ih (p + 1) m (by omega) (by omega)
      rw [gc_sy_s] at ih
      have hi : vp_in (nI g * 720 + nI p) 1440 := gc_n720 hg (by omega)
      refine br_f (nI_ge (b := 720) (by omega) (by omega)) ⟨hi, ?_⟩
      rw [gc_cdA hg hA (by omega : p < 720)]
      refine br_c (fun c => nm_r (nI_1 _) (nm_r (nI_1 p) ?_)) (fun c => nm_r (nI_1 p) ?_)
      · rw [if_pos (decide_eq_true c)] at ih
        exact ih
      · rw [if_neg (show ¬ decide (gc_aa p x = x) = true from fun z => c (of_decide_eq_true z))] at ih
        exact ih
  exact ⟨721, key 720 0 721 (by omega) (by omega)⟩
theorem gc_yor {post : Int32 → SY → Prop} {x : Int32} {g v : Nat} (hg : g < 2) (hv6 : v < 6) (hA : gc_A x g cd) (h : ∀ rn' : Nat → Int32, post (gc_om x v 720) (cl, ed, rn', cd, kn)) : ∃ n, wY_orbit_38 post (nI g) (nI v) x n 0 0 cl ed rn cd kn := by
  have key : ∀ (d p : Nat) (rn : Nat → Int32) (m : Nat), p + d = 720 → d < m → wY_orbit_38 post (nI g) (nI v) x m (gc_om x v p) (nI p) cl ed rn cd kn := by
    intro d
    induction d with
    | zero =>
      intro p rn m hv hm
      obtain ⟨m, rfl⟩ : ∃ k, m = k + 1 := ⟨m - 1, by omega⟩
      obtain rfl : p = 720 := by omega
      exact br_t (nI_le (a := 720) (b := 720) (by omega) (by omega)) (h rn)
    | succ d ih =>
      intro p rn m hv hm
      obtain ⟨m, rfl⟩ : ∃ k, m = k + 1 := ⟨m - 1, by omega⟩
      have ih := fun rn => ih (p + 1) rn m (by omega) (by omega)
      rw [gc_om_s] at ih
      have hp : p < 720 := by omega
      have hi : vp_in (nI g * 720 + nI p) 1440 := gc_n720 hg hp
      refine br_f (nI_ge (b := 720) (by omega) (by omega)) ⟨hi, ?_⟩
      rw [gc_cdA hg hA hp]
      refine br_c (fun c => gc_yrn hp fun rn' hr => ⟨vp_in_nI hv6 (by omega), nm_r (e' := gc_om x v p ||| ((1 : Int32) <<< (nI (gc_pm p v) &&& 31))) (by rw [nI_clamp (by omega), hr v hv6]) (nm_r (nI_1 p) ?_)⟩) (fun c => nm_r (nI_1 p) ?_)
      · rw [if_pos c] at ih
        exact ih rn'
      · rw [if_neg c] at ih
        exact ih rn
  exact ⟨721, key 720 0 rn 721 (by omega) (by omega)⟩
theorem gc_yorb {post : Int32 → SY → Prop} {x : Int32} {g v : Nat} (hg : g < 2) (hv : v < 6) (hH : gc_H x) (hC : gc_GC x cl g) (hE : gc_GE x ed g) (hK : gc_KR x kn cd g)
    (h : ∀ rn' cd' kn' : Nat → Int32, gc_W x g cd kn cd' kn' → post (gc_om x v 720) (cl, ed, rn', cd', kn')) : wpY_orbit post (cl, ed, rn, cd, kn) (nI g) (nI v) := by
  unfold wpY_orbit
  dsimp only
  refine gc_ygB hg ?_
  refine gc_yvB hv ?_
  refine gc_ywW hg hC hE hK fun rn' cd' kn' hA hW => ?_
  refine gc_yco hg hH hC hE fun rn2 => ?_
  exact gc_yor hg hv hA fun rn3 => h rn3 cd' kn' hW
theorem gc_yon {post : Int32 → SY → Prop} {x : Int32} {g : Nat} (hg : g < 2) (hH : gc_H x) (hC : gc_GC x cl g) (hE : gc_GE x ed g) (hK : gc_KR x kn cd g)
    (h : ∀ rn' cd' kn' : Nat → Int32, gc_W x g cd kn cd' kn' → post (nI (gc_on x 6)) (cl, ed, rn', cd', kn')) : ∃ n, wY_orbits_14 post (nI g) n 0 0 cl ed rn cd kn := by
  have key : ∀ (d v : Nat) (rn cd' kn' : Nat → Int32) (m : Nat), v + d = 6 → d < m → gc_W x g cd kn cd' kn' → wY_orbits_14 post (nI g) m (nI (gc_on x v)) (nI v) cl ed rn cd' kn' := by
    intro d
    induction d with
    | zero =>
      intro p rn cd' kn' m hv hm hW
      obtain ⟨m, rfl⟩ : ∃ k, m = k + 1 := ⟨m - 1, by omega⟩
      obtain rfl : p = 6 := by omega
      exact br_t (nI_le (a := 6) (b := 6) (by omega) (by omega)) (h rn cd' kn' hW)
    | succ d ih =>
      intro p rn cd' kn' m hv hm hW
      obtain ⟨m, rfl⟩ : ∃ k, m = k + 1 := ⟨m - 1, by omega⟩
      have ih := fun rn cd' kn' hW => ih (p + 1) rn cd' kn' m (by omega) (by omega) hW
      rw [gc_on_s] at ih
      refine br_f (nI_ge (b := 6) (by omega) (by omega)) (gc_yorb hg (by omega) hH hC hE hW.1 fun rn2 cd2 kn2 hW2 => ?_)
      refine br_c (fun c => br_f gc_10 (nm_r (nI_1 _) (nm_r (nI_1 p) ?_))) (fun c => br_t rfl (nm_r (nI_1 p) ?_))
      · rw [if_pos c] at ih
        exact ih rn2 cd2 kn2 (gc_W_t hW hW2)
      · rw [if_neg c] at ih
        exact ih rn2 cd2 kn2 (gc_W_t hW hW2)
  exact ⟨7, key 6 0 rn cd kn 7 (by omega) (by omega) (gc_W_r hK)⟩
theorem gc_yva {post : Int32 → SY → Prop} {x : Int32} {g : Nat} (hg : g < 2) (hA : gc_A x g cd) (h : post (nI (gc_ct (gc_new fun p => gc_aa p x) 720)) (cl, ed, rn, cd, kn)) : ∃ n, wY_variants_19 post (nI g) cl ed rn cd kn n 0 0 := by
  have inner : ∀ (J : Int32 → Int32 → Prop) (x2 : Int32) (p : Nat), p < 720 → (gc_new (fun p => gc_aa p x) p = true → J (x2 + 1) (nI (p + 1))) → (¬ gc_new (fun p => gc_aa p x) p = true → J x2 (nI (p + 1))) → ∀ (d q m : Nat), q + d = p → d < m → (∀ j, j < q → ¬ gc_aa j x = gc_aa p x) → wY_variants_29 post J (nI g) x2 (nI p) cl ed rn cd kn m (nI q) := by
    intro J x2 p hp h1 h2 d
    induction d with
    | zero =>
      intro q m hq hm hn
      obtain ⟨m, rfl⟩ : ∃ k, m = k + 1 := ⟨m - 1, by omega⟩
      obtain rfl : q = p := by omega
      exact br_t (nI_le (by omega) (by omega)) (br_t rfl (nm_e (nm_r (nI_1 q) (h1 (decide_eq_true hn)))))
    | succ d ih =>
      intro q m hq hm hn
      obtain ⟨m, rfl⟩ : ∃ k, m = k + 1 := ⟨m - 1, by omega⟩
      refine br_f (nI_ge (by omega) (by omega)) ⟨gc_n720 hg (by omega), gc_n720 hg hp, ?_⟩
      rw [gc_cdA hg hA (by omega : q < 720), gc_cdA hg hA hp]
      refine br_c (fun c => br_f (fun z => ?_) (nm_r (nI_1 p) (h2 fun z => ?_))) (fun c => nm_r (nI_1 q) (ih (q + 1) m (by omega) (by omega) fun j hj => ?_))
      · rw [nI_eq (by omega) (by omega)] at z
        omega
      · exact of_decide_eq_true z q (by omega) c
      · rcases (show j < q ∨ j = q by omega) with z | z
        · exact hn j z
        · subst z; exact c
  have key : ∀ (d p m : Nat), p + d = 720 → d < m → wY_variants_19 post (nI g) cl ed rn cd kn m (nI (gc_ct (gc_new fun p => gc_aa p x) p)) (nI p) := by
    intro d
    induction d with
    | zero =>
      intro p m hv hm
      obtain ⟨m, rfl⟩ : ∃ k, m = k + 1 := ⟨m - 1, by omega⟩
      obtain rfl : p = 720 := by omega
      exact br_t (nI_le (a := 720) (b := 720) (by omega) (by omega)) h
    | succ d ih =>
      intro p m hv hm
      obtain ⟨m, rfl⟩ : ∃ k, m = k + 1 := ⟨m - 1, by omega⟩
      have ih := ih (p + 1) m (by omega) (by omega)
      rw [gc_ct_s] at ih
      refine br_f (nI_ge (b := 720) (by omega) (by omega)) ⟨p + 1, inner _ _ p (by omega) (fun z => ?_) (fun z => ?_) p 0 (p + 1) (by omega) (by omega) (fun j hj => by omega)⟩
      · rw [if_pos z] at ih
        rw [nI_1]
        exact ih
      · rw [if_neg z] at ih
        exact ih
  exact ⟨721, key 720 0 721 (by omega) (by omega)⟩
theorem gc_ycm {post : Int32 → SY → Prop} {x k w : Int32} (hA : gc_A x 0 cd) (h1 : (∃ p, p < 720 ∧ gc_aa p x &&& k = w) → post 1 (cl, ed, rn, cd, kn)) (h0 : ¬ (∃ p, p < 720 ∧ gc_aa p x &&& k = w) → post 0 (cl, ed, rn, cd, kn)) : ∃ n, wY_comes_15 post k w cl ed rn cd kn n 0 := by
  have key : ∀ (d p m : Nat), p + d = 720 → d < m → (∀ q, q < p → ¬ gc_aa q x &&& k = w) → wY_comes_15 post k w cl ed rn cd kn m (nI p) := by
    intro d
    induction d with
    | zero =>
      intro p m hv hm hn
      obtain ⟨m, rfl⟩ : ∃ k, m = k + 1 := ⟨m - 1, by omega⟩
      obtain rfl : p = 720 := by omega
      exact br_t (nI_le (a := 720) (b := 720) (by omega) (by omega)) (h0 fun ⟨q, hq, e⟩ => hn q hq e)
    | succ d ih =>
      intro p m hv hm hn
      obtain ⟨m, rfl⟩ : ∃ k, m = k + 1 := ⟨m - 1, by omega⟩
      refine br_f (nI_ge (b := 720) (by omega) (by omega)) ⟨vp_in_nI (by omega) (by omega), ?_⟩
      have e : cd (nI p).toNatClampNeg = gc_aa p x := by
        rw [nI_clamp (by omega), ← hA p (by omega)]
        exact congrArg cd (by omega)
      rw [e]
      refine br_c (fun c => h1 ⟨p, by omega, c⟩) (fun c => nm_r (nI_1 p) (ih (p + 1) m (by omega) (by omega) fun q hq => ?_))
      rcases (show q < p ∨ q = p by omega) with z | z
      · exact hn q z
      · subst z; exact c
  exact ⟨721, key 720 0 721 (by omega) (by omega) (fun q hq => by omega)⟩
end
