/-! copy -/
section
variable {ac ar cl ed rn cd kn : Nat → Int32}
theorem gc_i36l (i : Nat) : (36 : Int32) + nI i = nI (36 + i) := nI_add 36 i
theorem gc_i6l (i : Nat) : (6 : Int32) + nI i = nI (6 + i) := nI_add 6 i
theorem gc_ycp2 {post : SY → Prop} (h : ∀ ed' : Nat → Int32, (∀ i, i < 36 → ed' (36 + i) = vp_nar .boolean (ed i)) → (∀ j, (j < 36 ∨ 72 ≤ j) → ed' j = ed j) → post (cl, ed', rn, cd, upd kn 1 0)) : ∃ n, wY_copy_31 post n 0 cl ed rn cd kn := by
  have key : ∀ (d i : Nat) (ed' : Nat → Int32) (m : Nat), i + d = 36 → d < m → (∀ j, j < i → ed' (36 + j) = vp_nar .boolean (ed j)) → (∀ j, (j < 36 ∨ 72 ≤ j) → ed' j = ed j) → wY_copy_31 post m (nI i) cl ed' rn cd kn := by
    intro d
    induction d with
    | zero =>
      intro i ed' m hv hm h1 h2
      obtain ⟨m, rfl⟩ : ∃ k, m = k + 1 := ⟨m - 1, by omega⟩
      obtain rfl : i = 36 := by omega
      exact br_t (nI_le (a := 36) (b := 36) (by omega) (by omega)) (nm_r (e' := upd kn 1 0) (by rw [gc_nar0]) (h ed' h1 h2))
    | succ d ih =>
      intro i ed' m hv hm h1 h2
      obtain ⟨m, rfl⟩ : ∃ k, m = k + 1 := ⟨m - 1, by omega⟩
      refine br_f (nI_ge (b := 36) (by omega) (by omega)) ⟨vp_in_nI (by omega) (by omega), by rw [gc_i36l]; exact vp_in_nI (by omega) (by omega), nm_r (e' := upd ed' (36 + i) (vp_nar .boolean (ed i))) (by rw [gc_i36l, nI_clamp (by omega), nI_clamp (by omega), h2 i (by omega)]) (nm_r (nI_1 i) (ih (i + 1) _ m (by omega) (by omega) (fun j hj => ?_) (fun j hj => ?_)))⟩
      · by_cases c : j = i
        · subst c; rw [pk_us]
        · rw [pk_un (by omega)]; exact h1 j (by omega)
      · rw [pk_un (by omega)]; exact h2 j hj
  exact ⟨37, key 36 0 ed 37 (by omega) (by omega) (fun j hj => by omega) (fun j _ => rfl)⟩
theorem gc_ycp {post : SY → Prop} (h : ∀ cl' ed' : Nat → Int32, (∀ v, v < 6 → cl' (6 + v) = cl v) → (∀ j, (j < 6 ∨ 12 ≤ j) → cl' j = cl j) → (∀ i, i < 36 → ed' (36 + i) = vp_nar .boolean (ed i)) → (∀ j, (j < 36 ∨ 72 ≤ j) → ed' j = ed j) → post (cl', ed', rn, cd, upd kn 1 0)) : wpY_copy post (cl, ed, rn, cd, kn) := by
  have key : ∀ (d i : Nat) (cl' : Nat → Int32) (m : Nat), i + d = 6 → d < m → (∀ j, j < i → cl' (6 + j) = cl j) → (∀ j, (j < 6 ∨ 12 ≤ j) → cl' j = cl j) → wY_copy_2 post m (nI i) cl' ed rn cd kn := by
    intro d
    induction d with
    | zero =>
      intro i cl' m hv hm h1 h2
      obtain ⟨m, rfl⟩ : ∃ k, m = k + 1 := ⟨m - 1, by omega⟩
      obtain rfl : i = 6 := by omega
      exact br_t (nI_le (a := 6) (b := 6) (by omega) (by omega)) (gc_ycp2 fun ed' h3 h4 => h cl' ed' h1 h2 h3 h4)
    | succ d ih =>
      intro i cl' m hv hm h1 h2
      obtain ⟨m, rfl⟩ : ∃ k, m = k + 1 := ⟨m - 1, by omega⟩
      refine br_f (nI_ge (b := 6) (by omega) (by omega)) ⟨vp_in_nI (by omega) (by omega), by rw [gc_i6l]; exact vp_in_nI (by omega) (by omega), nm_r (e' := upd cl' (6 + i) (cl i)) (by rw [gc_i6l, nI_clamp (by omega), nI_clamp (by omega), h2 i (by omega)]) (nm_r (nI_1 i) (ih (i + 1) _ m (by omega) (by omega) (fun j hj => ?_) (fun j hj => ?_)))⟩
      · by_cases c : j = i
        · subst c; rw [pk_us]
        · rw [pk_un (by omega)]; exact h1 j (by omega)
      · rw [pk_un (by omega)]; exact h2 j hj
  exact ⟨7, key 6 0 cl 7 (by omega) (by omega) (fun j hj => by omega) (fun j _ => rfl)⟩
end
theorem i_vc_copy {k : Nat} {u : SX} {v : SY} (I : i_Rel k u v) (hk : k + 5 ≤ 2560) : wpX_copy (fun u' => wpY_copy (fun v' => i_Rel (k + 5) u' v') v) u := by
  obtain ⟨ac, ar⟩ := u
  obtain ⟨cl, ed, rn, cd, kn⟩ := v
  replace I : gc_I ac ar cl ed cd kn := I
  unfold wpX_copy
  dsimp only
  refine nm_e ?_
  refine gc_ycp fun cl' ed' h1 h2 h3 h4 => ?_
  show gc_I (upd ac 1 (ac 0)) ar cl' ed' cd (upd kn 1 0)
  obtain ⟨hH, hC, hE, hK⟩ := I.2 0 (by omega)
  refine gc_I_u I hH (fun v hv => ?_) (fun p hp q hq hn => ?_) (fun j hj => h2 j (by omega)) (fun j hj => h4 j (by omega)) pk_us (fun j hj => pk_un hj)
  · rw [← hC v hv, show 1 * 6 + v = 6 + v by omega, h1 v hv, show 0 * 6 + v = v by omega]
  · have e := hE p hp q hq hn
    have hl := gc_pb_lt hp hq hn
    rw [show 0 * 36 + 6 * p + q = 6 * p + q by omega] at e
    rw [show 1 * 36 + 6 * p + q = 36 + (6 * p + q) by omega, h3 _ (by omega), e]
    exact gc_nar (gc_r1_01 _ (by omega))
/-! complement -/
def gc_bn (y : Int32) (k : Nat) : Nat := if bt y k = true then 1 else 0
def gc_yk (y : Int32) : Nat → Nat
  | 0 => 0
  | i + 1 => gc_yk y i + if i / 6 = i % 6 then 0 else gc_bn y (gc_pb (i / 6) (i % 6))
theorem gc_yk_s (y : Int32) (i : Nat) : gc_yk y (i + 1) = gc_yk y i + if i / 6 = i % 6 then 0 else gc_bn y (gc_pb (i / 6) (i % 6)) := rfl
theorem gc_yk_2 (y : Int32) : gc_yk y 36 = 2 * gc_ec y 15 := by
  have e : gc_ec y 15 = gc_bn y 0 + gc_bn y 1 + gc_bn y 2 + gc_bn y 3 + gc_bn y 4 + gc_bn y 5 + gc_bn y 6 + gc_bn y 7 + gc_bn y 8 + gc_bn y 9 + gc_bn y 10 + gc_bn y 11 + gc_bn y 12 + gc_bn y 13 + gc_bn y 14 := by
    simp only [gc_ec, gc_bn]
    omega
  have e2 : gc_yk y 36 = gc_bn y 14 + gc_bn y 13 + gc_bn y 12 + gc_bn y 11 + gc_bn y 10 + (gc_bn y 14 + gc_bn y 9 + gc_bn y 8 + gc_bn y 7 + gc_bn y 6) + (gc_bn y 13 + gc_bn y 9 + gc_bn y 5 + gc_bn y 4 + gc_bn y 3) + (gc_bn y 12 + gc_bn y 8 + gc_bn y 5 + gc_bn y 2 + gc_bn y 1) + (gc_bn y 11 + gc_bn y 7 + gc_bn y 4 + gc_bn y 2 + gc_bn y 0) + (gc_bn y 10 + gc_bn y 6 + gc_bn y 3 + gc_bn y 1 + gc_bn y 0) := by
    generalize hb : gc_bn y = b
    simp [gc_yk, hb, gc_pb]
    omega
  omega
theorem gc_yk_le (y : Int32) : ∀ i, gc_yk y i ≤ i := by
  intro i
  induction i with
  | zero => exact Nat.le_refl 0
  | succ i ih =>
    rw [gc_yk_s]
    unfold gc_bn
    split
    · omega
    · split <;> omega
theorem gc_bxor (x : Int32) (i : Nat) : bt (x ^^^ 32767) i = (bt x i ^^ decide (i < 15)) := by
  rw [b_xor, gc_b15]
section
variable {ac ar cl ed rn cd kn : Nat → Int32}
theorem gc_ycl {post : Int32 → SY → Prop} {x : Int32} {g : Nat} (hg : g < 2) (hE : gc_GE x ed g)
    (h : ∀ ed' : Nat → Int32, gc_GE (x ^^^ 32767) ed' g → (∀ j, (j < g * 36 ∨ g * 36 + 36 ≤ j) → ed' j = ed j) → post (nI (gc_ec (x ^^^ 32767) 15)) (cl, ed', rn, cd, upd kn g 0)) : ∃ n, wY_complement_14 post (nI g) n 0 0 cl ed rn cd kn := by
  have key : ∀ (d i : Nat) (ed' : Nat → Int32) (m : Nat), i + d = 36 → d < m → (∀ j, j < i → j / 6 ≠ j % 6 → ed' (g * 36 + j) = gc_r1 (x ^^^ 32767) (gc_pb (j / 6) (j % 6))) → (∀ j, (j < g * 36 + i ∨ g * 36 + 36 ≤ j) → (j < g * 36 ∨ g * 36 + 36 ≤ j) → ed' j = ed j) → (∀ j, i ≤ j → j < 36 → ed' (g * 36 + j) = ed (g * 36 + j)) → wY_complement_14 post (nI g) m (nI (gc_yk (x ^^^ 32767) i)) (nI i) cl ed' rn cd kn := by
    intro d
    induction d with
    | zero =>
      intro i ed' m hv hm h1 h2 h3
      obtain ⟨m, rfl⟩ : ∃ k, m = k + 1 := ⟨m - 1, by omega⟩
      obtain rfl : i = 36 := by omega
      refine br_t (nI_le (a := 36) (b := 36) (by omega) (by omega)) ⟨vp_in_nI hg (by omega), nm_r (e' := upd kn g 0) (by rw [nI_clamp (by omega), gc_nar0]) ⟨by decide, ?_⟩⟩
      have e : nI (gc_yk (x ^^^ 32767) 36) / 2 = nI (gc_ec (x ^^^ 32767) 15) := by
        have hl := gc_yk_le (x ^^^ 32767) 36
        have e2 := gc_yk_2 (x ^^^ 32767)
        rw [show (2 : Int32) = nI 2 from rfl, pk_div (by omega) (by omega) (by omega)]
        exact congrArg nI (by omega)
      rw [e]
      refine h ed' (fun p hp q hq hn => ?_) (fun j hj => h2 j (by omega) hj)
      have e3 := h1 (6 * p + q) (by omega) (by omega)
      rw [show (6 * p + q) / 6 = p by omega, show (6 * p + q) % 6 = q by omega] at e3
      rw [← e3]
      exact congrArg ed' (by omega)
    | succ d ih =>
      intro i ed' m hv hm h1 h2 h3
      obtain ⟨m, rfl⟩ : ∃ k, m = k + 1 := ⟨m - 1, by omega⟩
      have hi36 : i < 36 := by omega
      have hix : vp_in (nI g * 36 + nI i) 72 := gc_n36 hg hi36
      have hcx : (nI g * 36 + nI i).toNatClampNeg = g * 36 + i := gc_c36 hg hi36
      have e6 : nI i / 6 = nI (i / 6) := pk_div (a := i) (d := 6) (by omega) (by omega) (by omega)
      have er : nI i - nI i / 6 * 6 = nI (i % 6) := pk_rem (a := i) (d := 6) (by omega) (by omega) (by omega)
      have nx : ∀ (t : Int32) (N : Nat), (i / 6 ≠ i % 6 → t = gc_r1 (x ^^^ 32767) (gc_pb (i / 6) (i % 6))) → N = gc_yk (x ^^^ 32767) (i + 1) → wY_complement_14 post (nI g) m (nI N) (nI (i + 1)) cl (upd ed' (g * 36 + i) t) rn cd kn := by
        intro t N ht hN
        subst hN
        refine ih (i + 1) _ m (by omega) (by omega) (fun j hj hne => ?_) (fun j hj hj2 => ?_) (fun j hj hj2 => ?_)
        · by_cases c : j = i
          · subst c; rw [pk_us]; exact ht hne
          · rw [pk_un (by omega)]; exact h1 j (by omega) hne
        · rw [pk_un (by omega)]; exact h2 j (by omega) hj2
        · rw [pk_un (by omega)]; exact h3 j (by omega) hj2
      have k0 : (i / 6 ≠ i % 6 → (0 : Int32) = gc_r1 (x ^^^ 32767) (gc_pb (i / 6) (i % 6))) → gc_yk (x ^^^ 32767) i = gc_yk (x ^^^ 32767) (i + 1) → wY_complement_60 post (wY_complement_14 post (nI g) m) (nI g) (nI (gc_yk (x ^^^ 32767) i)) (nI i) 0 (nI g * 36 + nI i) cl ed' rn cd kn := by
        intro a b
        refine ⟨hix, nm_r (e' := upd ed' (g * 36 + i) 0) (by rw [hcx, gc_nar0]) ⟨hix, ?_⟩⟩
        rw [hcx, pk_us]
        exact br_t rfl (nm_r (nI_1 i) (nx 0 _ a b))
      have k1 : (i / 6 ≠ i % 6 → (1 : Int32) = gc_r1 (x ^^^ 32767) (gc_pb (i / 6) (i % 6))) → gc_yk (x ^^^ 32767) i + 1 = gc_yk (x ^^^ 32767) (i + 1) → wY_complement_60 post (wY_complement_14 post (nI g) m) (nI g) (nI (gc_yk (x ^^^ 32767) i)) (nI i) 1 (nI g * 36 + nI i) cl ed' rn cd kn := by
        intro a b
        refine ⟨hix, nm_r (e' := upd ed' (g * 36 + i) 1) (by rw [hcx, gc_nar1]) ⟨hix, ?_⟩⟩
        rw [hcx, pk_us]
        exact br_f gc_10 (nm_r (nI_1 _) (nm_r (nI_1 i) (nx 1 _ a b)))
      refine br_f (nI_ge (b := 36) (by omega) (by omega)) ⟨by decide, by decide, ?_⟩
      rw [er, e6]
      by_cases c : i / 6 = i % 6
      · refine br_t (by rw [c]) (k0 (fun z => absurd c z) ?_)
        rw [gc_yk_s, if_pos c, Nat.add_zero]
      · have hu : i / 6 < 6 := by omega
        have hw : i % 6 < 6 := by omega
        have hl := gc_pb_lt hu hw c
        have ee : ed' (nI g * 36 + nI i).toNatClampNeg = gc_r1 x (gc_pb (i / 6) (i % 6)) := by
          rw [hcx, h3 i (by omega) hi36, ← hE _ hu _ hw c]
          exact congrArg ed (by omega)
        refine br_f (fun z => c ?_) ⟨hix, ?_⟩
        · rw [nI_eq (by omega) (by omega)] at z
          exact z
        · rw [ee, gc_r1_if x (by omega)]
          have hb := gc_bxor x (gc_pb (i / 6) (i % 6))
          rw [decide_eq_true hl, Bool.xor_true] at hb
          by_cases b : bt x (gc_pb (i / 6) (i % 6)) = true
          · rw [if_pos b]
            rw [b] at hb
            refine br_f gc_10 (k0 (fun _ => ?_) ?_)
            · rw [gc_r1_if _ (by omega), if_neg (by rw [hb]; decide)]
            · rw [gc_yk_s, if_neg c]
              unfold gc_bn
              rw [if_neg (by rw [hb]; decide), Nat.add_zero]
          · rw [if_neg b]
            rw [Bool.not_eq_true] at b
            rw [b] at hb
            refine br_t rfl (k1 (fun _ => ?_) ?_)
            · rw [gc_r1_if _ (by omega), if_pos (by rw [hb]; decide)]
            · rw [gc_yk_s, if_neg c]
              unfold gc_bn
              rw [if_pos (by rw [hb]; decide)]
  exact ⟨37, key 36 0 ed 37 (by omega) (by omega) (fun j hj => by omega) (fun j _ _ => rfl) (fun j _ _ => rfl)⟩
end
theorem i_vc_complement {k : Nat} {u : SX} {v : SY} (I : i_Rel k u v) (hk : k + 5 ≤ 2560) (v1 : Int32) : wpX_complement (fun r u' => wpY_complement (fun r' v' => r' = r ∧ i_Rel (k + 5) u' v') v v1) u v1 := by
  obtain ⟨ac, ar⟩ := u
  obtain ⟨cl, ed, rn, cd, kn⟩ := v
  replace I : gc_I ac ar cl ed cd kn := I
  unfold wpX_complement
  dsimp only
  rcases gc_cs v1 (N := 2) (by decide) with ho | ⟨g, hg, rfl⟩
  · refine gc_xgA ho ?_
    unfold wpY_complement
    dsimp only
    exact gc_ygA ho ⟨rfl, I⟩
  refine gc_xgB hg ?_
  have hi : vp_in (nI g) 2 := vp_in_nI hg (by omega)
  refine ⟨hi, hi, nm_r (e' := upd ac g (ac g ^^^ 32767)) (by rw [nI_clamp (by omega)]) ⟨hi, ?_⟩⟩
  rw [nI_clamp (by omega), pk_us]
  refine gc_xec ?_
  unfold wpY_complement
  dsimp only
  refine gc_ygB hg ?_
  obtain ⟨hH, hC, hE, hK⟩ := I.2 g hg
  refine gc_ycl hg hE fun ed' h1 h2 => ⟨rfl, ?_⟩
  refine gc_I_u I (fun i hi => ?_) (fun v hv => ?_) h1 (fun _ _ => rfl) h2 pk_us (fun j hj => pk_un hj)
  · rw [gc_bxor, hH i hi, decide_eq_false (by omega)]
    rfl
  · have hl := gc_cb_lt hv
    show cl (g * 6 + v) = _
    rw [hC v hv]
    refine gc_r3_eq (by omega) (by omega) ?_ ?_
    · rw [gc_bxor, decide_eq_false (by omega), Bool.xor_false]
    · rw [gc_bxor, decide_eq_false (by omega), Bool.xor_false]
