/-! the relation -/
def gc_I (ac ar cl ed cd kn : Nat → Int32) : Prop := gc_T ar ∧ ∀ g, g < 2 → gc_H (ac g) ∧ gc_GC (ac g) cl g ∧ gc_GE (ac g) ed g ∧ gc_KR (ac g) kn cd g
def i_Rel (k : Nat) (u : SX) (v : SY) : Prop := gc_I u.1 u.2 v.1 v.2.1 v.2.2.2.1 v.2.2.2.2
theorem i_up {k : Nat} {u : SX} {v : SY} (h : i_Rel k u v) : i_Rel (k + 5) u v := h
theorem gc_r3_0 : ∀ v, v < 6 → gc_r3 0 (gc_cb v) = 0 := by decide +kernel
theorem gc_r1_0 : ∀ u, u < 6 → ∀ w, w < 6 → gc_r1 0 (gc_pb u w) = 0 := by decide +kernel
theorem i_vc0 : wpX_init (fun u => wpY_init (fun v => i_Rel 0 u v)) := by
  refine gc_xinit fun ar har => ?_
  refine ⟨har, fun g hg => ⟨fun i _ => b_0 i, fun v hv => (gc_r3_0 v hv).symm, fun u hu w hw _ => (gc_r1_0 u hu w hw).symm, fun z => absurd rfl z⟩⟩
section
variable {ac ar cl ed rn cd kn : Nat → Int32}
/-- an asking call keeps the relation -/
theorem gc_I_W {g : Nat} {cd' kn' : Nat → Int32} (I : gc_I ac ar cl ed cd kn) (hW : gc_W (ac g) g cd kn cd' kn') : gc_I ac ar cl ed cd' kn' := by
  refine ⟨I.1, fun j hj => ⟨(I.2 j hj).1, (I.2 j hj).2.1, (I.2 j hj).2.2.1, ?_⟩⟩
  by_cases c : j = g
  · subst c; exact hW.1
  · intro z p hp
    rw [hW.2.2 j c] at z
    rw [hW.2.1 _ (by omega)]
    exact (I.2 j hj).2.2.2 z p hp
/-- a call that changes graph g -/
theorem gc_I_u {g : Nat} {y : Int32} {cl' ed' kn' : Nat → Int32} (I : gc_I ac ar cl ed cd kn) (hH : gc_H y) (hC : gc_GC y cl' g) (hE : gc_GE y ed' g)
    (fc : ∀ j, (j < g * 6 ∨ g * 6 + 6 ≤ j) → cl' j = cl j) (fe : ∀ j, (j < g * 36 ∨ g * 36 + 36 ≤ j) → ed' j = ed j) (k0 : kn' g = 0) (fk : ∀ j, j ≠ g → kn' j = kn j) : gc_I (upd ac g y) ar cl' ed' cd kn' := by
  refine ⟨I.1, fun j hj => ?_⟩
  by_cases c : j = g
  · subst c
    rw [pk_us]
    exact ⟨hH, hC, hE, fun z => absurd k0 z⟩
  · rw [pk_un c]
    obtain ⟨a, b, d, e⟩ := I.2 j hj
    refine ⟨a, fun v hv => ?_, fun u hu w hw hn => ?_, fun z p hp => ?_⟩
    · rw [fc _ (by omega)]; exact b v hv
    · rw [fe _ (by omega)]; exact d u hu w hw hn
    · rw [fk j c] at z; exact e z p hp
theorem gc_nar0 : vp_nar .boolean 0 = 0 := by decide +kernel
theorem gc_nar1 : vp_nar .boolean 1 = 1 := by decide +kernel
theorem gc_nar {t : Int32} (h : t = 0 ∨ t = 1) : vp_nar .boolean t = t := by
  rcases h with h | h
  · rw [h, gc_nar0]
  · rw [h, gc_nar1]
theorem gc_r1_01 (x : Int32) {s : Nat} (hs : s < 32) : gc_r1 x s = 0 ∨ gc_r1 x s = 1 := by
  rw [gc_r1_if x hs]
  split
  · exact Or.inr rfl
  · exact Or.inl rfl
/-! edge of the reference -/
theorem gc_yed {post : Int32 → SY → Prop} {g u w : Nat} {t : Int32} (hg : g < 2) (hu : u < 6) (hw : w < 6) (hn : u ≠ w) (ht : t = 0 ∨ t = 1) (he : ed (g * 36 + 6 * u + w) = 0 ∨ ed (g * 36 + 6 * u + w) = 1)
    (h : post (ed (g * 36 + 6 * u + w)) (cl, upd (upd ed (g * 36 + 6 * u + w) t) (g * 36 + 6 * w + u) t, rn, cd, upd kn g 0)) : wpY_edge post (cl, ed, rn, cd, kn) (nI g) (nI u) (nI w) t := by
  have k58 : ∀ z : Int32, post z (cl, upd (upd ed (g * 36 + 6 * u + w) t) (g * 36 + 6 * w + u) t, rn, cd, upd kn g 0) → wY_edge_58 post (nI g) (nI u) (nI w) t z cl ed rn cd kn := by
    intro z hz
    refine ⟨gc_n66 hg hu hw, nm_r (e' := upd ed (g * 36 + 6 * u + w) t) (by rw [gc_c66 hg hu hw, gc_nar ht]) ⟨gc_n66 hg hw hu, nm_r (e' := upd (upd ed (g * 36 + 6 * u + w) t) (g * 36 + 6 * w + u) t) (by rw [gc_c66 hg hw hu, gc_nar ht]) ⟨vp_in_nI hg (by omega), nm_r (e' := upd kn g 0) (by rw [nI_clamp (by omega), gc_nar0]) hz⟩⟩⟩
  unfold wpY_edge
  dsimp only
  refine gc_ygB hg ?_
  refine gc_yvB hu ?_
  refine gc_yvB hw ?_
  refine br_f (fun z => ?_) ⟨gc_n66 hg hu hw, ?_⟩
  · rw [nI_eq (by omega) (by omega)] at z
    exact hn z
  · rw [gc_c66 hg hu hw]
    rcases he with e | e
    · rw [e] at h
      exact br_t e (k58 0 h)
    · rw [e] at h
      exact br_f (by rw [e]; exact gc_10) (k58 1 h)
/-! one bit set or cleared -/
theorem gc_b1s {b i : Nat} (hb : b < 32) (hi : i < 32) : bt ((1 : Int32) <<< (nI b &&& 31)) i = decide (i = b) := by
  rw [b_shl b hb _ hi, gc_b1]
  by_cases h : i = b
  · subst h; simp
  · by_cases h2 : b ≤ i
    · simp [h, show ¬ i - b = 0 by omega]
    · simp [h, h2]
theorem gc_bm1 : ∀ i, i < 32 → bt (-1) i = true := by decide +kernel
theorem gc_bclr (x : Int32) {b i : Nat} (hb : b < 32) (hi : i < 32) : bt (x &&& (((1 : Int32) <<< (nI b &&& 31)) ^^^ (-1))) i = (bt x i && !decide (i = b)) := by
  rw [b_and, b_xor, gc_b1s hb hi, gc_bm1 i hi, Bool.xor_true]
theorem gc_bset (x : Int32) {b i : Nat} (hb : b < 32) (hi : i < 32) : bt (x ||| ((1 : Int32) <<< (nI b &&& 31))) i = (bt x i || decide (i = b)) := by
  rw [b_or, gc_b1s hb hi]
theorem gc_pb_inj {a b u w : Nat} (ha : a < 6) (hb : b < 6) (hab : a ≠ b) (hu : u < 6) (hw : w < 6) (huw : u ≠ w) (h : gc_pb a b = gc_pb u w) : a = u ∧ b = w ∨ a = w ∧ b = u := by
  have h1 := (gc_pbF a ha b hb hab).2
  have h2 := (gc_pbF u hu w hw huw).2
  rw [h] at h1
  omega
/-- y is x with pair bit b made t -/
theorem gc_edE {x y : Int32} {g u w : Nat} {t : Int32} (hu : u < 6) (hw : w < 6) (hn : u ≠ w) (hE : gc_GE x ed g) (hb : gc_r1 y (gc_pb u w) = t) (ho : ∀ i, i < 27 → i ≠ gc_pb u w → bt y i = bt x i) : gc_GE y (upd (upd ed (g * 36 + 6 * u + w) t) (g * 36 + 6 * w + u) t) g := by
  intro a ha b hb6 hab
  by_cases c1 : a = w ∧ b = u
  · obtain ⟨rfl, rfl⟩ := c1
    rw [pk_us, gc_pb_comm, hb]
  · rw [pk_un (by omega)]
    by_cases c2 : a = u ∧ b = w
    · obtain ⟨rfl, rfl⟩ := c2
      rw [pk_us, hb]
    · rw [pk_un (by omega), hE a ha b hb6 hab]
      have l1 := gc_pb_lt ha hb6 hab
      refine gc_r1_eq (by omega) (by omega) (ho _ (by omega) fun e => ?_).symm
      rcases gc_pb_inj ha hb6 hab hu hw hn e with z | z
      · exact c2 z
      · exact c1 z
theorem gc_edC {x y : Int32} {g b : Nat} (hb : b < 15) (hC : gc_GC x cl g) (ho : ∀ i, i < 27 → i ≠ b → bt y i = bt x i) : gc_GC y cl g := by
  intro v hv
  have := gc_cb_lt hv
  rw [hC v hv]
  exact gc_r3_eq (by omega) (by omega) (ho _ (by omega) (by omega)).symm (ho _ (by omega) (by omega)).symm
end
theorem i_vc_edge {k : Nat} {u : SX} {v : SY} (I : i_Rel k u v) (hk : k + 5 ≤ 2560) (v1 : Int32) (v2 : Int32) (v3 : Int32) (v4 : Int32) : wpX_edge (fun r u' => wpY_edge (fun r' v' => r' = r ∧ i_Rel (k + 5) u' v') v v1 v2 v3 (lw_bz v4)) u v1 v2 v3 (lw_bz v4) := by
  obtain ⟨ac, ar⟩ := u
  obtain ⟨cl, ed, rn, cd, kn⟩ := v
  replace I : gc_I ac ar cl ed cd kn := I
  have ht := lw_bz_01 v4
  generalize lw_bz v4 = t at ht
  unfold wpX_edge
  dsimp only
  rcases gc_cs v1 (N := 2) (by decide) with ho | ⟨g, hg, rfl⟩
  · refine gc_xgA ho ?_
    unfold wpY_edge
    dsimp only
    exact gc_ygA ho ⟨rfl, I⟩
  refine gc_xgB hg ?_
  rcases gc_cs v2 (N := 6) (by decide) with ho | ⟨a, ha, rfl⟩
  · refine gc_xvA ho ?_
    unfold wpY_edge
    dsimp only
    refine gc_ygB hg ?_
    exact gc_yvA ho ⟨rfl, I⟩
  refine gc_xvB ha ?_
  rcases gc_cs v3 (N := 6) (by decide) with ho | ⟨b, hb, rfl⟩
  · refine gc_xvA ho ?_
    unfold wpY_edge
    dsimp only
    refine gc_ygB hg ?_
    refine gc_yvB ha ?_
    exact gc_yvA ho ⟨rfl, I⟩
  refine gc_xvB hb ?_
  by_cases hn : a = b
  · subst hn
    refine br_t rfl ?_
    unfold wpY_edge
    dsimp only
    refine gc_ygB hg ?_
    refine gc_yvB ha ?_
    refine gc_yvB ha ?_
    exact br_t rfl ⟨rfl, I⟩
  have hn' : ¬ nI a = nI b := by
    rw [nI_eq (by omega) (by omega)]
    exact hn
  refine br_f hn' ?_
  refine gc_xpb ha hb hn ?_
  obtain ⟨hH, hC, hE, hK⟩ := I.2 g hg
  have hl := gc_pb_lt ha hb hn
  have he : ed (g * 36 + 6 * a + b) = gc_r1 (ac g) (gc_pb a b) := hE a ha b hb hn
  have h01 : ed (g * 36 + 6 * a + b) = 0 ∨ ed (g * 36 + 6 * a + b) = 1 := by
    rw [he]
    exact gc_r1_01 _ (by omega)
  have hi : vp_in (nI g) 2 := vp_in_nI hg (by omega)
  have fe : ∀ j, (j < g * 36 ∨ g * 36 + 36 ≤ j) → upd (upd ed (g * 36 + 6 * a + b) t) (g * 36 + 6 * b + a) t j = ed j := fun j hj => by
    rw [pk_un (by omega), pk_un (by omega)]
  refine ⟨hi, nm_r (e' := ac g) (by rw [nI_clamp (by omega)]) ?_⟩
  rcases ht with rfl | rfl
  · refine br_t rfl ⟨hi, nm_r (e' := upd ac g (ac g &&& (((1 : Int32) <<< (nI (gc_pb a b) &&& 31)) ^^^ (-1)))) (by rw [nI_clamp (by omega)]) ?_⟩
    refine gc_yed hg ha hb hn (Or.inl rfl) h01 ⟨he, ?_⟩
    have ho : ∀ i, i < 32 → i ≠ gc_pb a b → bt (ac g &&& (((1 : Int32) <<< (nI (gc_pb a b) &&& 31)) ^^^ (-1))) i = bt (ac g) i := fun i hi hne => by
      rw [gc_bclr _ (by omega) hi]
      simp [hne]
    refine gc_I_u I (gc_H_and _ hH) (gc_edC hl hC fun i hi hne => ho i (by omega) hne) (gc_edE ha hb hn hE ?_ fun i hi hne => ho i (by omega) hne) (fun _ _ => rfl) fe pk_us (fun j hj => pk_un hj)
    rw [gc_r1_if _ (by omega), gc_bclr _ (by omega) (by omega)]
    simp
  · refine br_f gc_10 ⟨hi, nm_r (e' := upd ac g (ac g ||| ((1 : Int32) <<< (nI (gc_pb a b) &&& 31)))) (by rw [nI_clamp (by omega)]) ?_⟩
    refine gc_yed hg ha hb hn (Or.inr rfl) h01 ⟨he, ?_⟩
    have ho : ∀ i, i < 32 → i ≠ gc_pb a b → bt (ac g ||| ((1 : Int32) <<< (nI (gc_pb a b) &&& 31))) i = bt (ac g) i := fun i hi hne => by
      rw [gc_bset _ (by omega) hi]
      simp [hne]
    refine gc_I_u I (fun i hi => ?_) (gc_edC hl hC fun i hi hne => ho i (by omega) hne) (gc_edE ha hb hn hE ?_ fun i hi hne => ho i (by omega) hne) (fun _ _ => rfl) fe pk_us (fun j hj => pk_un hj)
    · rcases Nat.lt_or_ge i 32 with z | z
      · rw [ho i z (by omega)]; exact hH i hi
      · exact b_big z
    · rw [gc_r1_if _ (by omega), gc_bset _ (by omega) (by omega)]
      simp
/-! colour -/
theorem gc_bcol (x : Int32) {c k i : Nat} (hc : c < 30) (hk : k < 4) (hi : i < 32) : bt ((x &&& (((3 : Int32) <<< (nI c &&& 31)) ^^^ (-1))) ||| (nI k <<< (nI c &&& 31))) i = if c ≤ i ∧ i < c + 2 then bt (nI k) (i - c) else bt x i := by
  have hs : ∀ k, k < 4 → ∀ i, i < 32 → 2 ≤ i → bt (nI k) i = false := by decide +kernel
  rw [b_or, b_and, b_xor, b_shl c (by omega) _ hi, b_shl c (by omega) _ hi, gc_bm1 i hi, gc_b3]
  by_cases h1 : c ≤ i
  · by_cases h2 : i < c + 2
    · rw [if_pos ⟨h1, h2⟩]
      simp [h1, show i - c < 2 by omega]
    · rw [if_neg (fun z => h2 z.2), hs k hk (i - c) (by omega) (by omega)]
      simp [show ¬ i - c < 2 by omega]
  · rw [if_neg (fun z => h1 z.1)]
    simp [h1]
theorem i_vc_colour {k : Nat} {u : SX} {v : SY} (I : i_Rel k u v) (hk : k + 5 ≤ 2560) (v1 : Int32) (v2 : Int32) (v3 : Int32) : wpX_colour (fun r u' => wpY_colour (fun r' v' => r' = r ∧ i_Rel (k + 5) u' v') v v1 v2 v3) u v1 v2 v3 := by
  obtain ⟨ac, ar⟩ := u
  obtain ⟨cl, ed, rn, cd, kn⟩ := v
  replace I : gc_I ac ar cl ed cd kn := I
  unfold wpX_colour
  dsimp only
  rcases gc_cs v1 (N := 2) (by decide) with ho | ⟨g, hg, rfl⟩
  · refine gc_xgA ho ?_
    unfold wpY_colour
    dsimp only
    exact gc_ygA ho ⟨rfl, I⟩
  refine gc_xgB hg ?_
  rcases gc_cs v2 (N := 6) (by decide) with ho | ⟨a, ha, rfl⟩
  · refine gc_xvA ho ?_
    unfold wpY_colour
    dsimp only
    refine gc_ygB hg ?_
    exact gc_yvA ho ⟨rfl, I⟩
  refine gc_xvB ha ?_
  rcases gc_cs v3 (N := 4) (by decide) with (ho | ho) | ⟨c, hc, rfl⟩
  · refine br_t ho ?_
    unfold wpY_colour
    dsimp only
    refine gc_ygB hg ?_
    refine gc_yvB ha ?_
    exact br_t ho ⟨rfl, I⟩
  · have h0 := gc_ge0 (by decide) ho
    have h3 : ¬ v3 ≤ 3 := Int32.not_le.mpr (Int32.lt_of_lt_of_le (by decide : (3 : Int32) < nI 4) ho)
    refine br_f h0 (br_f (Int32.not_lt.mpr ho) ?_)
    unfold wpY_colour
    dsimp only
    refine gc_ygB hg ?_
    refine gc_yvB ha ?_
    exact br_f h0 (br_f h3 ⟨rfl, I⟩)
  have h0 : ¬ nI c < 0 := nI_pos (by omega)
  refine br_f h0 (br_t (nI_lt (b := 4) hc (by omega)) ?_)
  refine gc_xcb ha ?_
  obtain ⟨hH, hC, hE, hK⟩ := I.2 g hg
  have hl := gc_cb_lt ha
  have hi : vp_in (nI g) 2 := vp_in_nI hg (by omega)
  refine ⟨hi, nm_r (e' := ac g) (by rw [nI_clamp (by omega)]) ⟨hi, nm_r (e' := upd ac g ((ac g &&& (((3 : Int32) <<< (nI (gc_cb a) &&& 31)) ^^^ (-1))) ||| (nI c <<< (nI (gc_cb a) &&& 31)))) (by rw [nI_clamp (by omega)]) ?_⟩⟩
  unfold wpY_colour
  dsimp only
  refine gc_ygB hg ?_
  refine gc_yvB ha ?_
  refine br_f h0 (br_t (nI_le (b := 3) (by omega) (by omega)) ⟨gc_n6 hg ha, nm_r (e' := gc_r3 (ac g) (gc_cb a)) (by rw [gc_c6 hg ha]; exact hC a ha) ⟨gc_n6 hg ha, nm_r (e' := upd cl (g * 6 + a) (nI c)) (by rw [gc_c6 hg ha]) ⟨hi, nm_r (e' := upd kn g 0) (by rw [nI_clamp (by omega), gc_nar0]) ⟨rfl, ?_⟩⟩⟩⟩)
  have hb := fun i (hi : i < 32) => gc_bcol (ac g) (c := gc_cb a) (k := c) (i := i) (by omega) hc hi
  generalize ((ac g &&& (((3 : Int32) <<< (nI (gc_cb a) &&& 31)) ^^^ (-1))) ||| (nI c <<< (nI (gc_cb a) &&& 31))) = y at hb
  show gc_I (upd ac g y) ar (upd cl (g * 6 + a) (nI c)) ed cd (upd kn g 0)
  refine gc_I_u I (fun i hi => ?_) (fun b hb6 => ?_) (fun p hp q hq hn => ?_) (fun j hj => pk_un (by omega)) (fun _ _ => rfl) pk_us (fun j hj => pk_un hj)
  · rcases Nat.lt_or_ge i 32 with z | z
    · rw [hb i z, if_neg (by omega)]; exact hH i hi
    · exact b_big z
  · have hl2 := gc_cb_lt hb6
    by_cases e : b = a
    · subst e
      rw [pk_us]
      apply b_ext
      intro i hi
      rw [gc_bt_r3 y (by omega)]
      by_cases z : i < 2
      · rw [hb _ (by omega), if_pos (by omega), Nat.add_sub_cancel_left]
        simp [z]
      · rw [(by decide +kernel : ∀ k, k < 4 → ∀ i, i < 32 → 2 ≤ i → bt (nI k) i = false) c hc i hi (by omega)]
        simp [z]
    · rw [pk_un (by omega), hC b hb6]
      have e2 : gc_cb b + 1 < gc_cb a ∨ gc_cb a + 1 < gc_cb b := by
        unfold gc_cb
        omega
      refine gc_r3_eq (by omega) (by omega) ?_ ?_
      · rw [hb _ (by omega), if_neg (by omega)]
      · rw [hb _ (by omega), if_neg (by omega)]
  · have hl2 := gc_pb_lt hp hq hn
    rw [hE p hp q hq hn]
    refine gc_r1_eq (by omega) (by omega) ?_
    rw [hb _ (by omega), if_neg (by omega)]
