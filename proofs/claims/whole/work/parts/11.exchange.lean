/-! exchange -/
theorem gc_sw_l (u w : Nat) : gc_sw u w u = w := if_pos rfl
theorem gc_sw_r (u w : Nat) : gc_sw u w w = u := by
  unfold gc_sw
  by_cases h : w = u
  · rw [if_pos h, h]
  · rw [if_neg h, if_pos rfl]
theorem gc_sw_n {u w k : Nat} (h1 : k ≠ u) (h2 : k ≠ w) : gc_sw u w k = k := (if_neg h1).trans (if_neg h2)
/-- the bits of the code after an exchange -/
theorem gc_bt_sw {u w : Nat} (hu : u < 6) (hw : w < 6) (x : Int32) {i : Nat} (hi : i < 27) : bt (gc_act (gc_sw u w) x) i = bt x (gc_bp (gc_sw u w) i) := by
  have hP := gc_sw_P hu hw
  have inv : ∀ s, s < 27 → gc_bp (gc_sw u w) (gc_bp (gc_sw u w) s) = s := fun s hs => by
    rw [gc_bp_comp hP hs, gc_bp_congr (g := fun v => v) (fun v _ => gc_sw_sw u w v) hs, gc_bp_id hs]
  apply gc_beq
  rw [gc_bt_act hP x (by omega)]
  constructor
  · rintro ⟨s, hs, hb, e⟩
    rw [← e, inv s hs]
    exact hb
  · intro h
    exact ⟨gc_bp (gc_sw u w) i, gc_bp_lt hP hi, h, inv i hi⟩
def gc_ix (u w k a b : Nat) : Nat := if ((a = u ∨ a = w) ∧ ¬ (b = u ∨ b = w) ∧ b < k) ∨ ((b = u ∨ b = w) ∧ ¬ (a = u ∨ a = w) ∧ a < k) then gc_pb (gc_sw u w a) (gc_sw u w b) else gc_pb a b
theorem gc_ix_6 {u w a b : Nat} (ha : a < 6) (hb : b < 6) (hn : a ≠ b) : gc_ix u w 6 a b = gc_pb (gc_sw u w a) (gc_sw u w b) := by
  unfold gc_ix
  by_cases c : ((a = u ∨ a = w) ∧ ¬ (b = u ∨ b = w) ∧ b < 6) ∨ ((b = u ∨ b = w) ∧ ¬ (a = u ∨ a = w) ∧ a < 6)
  · rw [if_pos c]
  · rw [if_neg c]
    by_cases h1 : a = u ∨ a = w
    · have h2 : b = u ∨ b = w := Classical.byContradiction fun z => c (Or.inl ⟨h1, z, hb⟩)
      rcases h1 with rfl | rfl <;> rcases h2 with rfl | rfl
      · exact absurd rfl hn
      · rw [gc_sw_l, gc_sw_r, gc_pb_comm]
      · rw [gc_sw_l, gc_sw_r, gc_pb_comm]
      · exact absurd rfl hn
    · have h2 : ¬ (b = u ∨ b = w) := fun z => c (Or.inr ⟨z, h1, ha⟩)
      rw [gc_sw_n (fun z => h1 (Or.inl z)) (fun z => h1 (Or.inr z)), gc_sw_n (fun z => h2 (Or.inl z)) (fun z => h2 (Or.inr z))]
theorem gc_ix_0 (u w a b : Nat) : gc_ix u w 0 a b = gc_pb a b := if_neg (by omega)
theorem gc_ix_k {u w k a b : Nat} (hk : k = u ∨ k = w) : gc_ix u w (k + 1) a b = gc_ix u w k a b := by
  unfold gc_ix
  by_cases c : ((a = u ∨ a = w) ∧ ¬ (b = u ∨ b = w) ∧ b < k) ∨ ((b = u ∨ b = w) ∧ ¬ (a = u ∨ a = w) ∧ a < k)
  · rw [if_pos c, if_pos (by omega)]
  · rw [if_neg c, if_neg (by omega)]
theorem gc_ix_o {u w k a b : Nat} (h : ¬ (a = k ∧ (b = u ∨ b = w))) (h' : ¬ (b = k ∧ (a = u ∨ a = w))) : gc_ix u w (k + 1) a b = gc_ix u w k a b := by
  unfold gc_ix
  by_cases c : ((a = u ∨ a = w) ∧ ¬ (b = u ∨ b = w) ∧ b < k) ∨ ((b = u ∨ b = w) ∧ ¬ (a = u ∨ a = w) ∧ a < k)
  · rw [if_pos c, if_pos (by omega)]
  · rw [if_neg c, if_neg (by omega)]
theorem gc_ix_s {u w k a : Nat} (hk1 : k ≠ u) (hk2 : k ≠ w) (ha : a = u ∨ a = w) : gc_ix u w (k + 1) a k = gc_pb (gc_sw u w a) k := by
  unfold gc_ix
  rw [if_pos (by omega), gc_sw_n hk1 hk2]
theorem gc_ix_c (u w k a b : Nat) : gc_ix u w k a b = gc_ix u w k b a := by
  unfold gc_ix
  by_cases c : ((a = u ∨ a = w) ∧ ¬ (b = u ∨ b = w) ∧ b < k) ∨ ((b = u ∨ b = w) ∧ ¬ (a = u ∨ a = w) ∧ a < k)
  · rw [if_pos c, if_pos (by omega), gc_pb_comm]
  · rw [if_neg c, if_neg (by omega), gc_pb_comm]
theorem gc_ix_z {u w k a : Nat} (ha : a = u ∨ a = w) : gc_ix u w k a k = gc_pb a k := if_neg (by omega)
theorem gc_ix_lt {u w k a b : Nat} (hu : u < 6) (hw : w < 6) (ha : a < 6) (hb : b < 6) (hn : a ≠ b) : gc_ix u w k a b < 15 := by
  unfold gc_ix
  split
  · exact gc_pb_lt (gc_sw_lt hu hw ha) (gc_sw_lt hu hw hb) (gc_P_ne (gc_sw_P hu hw) ha hb hn)
  · exact gc_pb_lt ha hb hn
section
variable {ac ar cl ed rn cd kn : Nat → Int32}
theorem gc_yex {post : Int32 → SY → Prop} {x : Int32} {g u w : Nat} (hg : g < 2) (hu : u < 6) (hw : w < 6) (hE : gc_GE x ed g)
    (h : ∀ ed' kn' : Nat → Int32, (∀ a, a < 6 → ∀ b, b < 6 → a ≠ b → ed' (g * 36 + 6 * a + b) = gc_r1 x (gc_pb (gc_sw u w a) (gc_sw u w b))) → (∀ j, (j < g * 36 ∨ g * 36 + 36 ≤ j) → ed' j = ed j) → kn' g = 0 → (∀ j, j ≠ g → kn' j = kn j) → post 0 (cl, ed', rn, cd, kn')) : ∃ n, wY_exchange_80 post (nI g) (nI u) (nI w) n 0 cl ed rn cd kn := by
  have key : ∀ (d k : Nat) (ed' kn' : Nat → Int32) (m : Nat), k + d = 6 → d < m → (∀ a, a < 6 → ∀ b, b < 6 → a ≠ b → ed' (g * 36 + 6 * a + b) = gc_r1 x (gc_ix u w k a b)) → (∀ j, (j < g * 36 ∨ g * 36 + 36 ≤ j) → ed' j = ed j) → (∀ j, j ≠ g → kn' j = kn j) → wY_exchange_80 post (nI g) (nI u) (nI w) m (nI k) cl ed' rn cd kn' := by
    intro d
    induction d with
    | zero =>
      intro k ed' kn' m hv hm h1 h2 h3
      obtain ⟨m, rfl⟩ : ∃ k, m = k + 1 := ⟨m - 1, by omega⟩
      obtain rfl : k = 6 := by omega
      refine br_t (nI_le (a := 6) (b := 6) (by omega) (by omega)) ⟨vp_in_nI hg (by omega), nm_r (e' := upd kn' g 0) (by rw [nI_clamp (by omega), gc_nar0]) (h ed' _ (fun a ha b hb hn => ?_) h2 pk_us (fun j hj => ?_))⟩
      · rw [h1 a ha b hb hn, gc_ix_6 ha hb hn]
      · rw [pk_un hj]; exact h3 j hj
    | succ d ih =>
      intro k ed' kn' m hv hm h1 h2 h3
      obtain ⟨m, rfl⟩ : ∃ k, m = k + 1 := ⟨m - 1, by omega⟩
      have hk : k < 6 := by omega
      refine br_f (nI_ge (b := 6) (by omega) (by omega)) ⟨gc_n66 hg hu hk, nm_r (e' := ed' (g * 36 + 6 * u + k)) (by rw [gc_c66 hg hu hk]) ⟨gc_n66 hg hw hk, nm_r (e' := ed' (g * 36 + 6 * w + k)) (by rw [gc_c66 hg hw hk]) ?_⟩⟩
      by_cases c1 : k = u
      · refine br_t (by rw [c1]) (nm_r (nI_1 k) (ih (k + 1) ed' kn' m (by omega) (by omega) (fun a ha b hb hn => ?_) h2 h3))
        rw [gc_ix_k (Or.inl c1)]; exact h1 a ha b hb hn
      refine br_f (fun z => c1 ((nI_eq (by omega) (by omega)).mp z)) ?_
      by_cases c2 : k = w
      · refine br_t (by rw [c2]) (nm_r (nI_1 k) (ih (k + 1) ed' kn' m (by omega) (by omega) (fun a ha b hb hn => ?_) h2 h3))
        rw [gc_ix_k (Or.inr c2)]; exact h1 a ha b hb hn
      refine br_f (fun z => c2 ((nI_eq (by omega) (by omega)).mp z)) ?_
      have eu : ed' (g * 36 + 6 * u + k) = gc_r1 x (gc_pb u k) := by
        rw [h1 u hu k hk (fun z => c1 z.symm), gc_ix_z (Or.inl rfl)]
      have ew : ed' (g * 36 + 6 * w + k) = gc_r1 x (gc_pb w k) := by
        rw [h1 w hw k hk (fun z => c2 z.symm), gc_ix_z (Or.inr rfl)]
      have lu := gc_pb_lt hu hk (fun z => c1 z.symm)
      have lw := gc_pb_lt hw hk (fun z => c2 z.symm)
      have u01 := gc_r1_01 x (s := gc_pb u k) (by omega)
      have w01 := gc_r1_01 x (s := gc_pb w k) (by omega)
      refine gc_yed hg hu hk (fun z => c1 z.symm) (by rw [ew]; exact w01) (by rw [eu]; exact u01) ?_
      dsimp only
      refine gc_yed hg hw hk (fun z => c2 z.symm) (by rw [eu]; exact u01) ?_ ?_
      · by_cases c3 : u = w
        · subst c3
          rw [pk_un (by omega), pk_us, ew]; exact w01
        · rw [pk_un (by omega), pk_un (by omega), ew]; exact w01
      dsimp only
      rw [eu, ew]
      refine nm_r (nI_1 k) (ih (k + 1) _ _ m (by omega) (by omega) (fun a ha b hb hn => ?_) (fun j hj => ?_) (fun j hj => ?_))
      · by_cases d1 : a = k ∧ b = w
        · obtain ⟨rfl, rfl⟩ := d1
          rw [pk_us, gc_ix_c, gc_ix_s c1 c2 (Or.inr rfl), gc_sw_r]
        rw [pk_un (by omega)]
        by_cases d2 : a = w ∧ b = k
        · obtain ⟨rfl, rfl⟩ := d2
          rw [pk_us, gc_ix_s c1 c2 (Or.inr rfl), gc_sw_r]
        rw [pk_un (by omega)]
        by_cases d3 : a = k ∧ b = u
        · obtain ⟨rfl, rfl⟩ := d3
          rw [pk_us, gc_ix_c, gc_ix_s c1 c2 (Or.inl rfl), gc_sw_l]
        rw [pk_un (by omega)]
        by_cases d4 : a = u ∧ b = k
        · obtain ⟨rfl, rfl⟩ := d4
          rw [pk_us, gc_ix_s c1 c2 (Or.inl rfl), gc_sw_l]
        rw [pk_un (by omega), gc_ix_o (by omega) (by omega)]
        exact h1 a ha b hb hn
      · rw [pk_un (by omega), pk_un (by omega), pk_un (by omega), pk_un (by omega)]
        exact h2 j hj
      · rw [pk_un hj, pk_un hj]
        exact h3 j hj
  exact ⟨7, key 6 0 ed kn 7 (by omega) (by omega) (fun a ha b hb hn => by rw [gc_ix_0]; exact hE a ha b hb hn) (fun j _ => rfl) (fun j _ => rfl)⟩
end
theorem i_vc_exchange {k : Nat} {u : SX} {v : SY} (I : i_Rel k u v) (hk : k + 5 ≤ 2560) (v1 : Int32) (v2 : Int32) (v3 : Int32) : wpX_exchange (fun r u' => wpY_exchange (fun r' v' => r' = r ∧ i_Rel (k + 5) u' v') v v1 v2 v3) u v1 v2 v3 := by
  obtain ⟨ac, ar⟩ := u
  obtain ⟨cl, ed, rn, cd, kn⟩ := v
  replace I : gc_I ac ar cl ed cd kn := I
  unfold wpX_exchange
  dsimp only
  rcases gc_cs v1 (N := 2) (by decide) with ho | ⟨g, hg, rfl⟩
  · refine gc_xgA ho ?_
    unfold wpY_exchange
    dsimp only
    exact gc_ygA ho ⟨rfl, I⟩
  refine gc_xgB hg ?_
  rcases gc_cs v2 (N := 6) (by decide) with ho | ⟨a, ha, rfl⟩
  · refine gc_xvA ho ?_
    unfold wpY_exchange
    dsimp only
    refine gc_ygB hg ?_
    exact gc_yvA ho ⟨rfl, I⟩
  refine gc_xvB ha ?_
  rcases gc_cs v3 (N := 6) (by decide) with ho | ⟨b, hb, rfl⟩
  · refine gc_xvA ho ?_
    unfold wpY_exchange
    dsimp only
    refine gc_ygB hg ?_
    refine gc_yvB ha ?_
    exact gc_yvA ho ⟨rfl, I⟩
  refine gc_xvB hb ?_
  obtain ⟨hH, hC, hE, hK⟩ := I.2 g hg
  have hi : vp_in (nI g) 2 := vp_in_nI hg (by omega)
  have hP := gc_sw_P ha hb
  refine gc_xsw ha hb fun p hp => ⟨hi, ?_⟩
  refine gc_xren hP hp ⟨hi, nm_r (e' := upd ac g (gc_act (gc_sw a b) (ac g))) (by rw [nI_clamp (by omega)]) ?_⟩
  unfold wpY_exchange
  dsimp only
  refine gc_ygB hg ?_
  refine gc_yvB ha ?_
  refine gc_yvB hb ?_
  have na := gc_n6 hg ha
  have nb := gc_n6 hg hb
  refine ⟨na, nm_r (e' := gc_r3 (ac g) (gc_cb a)) (by rw [gc_c6 hg ha]; exact hC a ha) ⟨nb, na, nm_r (e' := upd cl (g * 6 + a) (gc_r3 (ac g) (gc_cb b))) (by rw [gc_c6 hg ha, gc_c6 hg hb, hC b hb]) ⟨nb, nm_r (e' := upd (upd cl (g * 6 + a) (gc_r3 (ac g) (gc_cb b))) (g * 6 + b) (gc_r3 (ac g) (gc_cb a))) (by rw [gc_c6 hg hb]) ?_⟩⟩⟩
  refine gc_yex hg ha hb hE fun ed' kn' h1 h2 h3 h4 => ⟨rfl, ?_⟩
  show gc_I (upd ac g (gc_act (gc_sw a b) (ac g))) ar (upd (upd cl (g * 6 + a) (gc_r3 (ac g) (gc_cb b))) (g * 6 + b) (gc_r3 (ac g) (gc_cb a))) ed' cd kn'
  refine gc_I_u I (gc_act_H hP _) (fun v hv => ?_) (fun p hp q hq hn => ?_) (fun j hj => ?_) h2 h3 h4
  · have l1 := gc_cb_lt hv
    have l2 := gc_cb_lt (hP.1 v hv)
    have e : gc_r3 (gc_act (gc_sw a b) (ac g)) (gc_cb v) = gc_r3 (ac g) (gc_cb (gc_sw a b v)) := by
      refine gc_r3_eq (by omega) (by omega) ?_ ?_
      · have z := gc_bp_cb (f := gc_sw a b) (j := 0) hv (by omega)
        rw [Nat.add_zero, Nat.add_zero] at z
        rw [gc_bt_sw ha hb _ (by omega), z]
      · rw [gc_bt_sw ha hb _ (by omega), gc_bp_cb hv (by omega)]
    rw [e]
    by_cases c1 : v = b
    · subst c1
      rw [pk_us, gc_sw_r]
    · rw [pk_un (by omega)]
      by_cases c2 : v = a
      · subst c2
        rw [pk_us, gc_sw_l]
      · rw [pk_un (by omega), gc_sw_n c2 c1]
        exact hC v hv
  · have l1 := gc_pb_lt hp hq hn
    have l2 := gc_pb_lt (hP.1 p hp) (hP.1 q hq) (gc_P_ne hP hp hq hn)
    rw [h1 p hp q hq hn]
    refine gc_r1_eq (by omega) (by omega) ?_
    rw [gc_bt_sw ha hb _ (by omega), gc_bp_pb hp hq hn]
  · rw [pk_un (by omega), pk_un (by omega)]
