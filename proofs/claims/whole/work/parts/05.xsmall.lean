/-! the component's small methods -/
theorem gc_cs (x : Int32) {N : Nat} (hN : N < 2 ^ 31) : (x < 0 ∨ nI N ≤ x) ∨ ∃ j, j < N ∧ x = nI j := by
  rcases pk_ix x hN with h | h | h
  · exact Or.inl (Or.inl h)
  · exact Or.inl (Or.inr h)
  · exact Or.inr h
theorem gc_ge0 {x : Int32} {N : Nat} (hN : N < 2 ^ 31) (h : nI N ≤ x) : ¬ x < 0 :=
  Int32.not_lt.mpr (Int32.le_trans (nI_pos' hN) h)
theorem gc_xg {F : Int32 → Prop} {g : Nat} (hg : g < 2) (h : F 1) : wpX_isGraph F (nI g) := br_f (nI_pos (by omega)) (br_f (nI_ge (b := 2) hg (by decide)) h)
theorem gc_xg_o {F : Int32 → Prop} {x : Int32} (hx : x < 0 ∨ nI 2 ≤ x) (h : F 0) : wpX_isGraph F x := by
  rcases hx with hx | hx
  · exact br_t hx h
  · exact br_f (gc_ge0 (by decide) hx) (br_t hx h)
theorem gc_xv {F : Int32 → Prop} {g : Nat} (hg : g < 6) (h : F 1) : wpX_isVertex F (nI g) := br_f (nI_pos (by omega)) (br_f (nI_ge (b := 6) hg (by decide)) h)
theorem gc_xv_o {F : Int32 → Prop} {x : Int32} (hx : x < 0 ∨ nI 6 ≤ x) (h : F 0) : wpX_isVertex F x := by
  rcases hx with hx | hx
  · exact br_t hx h
  · exact br_f (gc_ge0 (by decide) hx) (br_t hx h)
theorem gc_pbX : ∀ a, a < 6 → ∀ b, b < 6 → b < a → (14 : Int32) - ((((nI b * (11 - nI b)) / 2 + nI a) - nI b) - 1) = nI (gc_pb a b) := by decide +kernel
theorem gc_cbX : ∀ v, v < 6 → (25 : Int32) - 2 * nI v = nI (gc_cb v) := by decide +kernel
theorem gc_xpb {F : Int32 → Prop} {a b : Nat} (ha : a < 6) (hb : b < 6) (hn : a ≠ b) (h : F (nI (gc_pb a b))) : wpX_pairBit F (nI a) (nI b) := by
  rcases Nat.lt_or_gt_of_ne hn with hl | hl
  · refine br_f (nI_ge hl (by omega)) (br_f (nI_ge hl (by omega)) ⟨by decide, nm_e (nm_e ?_)⟩)
    rw [gc_pbX b hb a ha hl, gc_pb_comm]
    exact h
  · refine br_t (nI_le (by omega) (by omega)) (br_t (nI_le (by omega) (by omega)) ⟨by decide, nm_e (nm_e ?_)⟩)
    rw [gc_pbX a ha b hb hl]
    exact h
/-- p is the packed renumbering f -/
def gc_R (p : Int32) (f : Nat → Nat) : Prop := ∀ w, w < 6 → (p >>> ((3 * nI w) &&& 31)) &&& 7 = nI (f w)
theorem gc_xnum {F : Int32 → Prop} {p : Int32} {f : Nat → Nat} {w : Nat} (hp : gc_R p f) (hw : w < 6) (h : F (nI (f w))) : wpX_numberOf F p (nI w) := by
  unfold wpX_numberOf
  rw [hp w hw]
  exact h
theorem gc_xcb {F : Int32 → Prop} {v : Nat} (hv : v < 6) (h : F (nI (gc_cb v))) : wpX_colourBit F (nI v) := by
  unfold wpX_colourBit
  rw [gc_cbX v hv]
  exact h
/-! renumbered -/
def gc_in (x : Int32) (f : Nat → Nat) (u : Nat) (r : Int32) (l : List Nat) : Int32 := l.foldl (fun r w => r ||| gc_ob x (gc_pb u w) (gc_pb (f u) (f w))) r
def gc_ou (x : Int32) (f : Nat → Nat) (r : Int32) (l : List Nat) : Int32 := l.foldl (fun r u => gc_in x f u (r ||| gc_oc x (gc_cb u) (gc_cb (f u))) (List.range' (u + 1) (5 - u))) r
theorem gc_xin {post : Int32 → Prop} {J4 : Int32 → Int32 → Prop} {x p : Int32} {f : Nat → Nat} (hf : gc_P f) (hp : gc_R p f) {u : Nat} (hu : u < 6) : ∀ (d v : Nat) (r : Int32) (n : Nat), v + d = 6 → u < v → d < n → J4 (gc_in x f u r (List.range' v d)) (nI (u + 1)) → wX_renumbered_43 post J4 x p (nI u) (nI (f u)) n r (nI v) := by
  intro d
  induction d with
  | zero =>
    intro v r n hv _ hn h
    obtain ⟨n, rfl⟩ : ∃ m, n = m + 1 := ⟨n - 1, by omega⟩
    obtain rfl : v = 6 := by omega
    exact br_t (nI_le (a := 6) (b := 6) (by omega) (by omega)) (nm_r (nI_1 u) h)
  | succ d ih =>
    intro v r n hv huv hn h
    obtain ⟨n, rfl⟩ : ∃ m, n = m + 1 := ⟨n - 1, by omega⟩
    refine br_f (nI_ge (b := 6) (by omega) (by omega)) (gc_xnum hp (by omega) (gc_xpb hu (by omega) (by omega) (nm_e (gc_xpb (hf.1 u hu) (hf.1 v (by omega)) (fun e => ?_) (nm_e (nm_r (nI_1 v) (ih (v + 1) _ n (by omega) (by omega) (by omega) ?_)))))))
    · have := hf.2 u hu v (by omega) e
      omega
    · exact h
theorem gc_xou {post : Int32 → Prop} {x p : Int32} {f : Nat → Nat} (hf : gc_P f) (hp : gc_R p f) : ∀ (d u : Nat) (r : Int32) (n : Nat), u + d = 6 → d < n → post (gc_ou x f r (List.range' u d)) → wX_renumbered_4 post x p n r (nI u) := by
  intro d
  induction d with
  | zero =>
    intro u r n hv hn h
    obtain ⟨n, rfl⟩ : ∃ m, n = m + 1 := ⟨n - 1, by omega⟩
    obtain rfl : u = 6 := by omega
    exact br_t (nI_le (a := 6) (b := 6) (by omega) (by omega)) h
  | succ d ih =>
    intro u r n hv hn h
    obtain ⟨n, rfl⟩ : ∃ m, n = m + 1 := ⟨n - 1, by omega⟩
    exact br_f (nI_ge (b := 6) (by omega) (by omega)) (gc_xnum hp (by omega) (gc_xcb (by omega) (nm_e (gc_xcb (hf.1 u (by omega)) (nm_e (nm_r (nI_1 u) ⟨7, gc_xin hf hp (by omega) (5 - u) (u + 1) _ 7 (by omega) (by omega) (by omega) (ih (u + 1) _ n (by omega) (by omega) h)⟩))))))
theorem gc_bt_ou (x : Int32) (f : Nat → Nat) (i : Nat) : ∀ (l : List Nat) (r : Int32), bt (gc_ou x f r l) i = true ↔ bt r i = true ∨ ∃ u, u ∈ l ∧ (bt (gc_oc x (gc_cb u) (gc_cb (f u))) i = true ∨ ∃ w, w ∈ List.range' (u + 1) (5 - u) ∧ bt (gc_ob x (gc_pb u w) (gc_pb (f u) (f w))) i = true) := by
  intro l
  induction l with
  | nil => intro r; simp [gc_ou]
  | cons a l ih =>
    intro r
    have e : gc_ou x f r (a :: l) = gc_ou x f (gc_in x f a (r ||| gc_oc x (gc_cb a) (gc_cb (f a))) (List.range' (a + 1) (5 - a))) l := rfl
    rw [e, ih]
    unfold gc_in
    rw [gc_fold (fun w => gc_ob x (gc_pb a w) (gc_pb (f a) (f w))), b_or, Bool.or_eq_true]
    constructor
    · rintro (((h | h) | h) | ⟨u, h1, h2⟩)
      · exact Or.inl h
      · exact Or.inr ⟨a, List.mem_cons_self, Or.inl h⟩
      · exact Or.inr ⟨a, List.mem_cons_self, Or.inr h⟩
      · exact Or.inr ⟨u, List.mem_cons_of_mem _ h1, h2⟩
    · rintro (h | ⟨u, h1, h2⟩)
      · exact Or.inl (Or.inl (Or.inl h))
      · rcases List.mem_cons.mp h1 with e | e
        · subst e
          rcases h2 with h2 | h2
          · exact Or.inl (Or.inl (Or.inr h2))
          · exact Or.inl (Or.inr h2)
        · exact Or.inr ⟨u, e, h2⟩
theorem gc_cb_lt {v : Nat} (_ : v < 6) : gc_cb v < 26 ∧ 15 ≤ gc_cb v := by
  unfold gc_cb
  omega
theorem gc_pb_lt {a b : Nat} (ha : a < 6) (hb : b < 6) (h : a ≠ b) : gc_pb a b < 15 := (gc_pbF a ha b hb h).1
theorem gc_P_ne {f : Nat → Nat} (hf : gc_P f) {a b : Nat} (ha : a < 6) (hb : b < 6) (h : a ≠ b) : f a ≠ f b := fun e => h (hf.2 a ha b hb e)
theorem gc_ou_act {f : Nat → Nat} (hf : gc_P f) (x : Int32) : gc_ou x f 0 (List.range' 0 6) = gc_act f x := by
  apply b_ext
  intro i hi
  apply gc_beq
  rw [gc_bt_ou, gc_bt_act hf x hi, b_0]
  constructor
  · rintro (h | ⟨u, h1, h2⟩)
    · exact absurd h (by decide)
    · rw [List.mem_range'_1] at h1
      have hu : u < 6 := by omega
      rcases h2 with h2 | ⟨w, h3, h4⟩
      · have c1 := gc_cb_lt hu
        have c2 := gc_cb_lt (hf.1 u hu)
        rw [gc_bt_oc x (by omega) (by omega) hi] at h2
        obtain ⟨j, hj, hb, e⟩ := h2
        exact ⟨gc_cb u + j, by omega, hb, by rw [gc_bp_cb hu hj, e]⟩
      · rw [List.mem_range'_1] at h3
        have hw : w < 6 := by omega
        have hn : u ≠ w := by omega
        have c1 := gc_pb_lt hu hw hn
        have c2 := gc_pb_lt (hf.1 u hu) (hf.1 w hw) (gc_P_ne hf hu hw hn)
        rw [gc_bt_ob x (by omega) (by omega) hi] at h4
        exact ⟨gc_pb u w, by omega, h4.1, by rw [gc_bp_pb hu hw hn, h4.2]⟩
  · rintro ⟨s, hs, hb, e⟩
    right
    rcases Nat.lt_or_ge s 15 with h1 | h1
    · obtain ⟨a, b, hab, hb6, rfl⟩ := gc_lo_pb h1
      have ha : a < 6 := by omega
      have hn : a ≠ b := by omega
      have c2 := gc_pb_lt (hf.1 a ha) (hf.1 b hb6) (gc_P_ne hf ha hb6 hn)
      refine ⟨a, List.mem_range'_1.mpr (by omega), Or.inr ⟨b, List.mem_range'_1.mpr (by omega), ?_⟩⟩
      rw [gc_bt_ob x (by omega) (by omega) hi]
      exact ⟨hb, by rw [← e, gc_bp_pb ha hb6 hn]⟩
    · obtain ⟨a, j, ha, hj, rfl⟩ := gc_hi_cb h1 hs
      have c1 := gc_cb_lt ha
      have c2 := gc_cb_lt (hf.1 a ha)
      refine ⟨a, List.mem_range'_1.mpr (by omega), Or.inl ?_⟩
      rw [gc_bt_oc x (by omega) (by omega) hi]
      exact ⟨j, hj, hb, by rw [← e, gc_bp_cb ha hj]⟩
theorem gc_xren {post : Int32 → Prop} {x p : Int32} {f : Nat → Nat} (hf : gc_P f) (hp : gc_R p f) (h : post (gc_act f x)) : wpX_renumbered post x p :=
  ⟨7, gc_xou hf hp 6 0 0 7 (by omega) (by omega) (by rw [gc_ou_act hf]; exact h)⟩
/-! packing -/
def gc_K (f : Nat → Nat) (v : Nat) (p : Int32) : Prop := (∀ i, 3 * v ≤ i → bt p i = false) ∧ ∀ w, w < v → (p >>> ((3 * nI w) &&& 31)) &&& 7 = nI (f w)
theorem gc_K_0 (f : Nat → Nat) : gc_K f 0 0 := ⟨fun i _ => b_0 i, fun w h => by omega⟩
theorem gc_b7 (i : Nat) : bt 7 i = decide (i < 3) := by
  rcases Nat.lt_or_ge i 32 with h | h
  · exact (by decide +kernel : ∀ i, i < 32 → bt 7 i = decide (i < 3)) i h
  · rw [b_big h, decide_eq_false (by omega)]
theorem gc_bsm : ∀ m, m < 8 → ∀ i, i < 32 → 3 ≤ i → bt (nI m) i = false := by decide +kernel
theorem gc_3n (v : Nat) : (3 : Int32) * nI v = nI (3 * v) := pk_mul 3 v
theorem gc_bt_r7 (p : Int32) {w : Nat} (hw : w < 6) (i : Nat) : bt ((p >>> ((3 * nI w) &&& 31)) &&& 7) i = (decide (i < 3) && bt p (3 * w + i)) := by
  rw [b_and, gc_b7, gc_3n]
  by_cases h : i < 3
  · rw [b_sshr (3 * w) (by omega) p (by omega), if_pos (by omega)]
    simp [h]
  · simp [h]
theorem gc_K_s {f : Nat → Nat} {v : Nat} {p : Int32} (hv : v < 6) (hm : f v < 8) (h : gc_K f v p) : gc_K f (v + 1) (p ||| (nI (f v) <<< ((3 * nI v) &&& 31))) := by
  constructor
  · intro i hi
    rcases Nat.lt_or_ge i 32 with h3 | h3
    · rw [b_or, h.1 i (by omega), gc_3n, b_shl (3 * v) (by omega) _ h3, gc_bsm _ hm (i - 3 * v) (by omega) (by omega)]
      simp
    · exact b_big h3
  · intro w hw
    rcases (show w < v ∨ w = v by omega) with z | z
    · rw [← h.2 w z]
      apply b_ext
      intro i hi
      rw [gc_bt_r7 _ (by omega), gc_bt_r7 _ (by omega)]
      by_cases c : i < 3
      · rw [b_or, gc_3n, b_shl (3 * v) (by omega) _ (by omega), decide_eq_false (by omega : ¬ 3 * v ≤ 3 * w + i)]
        simp
      · simp [c]
    · subst z
      apply b_ext
      intro i hi
      rw [gc_bt_r7 _ (by omega)]
      by_cases c : i < 3
      · rw [b_or, h.1 _ (by omega), gc_3n, b_shl (3 * w) (by omega) _ (by omega), Nat.add_sub_cancel_left]
        simp [c]
      · rw [gc_bsm _ hm i hi (by omega)]
        simp [c]
def gc_sw (a b w : Nat) : Nat := if w = a then b else if w = b then a else w
theorem gc_sw_lt {a b w : Nat} (ha : a < 6) (hb : b < 6) (hw : w < 6) : gc_sw a b w < 6 := by
  unfold gc_sw
  split
  · exact hb
  · split
    · exact ha
    · exact hw
theorem gc_sw_sw (a b w : Nat) : gc_sw a b (gc_sw a b w) = w := by
  unfold gc_sw
  by_cases h1 : w = a
  · rw [if_pos h1]
    by_cases h3 : b = a
    · rw [if_pos h3]; omega
    · rw [if_neg h3, if_pos rfl]; omega
  · rw [if_neg h1]
    by_cases h2 : w = b
    · rw [if_pos h2, if_pos rfl]; omega
    · rw [if_neg h2, if_neg h1, if_neg h2]
theorem gc_sw_P {a b : Nat} (ha : a < 6) (hb : b < 6) : gc_P (gc_sw a b) :=
  ⟨fun _ hv => gc_sw_lt ha hb hv, fun v _ w _ e => by rw [← gc_sw_sw a b v, e, gc_sw_sw]⟩
theorem gc_xsw {post : Int32 → Prop} {a b : Nat} (ha : a < 6) (hb : b < 6) (h : ∀ p, gc_R p (gc_sw a b) → post p) : wpX_swapOf post (nI a) (nI b) := by
  have key : ∀ (d v : Nat) (p : Int32) (n : Nat), v + d = 6 → d < n → gc_K (gc_sw a b) v p → wX_swapOf_4 post (nI a) (nI b) n p (nI v) := by
    intro d
    induction d with
    | zero =>
      intro v p n hv hn hk
      obtain ⟨n, rfl⟩ : ∃ m, n = m + 1 := ⟨n - 1, by omega⟩
      obtain rfl : v = 6 := by omega
      exact br_t (nI_le (a := 6) (b := 6) (by omega) (by omega)) (h p hk.2)
    | succ d ih =>
      intro v p n hv hn hk
      obtain ⟨n, rfl⟩ : ∃ m, n = m + 1 := ⟨n - 1, by omega⟩
      have hs := gc_K_s (by omega) (by have := gc_sw_lt ha hb (show v < 6 by omega); omega) hk
      refine br_f (nI_ge (b := 6) (by omega) (by omega)) (pk_eq v a (fun e => ?_) (fun e => pk_eq v b (fun e2 => ?_) (fun e2 => ?_)))
      · rw [show gc_sw a b v = b from if_pos e] at hs
        exact nm_e (nm_r (nI_1 v) (ih (v + 1) _ n (by omega) (by omega) hs))
      · rw [show gc_sw a b v = a from (if_neg e).trans (if_pos e2)] at hs
        exact nm_e (nm_r (nI_1 v) (ih (v + 1) _ n (by omega) (by omega) hs))
      · rw [show gc_sw a b v = v from (if_neg e).trans (if_neg e2)] at hs
        exact nm_e (nm_r (nI_1 v) (ih (v + 1) _ n (by omega) (by omega) hs))
  exact ⟨7, key 6 0 0 7 (by omega) (by omega) (gc_K_0 _)⟩
