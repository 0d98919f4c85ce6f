/-! a renumbering moves the 27 bits of a code -/
def gc_ob (x : Int32) (s t : Nat) : Int32 := ((x >>> (nI s &&& 31)) &&& 1) <<< (nI t &&& 31)
def gc_oc (x : Int32) (s t : Nat) : Int32 := ((x >>> (nI s &&& 31)) &&& 3) <<< (nI t &&& 31)
def gc_act (f : Nat → Nat) (x : Int32) : Int32 := (List.range 27).foldl (fun r s => r ||| gc_ob x s (gc_bp f s)) 0
theorem gc_fold (g : Nat → Int32) (i : Nat) : ∀ (l : List Nat) (r : Int32), bt (l.foldl (fun r s => r ||| g s) r) i = true ↔ bt r i = true ∨ ∃ s, s ∈ l ∧ bt (g s) i = true := by
  intro l
  induction l with
  | nil => intro r; simp
  | cons a l ih =>
    intro r
    rw [List.foldl_cons, ih, b_or, Bool.or_eq_true]
    constructor
    · rintro ((h | h) | ⟨s, h1, h2⟩)
      · exact Or.inl h
      · exact Or.inr ⟨a, List.mem_cons_self, h⟩
      · exact Or.inr ⟨s, List.mem_cons_of_mem _ h1, h2⟩
    · rintro (h | ⟨s, h1, h2⟩)
      · exact Or.inl (Or.inl h)
      · rcases List.mem_cons.mp h1 with e | e
        · subst e; exact Or.inl (Or.inr h2)
        · exact Or.inr ⟨s, e, h2⟩
theorem gc_b1 (i : Nat) : bt 1 i = decide (i = 0) := by
  rcases Nat.lt_or_ge i 32 with h | h
  · exact (by decide +kernel : ∀ i, i < 32 → bt 1 i = decide (i = 0)) i h
  · rw [b_big h, decide_eq_false (by omega)]
theorem gc_b3 (i : Nat) : bt 3 i = decide (i < 2) := by
  rcases Nat.lt_or_ge i 32 with h | h
  · exact (by decide +kernel : ∀ i, i < 32 → bt 3 i = decide (i < 2)) i h
  · rw [b_big h, decide_eq_false (by omega)]
theorem gc_b15 (i : Nat) : bt 32767 i = decide (i < 15) := by
  rcases Nat.lt_or_ge i 32 with h | h
  · exact (by decide +kernel : ∀ i, i < 32 → bt 32767 i = decide (i < 15)) i h
  · rw [b_big h, decide_eq_false (by omega)]
theorem gc_b27 (i : Nat) : bt 134217727 i = decide (i < 27) := by
  rcases Nat.lt_or_ge i 32 with h | h
  · exact (by decide +kernel : ∀ i, i < 32 → bt 134217727 i = decide (i < 27)) i h
  · rw [b_big h, decide_eq_false (by omega)]
/-- a bit read: 0 or 1 -/
def gc_r1 (x : Int32) (s : Nat) : Int32 := (x >>> (nI s &&& 31)) &&& 1
/-- a colour read: two bits -/
def gc_r3 (x : Int32) (s : Nat) : Int32 := (x >>> (nI s &&& 31)) &&& 3
theorem gc_bt_r1 (x : Int32) {s : Nat} (hs : s < 32) (i : Nat) : bt (gc_r1 x s) i = (decide (i = 0) && bt x s) := by
  unfold gc_r1
  rw [b_and, gc_b1]
  by_cases h : i = 0
  · subst h
    rw [b_sshr s hs x (by omega)]
    simp [hs]
  · simp [h]
theorem gc_bt_r3 (x : Int32) {s : Nat} (hs : s < 31) (i : Nat) : bt (gc_r3 x s) i = (decide (i < 2) && bt x (s + i)) := by
  unfold gc_r3
  rw [b_and, gc_b3]
  by_cases h : i < 2
  · rw [b_sshr s (by omega) x (by omega), if_pos (by omega)]
    simp [h]
  · simp [h]
theorem gc_r1_if (x : Int32) {s : Nat} (hs : s < 32) : gc_r1 x s = if bt x s = true then 1 else 0 := by
  apply b_ext
  intro i hi
  rw [gc_bt_r1 x hs]
  by_cases h : bt x s = true
  · rw [if_pos h, gc_b1, h]; simp
  · rw [if_neg h, b_0, Bool.not_eq_true _ |>.mp h]; simp
theorem gc_r1_eq {x y : Int32} {s t : Nat} (hs : s < 32) (ht : t < 32) (h : bt x s = bt y t) : gc_r1 x s = gc_r1 y t := by
  rw [gc_r1_if x hs, gc_r1_if y ht, h]
theorem gc_r3_eq {x y : Int32} {s t : Nat} (hs : s < 31) (ht : t < 31) (h0 : bt x s = bt y t) (h1 : bt x (s + 1) = bt y (t + 1)) : gc_r3 x s = gc_r3 y t := by
  apply b_ext
  intro i hi
  rw [gc_bt_r3 x hs, gc_bt_r3 y ht]
  by_cases h : i < 2
  · rcases (show i = 0 ∨ i = 1 by omega) with e | e
    · subst e; simp [h0]
    · subst e; simp [h1]
  · simp [h]
theorem gc_bt_ob (x : Int32) {s t i : Nat} (hs : s < 32) (ht : t < 32) (hi : i < 32) : bt (gc_ob x s t) i = true ↔ bt x s = true ∧ t = i := by
  have e : gc_ob x s t = gc_r1 x s <<< (nI t &&& 31) := rfl
  rw [e, b_shl t ht _ hi, gc_bt_r1 x hs]
  simp only [Bool.and_eq_true, decide_eq_true_eq]
  constructor
  · rintro ⟨a, b, c⟩; exact ⟨c, by omega⟩
  · rintro ⟨a, b⟩; exact ⟨by omega, by omega, a⟩
theorem gc_bt_oc (x : Int32) {s t i : Nat} (hs : s < 31) (ht : t < 31) (hi : i < 32) : bt (gc_oc x s t) i = true ↔ ∃ j, j < 2 ∧ bt x (s + j) = true ∧ t + j = i := by
  have e : gc_oc x s t = gc_r3 x s <<< (nI t &&& 31) := rfl
  rw [e, b_shl t (by omega) _ hi, gc_bt_r3 x hs]
  simp only [Bool.and_eq_true, decide_eq_true_eq]
  constructor
  · rintro ⟨a, b, c⟩; exact ⟨i - t, b, c, by omega⟩
  · rintro ⟨j, a, b, c⟩
    obtain rfl : j = i - t := by omega
    exact ⟨by omega, a, b⟩
theorem gc_bt_act {f : Nat → Nat} (hf : gc_P f) (x : Int32) {i : Nat} (hi : i < 32) : bt (gc_act f x) i = true ↔ ∃ s, s < 27 ∧ bt x s = true ∧ gc_bp f s = i := by
  unfold gc_act
  rw [gc_fold (fun s => gc_ob x s (gc_bp f s)), b_0]
  constructor
  · rintro (h | ⟨s, h1, h2⟩)
    · exact absurd h (by decide)
    · have hs := List.mem_range.mp h1
      have := gc_bp_lt hf hs
      rw [gc_bt_ob x (by omega) (by omega) hi] at h2
      exact ⟨s, hs, h2⟩
  · rintro ⟨s, hs, h⟩
    have := gc_bp_lt hf hs
    exact Or.inr ⟨s, List.mem_range.mpr hs, (gc_bt_ob x (by omega) (by omega) hi).mpr h⟩
/-- the high bits are 0 -/
def gc_H (x : Int32) : Prop := ∀ i, 27 ≤ i → bt x i = false
theorem gc_beq {a b : Bool} (h : a = true ↔ b = true) : a = b := Bool.eq_iff_iff.mpr h
theorem gc_act_H {f : Nat → Nat} (hf : gc_P f) (x : Int32) : gc_H (gc_act f x) := by
  intro i hi
  rcases Nat.lt_or_ge i 32 with h | h
  · refine Bool.not_eq_true _ |>.mp fun e => ?_
    obtain ⟨s, hs, _, h2⟩ := (gc_bt_act hf x h).mp e
    have := gc_bp_lt hf hs
    omega
  · exact b_big h
theorem gc_act_comp {f g : Nat → Nat} (hf : gc_P f) (hg : gc_P g) (x : Int32) : gc_act f (gc_act g x) = gc_act (fun v => f (g v)) x := by
  apply b_ext
  intro i hi
  apply gc_beq
  rw [gc_bt_act hf _ hi, gc_bt_act (gc_P_comp hf hg) _ hi]
  constructor
  · rintro ⟨s, hs, h1, h2⟩
    obtain ⟨t, ht, h3, h4⟩ := (gc_bt_act hg x (by omega)).mp h1
    exact ⟨t, ht, h3, by rw [← gc_bp_comp hg ht, h4, h2]⟩
  · rintro ⟨t, ht, h3, h4⟩
    have := gc_bp_lt hg ht
    exact ⟨gc_bp g t, this, (gc_bt_act hg x (by omega)).mpr ⟨t, ht, h3, rfl⟩, by rw [gc_bp_comp hg ht, h4]⟩
theorem gc_act_congr {f g : Nat → Nat} (hf : gc_P f) (hg : gc_P g) (h : ∀ v, v < 6 → f v = g v) (x : Int32) : gc_act f x = gc_act g x := by
  apply b_ext
  intro i hi
  apply gc_beq
  rw [gc_bt_act hf _ hi, gc_bt_act hg _ hi]
  constructor
  · rintro ⟨s, hs, h1, h2⟩; exact ⟨s, hs, h1, by rw [← gc_bp_congr h hs, h2]⟩
  · rintro ⟨s, hs, h1, h2⟩; exact ⟨s, hs, h1, by rw [gc_bp_congr h hs, h2]⟩
theorem gc_P_id : gc_P (fun v => v) := ⟨fun _ h => h, fun _ _ _ _ e => e⟩
theorem gc_act_id {x : Int32} (hx : gc_H x) : gc_act (fun v => v) x = x := by
  apply b_ext
  intro i hi
  apply gc_beq
  rw [gc_bt_act gc_P_id _ hi]
  constructor
  · rintro ⟨s, hs, h1, h2⟩
    rw [gc_bp_id hs] at h2
    rw [← h2]; exact h1
  · intro h
    rcases Nat.lt_or_ge i 27 with h1 | h1
    · exact ⟨i, h1, h, gc_bp_id h1⟩
    · rw [hx i h1] at h; exact absurd h (by decide)
theorem gc_act_mask {f : Nat → Nat} (hf : gc_P f) (x : Int32) : gc_act f (x &&& 32767) = gc_act f x &&& 32767 := by
  apply b_ext
  intro i hi
  apply gc_beq
  rw [gc_bt_act hf _ hi, b_and, Bool.and_eq_true, gc_bt_act hf _ hi, gc_b15, decide_eq_true_eq]
  constructor
  · rintro ⟨s, hs, h1, h2⟩
    rw [b_and, Bool.and_eq_true, gc_b15, decide_eq_true_eq] at h1
    exact ⟨⟨s, hs, h1.1, h2⟩, by rw [← h2]; exact gc_bp_lo hf h1.2⟩
  · rintro ⟨⟨s, hs, h1, h2⟩, h3⟩
    refine ⟨s, hs, ?_, h2⟩
    rw [b_and, Bool.and_eq_true, gc_b15, decide_eq_true_eq]
    exact ⟨h1, (gc_bp_iff hf hs).mp (by omega)⟩
theorem gc_H_mask {x : Int32} (hx : gc_H x) : x &&& 134217727 = x := by
  apply b_ext
  intro i hi
  rw [b_and, gc_b27]
  by_cases h : i < 27
  · simp [h]
  · rw [hx i (by omega)]; rfl
theorem gc_H_and {x : Int32} (y : Int32) (hx : gc_H x) : gc_H (x &&& y) := by
  intro i hi
  rw [b_and, hx i hi]; rfl
/-! the 720 actions -/
def gc_aa (n : Nat) (x : Int32) : Int32 := gc_act (gc_pm n) x
theorem gc_aa_H {n : Nat} (h : n < 720) (x : Int32) : gc_H (gc_aa n x) := gc_act_H (gc_pm_P h) x
theorem gc_aa_0 {x : Int32} (hx : gc_H x) : gc_aa 0 x = x := by
  unfold gc_aa
  rw [gc_act_congr (gc_pm_P (by omega)) gc_P_id gc_pm_0, gc_act_id hx]
theorem gc_aa_mul {n m : Nat} (hn : n < 720) (hm : m < 720) (x : Int32) : gc_aa n (gc_aa m x) = gc_aa (gc_mul n m) x := by
  unfold gc_aa
  have h := gc_mul_ok hn hm
  rw [gc_act_comp (gc_pm_P hn) (gc_pm_P hm)]
  exact gc_act_congr (gc_P_comp (gc_pm_P hn) (gc_pm_P hm)) (gc_pm_P h.1) (fun v hv => (h.2 v hv).symm) x
theorem gc_aa_iv {n : Nat} (hn : n < 720) {x : Int32} (hx : gc_H x) : gc_aa (gc_iv n) (gc_aa n x) = x := by
  unfold gc_aa
  have h := gc_iv_lt n hn
  rw [gc_act_comp (gc_pm_P h) (gc_pm_P hn), gc_act_congr (gc_P_comp (gc_pm_P h) (gc_pm_P hn)) gc_P_id (fun v hv => gc_iv_l n hn v hv), gc_act_id hx]
theorem gc_aa_inj {n : Nat} (hn : n < 720) {x y : Int32} (hx : gc_H x) (hy : gc_H y) (h : gc_aa n x = gc_aa n y) : x = y := by
  rw [← gc_aa_iv hn hx, h, gc_aa_iv hn hy]
