/-! counting over the 720 -/
def gc_ct (p : Nat → Bool) : Nat → Nat
  | 0 => 0
  | k + 1 => gc_ct p k + if p k = true then 1 else 0
theorem gc_ct_s (p : Nat → Bool) (k : Nat) : gc_ct p (k + 1) = gc_ct p k + if p k = true then 1 else 0 := rfl
theorem gc_ct_le (p : Nat → Bool) : ∀ k, gc_ct p k ≤ k := by
  intro k
  induction k with
  | zero => exact Nat.le_refl 0
  | succ k ih => unfold gc_ct; split <;> omega
theorem gc_ct_P (p : Nat → Bool) : ∀ k, gc_ct p k = (List.range k).countP p := by
  intro k
  induction k with
  | zero => rfl
  | succ k ih =>
    rw [List.range_succ, List.countP_append, ← ih, gc_ct_s]
    simp [List.countP_cons]
theorem gc_ct_congr {p q : Nat → Bool} : ∀ k, (∀ j, j < k → p j = q j) → gc_ct p k = gc_ct q k := by
  intro k
  induction k with
  | zero => intro _; rfl
  | succ k ih =>
    intro h
    unfold gc_ct
    rw [ih (fun j hj => h j (by omega)), h k (by omega)]
theorem gc_ct_or {p q r : Nat → Bool} : ∀ k, (∀ j, j < k → (r j = true ↔ p j = true ∨ q j = true) ∧ ¬ (p j = true ∧ q j = true)) → gc_ct r k = gc_ct p k + gc_ct q k := by
  intro k
  induction k with
  | zero => intro _; rfl
  | succ k ih =>
    intro h
    have h1 := h k (by omega)
    have h2 := ih (fun j hj => h j (by omega))
    unfold gc_ct
    rw [h2]
    by_cases a : p k = true
    · by_cases b : q k = true
      · exact absurd ⟨a, b⟩ h1.2
      · rw [if_pos (h1.1.mpr (Or.inl a)), if_pos a, if_neg b]; omega
    · by_cases b : q k = true
      · rw [if_pos (h1.1.mpr (Or.inr b)), if_neg a, if_pos b]; omega
      · rw [if_neg (fun z => (h1.1.mp z).elim a b), if_neg a, if_neg b]; omega
theorem gc_ct_all {p : Nat → Bool} : ∀ k, (∀ j, j < k → p j = true) → gc_ct p k = k := by
  intro k
  induction k with
  | zero => intro _; rfl
  | succ k ih =>
    intro h
    unfold gc_ct
    rw [ih (fun j hj => h j (by omega)), if_pos (h k (by omega))]
theorem gc_ct_none {p : Nat → Bool} : ∀ k, (∀ j, j < k → ¬ p j = true) → gc_ct p k = 0 := by
  intro k
  induction k with
  | zero => intro _; rfl
  | succ k ih =>
    intro h
    unfold gc_ct
    rw [ih (fun j hj => h j (by omega)), if_neg (h k (by omega))]
theorem gc_ct_pos {p : Nat → Bool} : ∀ k j, j < k → p j = true → 0 < gc_ct p k := by
  intro k
  induction k with
  | zero => intro j h; omega
  | succ k ih =>
    intro j h hp
    unfold gc_ct
    rcases (show j < k ∨ j = k by omega) with h | h
    · have := ih j h hp; omega
    · subst h; rw [if_pos hp]; omega
/-- re-indexing by a bijection of 0 .. k - 1 -/
theorem gc_ct_bij {p : Nat → Bool} {k : Nat} (m : Nat → Nat) (hm : ∀ j, j < k → m j < k) (hi : ∀ i, i < k → ∀ j, j < k → m i = m j → i = j) (hs : ∀ j, j < k → ∃ i, i < k ∧ m i = j) : gc_ct p k = gc_ct (fun j => p (m j)) k := by
  rw [gc_ct_P, gc_ct_P]
  have hp : List.Perm (List.range k) ((List.range k).map m) := by
    refine (List.perm_ext_iff_of_nodup List.nodup_range ?_).mpr fun a => ?_
    · unfold List.Nodup
      rw [List.pairwise_map]
      refine List.Pairwise.imp_of_mem (fun {a b} ha hb hab e => ?_) (List.nodup_range (n := k))
      exact hab (hi a (List.mem_range.mp ha) b (List.mem_range.mp hb) e)
    · rw [List.mem_range, List.mem_map]
      constructor
      · intro h
        obtain ⟨i, hi, e⟩ := hs a h
        exact ⟨i, List.mem_range.mpr hi, e⟩
      · rintro ⟨i, hi, e⟩
        rw [← e]
        exact hm i (List.mem_range.mp hi)
  rw [hp.countP_eq, List.countP_map]
  rfl
/-! how many different values: counted at the first -/
def gc_new (a : Nat → Int32) (p : Nat) : Bool := decide (∀ q, q < p → ¬ a q = a p)
theorem gc_firsts {a : Nat → Int32} {N S : Nat} (h : ∀ p, p < N → gc_ct (fun q => decide (a q = a p)) N = S) : gc_ct (gc_new a) N * S = N := by
  have key : ∀ k, k ≤ N → gc_ct (gc_new a) k * S = gc_ct (fun q => decide (∃ p, p < k ∧ a p = a q)) N := by
    intro k
    induction k with
    | zero =>
      intro _
      rw [gc_ct_none N (fun j _ => by simp)]
      unfold gc_ct
      omega
    | succ k ih =>
      intro hk
      have ih := ih (by omega)
      rw [gc_ct_s]
      by_cases hn : gc_new a k = true
      · rw [if_pos hn, Nat.add_mul, ih, Nat.one_mul, ← h k (by omega)]
        refine (gc_ct_or N fun j hj => ?_).symm
        unfold gc_new at hn
        simp only [decide_eq_true_eq] at hn ⊢
        constructor
        · constructor
          · rintro ⟨p, hp, e⟩
            rcases (show p < k ∨ p = k by omega) with z | z
            · exact Or.inl ⟨p, z, e⟩
            · subst z; exact Or.inr e.symm
          · rintro (⟨p, hp, e⟩ | e)
            · exact ⟨p, by omega, e⟩
            · exact ⟨k, by omega, e.symm⟩
        · rintro ⟨⟨p, hp, e⟩, e2⟩
          exact hn p hp (e.trans e2)
      · rw [if_neg hn, Nat.add_zero, ih]
        refine gc_ct_congr N fun j hj => gc_beq ?_
        unfold gc_new at hn
        simp only [decide_eq_true_eq] at hn ⊢
        constructor
        · rintro ⟨p, hp, e⟩; exact ⟨p, by omega, e⟩
        · rintro ⟨p, hp, e⟩
          rcases (show p < k ∨ p = k by omega) with z | z
          · exact ⟨p, z, e⟩
          · subst z
            apply Classical.byContradiction
            intro hc
            exact hn fun q hq e2 => hc ⟨q, hq, e2.trans e⟩
  rw [key N (Nat.le_refl N)]
  exact gc_ct_all N fun j hj => by simp only [decide_eq_true_eq]; exact ⟨j, hj, rfl⟩
def gc_sy (x : Int32) (k : Nat) : Nat := gc_ct (fun q => decide (gc_aa q x = x)) k
theorem gc_sy_pos {x : Int32} (hx : gc_H x) : 0 < gc_sy x 720 :=
  gc_ct_pos 720 0 (by omega) (by rw [decide_eq_true_eq]; exact gc_aa_0 hx)
theorem gc_same {x : Int32} (hx : gc_H x) (p : Nat) (hp : p < 720) : gc_ct (fun q => decide (gc_aa q x = gc_aa p x)) 720 = gc_sy x 720 := by
  have hv := gc_iv_lt p hp
  rw [gc_ct_bij (gc_mul p) (fun j hj => (gc_mul_ok hp hj).1) (fun i hi j hj e => ?_) (fun j hj => ?_)]
  · refine gc_ct_congr 720 fun j hj => gc_beq ?_
    simp only [decide_eq_true_eq]
    rw [← gc_aa_mul hp hj]
    exact ⟨fun e => gc_aa_inj hp (gc_aa_H hj x) hx e, fun e => by rw [e]⟩
  · refine gc_pm_inj hi hj fun v hv => ?_
    refine (gc_pm_P hp).2 _ (gc_pm_lt i hi v hv) _ (gc_pm_lt j hj v hv) ?_
    rw [← (gc_mul_ok hp hi).2 v hv, ← (gc_mul_ok hp hj).2 v hv, e]
  · have h1 := gc_mul_ok hv hj
    refine ⟨gc_mul (gc_iv p) j, h1.1, ?_⟩
    have h2 := gc_mul_ok hp h1.1
    refine gc_pm_inj h2.1 hj fun v hv => ?_
    rw [h2.2 v hv, h1.2 v hv, gc_iv_r p hp _ (gc_pm_lt j hj v hv)]
theorem gc_variants {x : Int32} (hx : gc_H x) : gc_ct (gc_new fun p => gc_aa p x) 720 = 720 / gc_sy x 720 := by
  have h := gc_firsts (a := fun p => gc_aa p x) (gc_same hx)
  exact (Nat.div_eq_of_eq_mul_left (gc_sy_pos hx) h.symm).symm
/-! the smallest -/
def gc_mn (x : Int32) : Nat → Int32
  | 0 => x
  | k + 1 => if gc_mn x k ≤ gc_aa k x then gc_mn x k else gc_aa k x
theorem gc_mn_le (x : Int32) : ∀ k j, j < k → gc_mn x k ≤ gc_aa j x := by
  intro k
  induction k with
  | zero => intro j h; omega
  | succ k ih =>
    intro j hj
    unfold gc_mn
    by_cases c : gc_mn x k ≤ gc_aa k x
    · rw [if_pos c]
      rcases (show j < k ∨ j = k by omega) with z | z
      · exact ih j z
      · subst z; exact c
    · rw [if_neg c]
      rcases (show j < k ∨ j = k by omega) with z | z
      · exact Int32.le_trans (Int32.le_of_lt (Int32.not_le.mp c)) (ih j z)
      · subst z; exact Int32.le_refl _
theorem gc_mn_at {x : Int32} (hx : gc_H x) : ∀ k, k ≤ 720 → ∃ j, j < 720 ∧ gc_mn x k = gc_aa j x := by
  intro k
  induction k with
  | zero => intro _; exact ⟨0, by omega, (gc_aa_0 hx).symm⟩
  | succ k ih =>
    intro hk
    unfold gc_mn
    by_cases c : gc_mn x k ≤ gc_aa k x
    · rw [if_pos c]; exact ih (by omega)
    · rw [if_neg c]; exact ⟨k, by omega, rfl⟩
theorem gc_mn_1 {x : Int32} (hx : gc_H x) : gc_mn x 1 = x := by
  show (if x ≤ gc_aa 0 x then x else gc_aa 0 x) = x
  rw [gc_aa_0 hx]
  split <;> rfl
theorem gc_alike_l {x y : Int32} (hx : gc_H x) (hy : gc_H y) {p : Nat} (hp : p < 720) (h : gc_aa p x = y) : gc_mn x 720 ≤ gc_mn y 720 := by
  obtain ⟨j, hj, e⟩ := gc_mn_at hy 720 (by omega)
  rw [e, ← h, gc_aa_mul hj hp]
  exact gc_mn_le x 720 _ (gc_mul_ok hj hp).1
theorem gc_alike {x y : Int32} (hx : gc_H x) (hy : gc_H y) : gc_mn x 720 = gc_mn y 720 ↔ ∃ p, p < 720 ∧ gc_aa p x = y := by
  constructor
  · intro h
    obtain ⟨i, hi, e⟩ := gc_mn_at hx 720 (by omega)
    obtain ⟨j, hj, e2⟩ := gc_mn_at hy 720 (by omega)
    have hv := gc_iv_lt j hj
    refine ⟨gc_mul (gc_iv j) i, (gc_mul_ok hv hi).1, ?_⟩
    rw [← gc_aa_mul hv hi, ← e, h, e2, gc_aa_iv hj hy]
  · rintro ⟨p, hp, h⟩
    refine Int32.le_antisymm (gc_alike_l hx hy hp h) (gc_alike_l hy hx (gc_iv_lt p hp) ?_)
    rw [← h, gc_aa_iv hp hx]
