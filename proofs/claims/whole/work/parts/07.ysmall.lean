/-! the reference's small methods -/
theorem gc_10 : ¬ (1 : Int32) = 0 := by decide
section
variable {cl ed rn cd kn : Nat → Int32}
theorem gc_yg {F : Int32 → Prop} {g : Nat} (hg : g < 2) (h : F 1) : wpY_isGraph F (cl, ed, rn, cd, kn) (nI g) := by
  rcases (show g = 0 ∨ g = 1 by omega) with e | e
  · subst e; exact br_t nI_0 h
  · subst e; exact br_f (nI_ne0 (by omega) (by omega)) (br_t rfl h)
theorem gc_yg_o {F : Int32 → Prop} {x : Int32} (hx : x < 0 ∨ nI 2 ≤ x) (h : F 0) : wpY_isGraph F (cl, ed, rn, cd, kn) x := by
  refine br_f (fun e => ?_) (br_f (fun e => ?_) h)
  · subst e; revert hx; decide
  · subst e; revert hx; decide
theorem gc_yv {F : Int32 → Prop} {g : Nat} (hg : g < 6) (h : F 1) : wpY_isVertex F (cl, ed, rn, cd, kn) (nI g) := br_f (nI_pos (by omega)) (br_f (nI_ge (b := 6) hg (by decide)) h)
theorem gc_yv_o {F : Int32 → Prop} {x : Int32} (hx : x < 0 ∨ nI 6 ≤ x) (h : F 0) : wpY_isVertex F (cl, ed, rn, cd, kn) x := by
  rcases hx with hx | hx
  · exact br_t hx h
  · exact br_f (gc_ge0 (by decide) hx) (br_t hx h)
/-! indices -/
theorem gc_i6 (g v : Nat) : nI g * 6 + nI v = nI (g * 6 + v) := by
  rw [show (6 : Int32) = nI 6 from rfl, pk_mul, nI_add]
theorem gc_i36 (g v : Nat) : nI g * 36 + nI v = nI (g * 36 + v) := by
  rw [show (36 : Int32) = nI 36 from rfl, pk_mul, nI_add]
theorem gc_i720 (g v : Nat) : nI g * 720 + nI v = nI (g * 720 + v) := by
  rw [show (720 : Int32) = nI 720 from rfl, pk_mul, nI_add]
theorem gc_i66 (g u v : Nat) : (nI g * 36 + 6 * nI u) + nI v = nI (g * 36 + 6 * u + v) := by
  rw [show (36 : Int32) = nI 36 from rfl, show (6 : Int32) = nI 6 from rfl, pk_mul, pk_mul, nI_add, nI_add]
theorem gc_n6 {g v : Nat} (hg : g < 2) (hv : v < 6) : vp_in (nI g * 6 + nI v) 12 := by rw [gc_i6]; exact vp_in_nI (by omega) (by omega)
theorem gc_n36 {g v : Nat} (hg : g < 2) (hv : v < 36) : vp_in (nI g * 36 + nI v) 72 := by rw [gc_i36]; exact vp_in_nI (by omega) (by omega)
theorem gc_n720 {g v : Nat} (hg : g < 2) (hv : v < 720) : vp_in (nI g * 720 + nI v) 1440 := by rw [gc_i720]; exact vp_in_nI (by omega) (by omega)
theorem gc_n66 {g u v : Nat} (hg : g < 2) (hu : u < 6) (hv : v < 6) : vp_in ((nI g * 36 + 6 * nI u) + nI v) 72 := by rw [gc_i66]; exact vp_in_nI (by omega) (by omega)
theorem gc_c6 {g v : Nat} (hg : g < 2) (hv : v < 6) : (nI g * 6 + nI v).toNatClampNeg = g * 6 + v := by rw [gc_i6]; exact nI_clamp (by omega)
theorem gc_c36 {g v : Nat} (hg : g < 2) (hv : v < 36) : (nI g * 36 + nI v).toNatClampNeg = g * 36 + v := by rw [gc_i36]; exact nI_clamp (by omega)
theorem gc_c720 {g v : Nat} (hg : g < 2) (hv : v < 720) : (nI g * 720 + nI v).toNatClampNeg = g * 720 + v := by rw [gc_i720]; exact nI_clamp (by omega)
theorem gc_c66 {g u v : Nat} (hg : g < 2) (hu : u < 6) (hv : v < 6) : ((nI g * 36 + 6 * nI u) + nI v).toNatClampNeg = g * 36 + 6 * u + v := by rw [gc_i66]; exact nI_clamp (by omega)
/-! bitOf -/
theorem gc_ybF : ∀ k, k < 6 → nI (k * (11 - k) / 2) + (5 - nI k) = nI ((k + 1) * (11 - (k + 1)) / 2) := by decide +kernel
theorem gc_ybE : ∀ a, a < 6 → ∀ b, b < 6 → b < a → ((14 : Int32) - nI (b * (11 - b) / 2)) - ((nI a - nI b) - 1) = nI (gc_pb a b) := by decide +kernel
theorem gc_ybl {F : Int32 → Prop} {lo hi : Nat} (hlo : lo < 6) (hhi : hi < 6) (hl : lo < hi) (h : F (nI (gc_pb hi lo))) : ∃ n, wY_bitOf_29 F (nI lo) (nI hi) cl ed rn cd kn n 0 0 := by
  have key : ∀ (d k n : Nat), k + d = lo → d < n → wY_bitOf_29 F (nI lo) (nI hi) cl ed rn cd kn n (nI (k * (11 - k) / 2)) (nI k) := by
    intro d
    induction d with
    | zero =>
      intro k n hk hn
      obtain ⟨n, rfl⟩ : ∃ m, n = m + 1 := ⟨n - 1, by omega⟩
      obtain rfl : k = lo := by omega
      refine br_t (nI_le (by omega) (by omega)) ?_
      rw [gc_ybE hi hhi k hlo hl]
      exact h
    | succ d ih =>
      intro k n hk hn
      obtain ⟨n, rfl⟩ : ∃ m, n = m + 1 := ⟨n - 1, by omega⟩
      exact br_f (nI_ge (by omega) (by omega)) (nm_r (gc_ybF k (by omega)) (nm_r (nI_1 k) (ih (k + 1) n (by omega) (by omega))))
  exact ⟨lo + 1, key lo 0 (lo + 1) (by omega) (by omega)⟩
theorem gc_yb {F : Int32 → Prop} {a b : Nat} (ha : a < 6) (hb : b < 6) (hn : a ≠ b) (h : F (nI (gc_pb a b))) : wpY_bitOf F (cl, ed, rn, cd, kn) (nI a) (nI b) := by
  rcases Nat.lt_or_gt_of_ne hn with hl | hl
  · rw [gc_pb_comm] at h
    exact br_f (nI_ge hl (by omega)) (br_f (nI_ge hl (by omega)) (gc_ybl ha hb hl h))
  · exact br_t (nI_le (by omega) (by omega)) (br_t (nI_le (by omega) (by omega)) (gc_ybl hb ha hl h))
/-! rename -/
def gc_fy (x3 : Int32) : Nat → Int32 → Int32 → Option Int32
  | 0, _, _ => none
  | n + 1, x5, x6 => if 6 ≤ x6 then some x6 else if ((x3 >>> (x6 &&& 31)) &&& 1) = 0 then (if x5 ≤ 0 then some x6 else gc_fy x3 n (x5 + (-1)) (x6 + 1)) else gc_fy x3 n x5 (x6 + 1)
theorem gc_fyF : ∀ t, t < 64 → ∀ r, r < 6 → r < gc_fc t → gc_fy (nI t) 7 (nI r) 0 = some (nI (gc_fr t r)) := by decide +kernel
theorem gc_fy_ok {post : SY → Prop} {J7 : Int32 → Int32 → Int32 → (Nat → Int32) → (Nat → Int32) → (Nat → Int32) → (Nat → Int32) → (Nat → Int32) → Prop} {x2 x3 x4 r : Int32} (h : wY_rename_73 post J7 x2 x3 x4 r cl ed rn cd kn) : ∀ (n : Nat) (x5 x6 : Int32), gc_fy x3 n x5 x6 = some r → wY_rename_34 post J7 x2 x3 x4 cl ed rn cd kn n x5 x6 := by
  intro n
  induction n with
  | zero => intro x5 x6 e; exact absurd e (by simp [gc_fy])
  | succ n ih =>
    intro x5 x6 e
    unfold gc_fy at e
    by_cases c1 : 6 ≤ x6
    · rw [if_pos c1] at e
      cases e
      exact br_t c1 h
    · rw [if_neg c1] at e
      by_cases c2 : ((x3 >>> (x6 &&& 31)) &&& 1) = 0
      · rw [if_pos c2] at e
        by_cases c3 : x5 ≤ 0
        · rw [if_pos c3] at e
          cases e
          exact br_f c1 (br_t c2 (br_t c3 h))
        · rw [if_neg c3] at e
          exact br_f c1 (br_t c2 (br_f c3 (br_t c2 (nm_e (nm_e (ih _ _ e))))))
      · rw [if_neg c2] at e
        exact br_f c1 (br_f c2 (br_f c2 (nm_e (ih _ _ e))))
theorem gc_yrn {post : SY → Prop} {n : Nat} (hn : n < 720) (h : ∀ rn' : Nat → Int32, (∀ w, w < 6 → rn' w = nI (gc_pm n w)) → post (cl, ed, rn', cd, kn)) : wpY_rename post (cl, ed, rn, cd, kn) (nI n) := by
  have key : ∀ (d v : Nat) (rn : Nat → Int32) (m : Nat), v + d = 6 → d < m → (∀ w, w < v → rn w = nI (gc_pm n w)) → wY_rename_7 post m (nI (gc_rs n v)) (nI (gc_tk n v)) (nI v) cl ed rn cd kn := by
    intro d
    induction d with
    | zero =>
      intro v rn m hv hm hk
      obtain ⟨m, rfl⟩ : ∃ k, m = k + 1 := ⟨m - 1, by omega⟩
      obtain rfl : v = 6 := by omega
      exact br_t (nI_le (a := 6) (b := 6) (by omega) (by omega)) (h rn hk)
    | succ d ih =>
      intro v rn m hv hm hk
      obtain ⟨m, rfl⟩ : ∃ k, m = k + 1 := ⟨m - 1, by omega⟩
      have hv6 : v < 6 := by omega
      obtain ⟨f1, f2, f3⟩ := gc_stF n hn v hv6
      have hl := gc_rs_le n v
      have hp := gc_pm_lt n hn v hv6
      have hc := gc_fc_le _ f1
      have e6 : (6 : Int32) - nI v = nI (6 - v) := pk_sub (a := 6) (b := v) (by omega)
      have h0 : ¬ (6 : Int32) - nI v = 0 := by rw [e6]; exact nI_ne0 (by omega) (by omega)
      refine br_f (nI_ge (b := 6) (by omega) (by omega)) ⟨h0, nm_r (e' := nI (gc_rs n v % (6 - v))) (by rw [e6]; exact pk_rem (by omega) (by omega) (by omega)) ⟨h0, nm_r (e' := nI (gc_rs n (v + 1))) (by rw [e6, ← gc_rs_s n hv6]; exact pk_div (by omega) (by omega) (by omega)) ⟨7, gc_fy_ok ?_ 7 _ _ (gc_fyF _ f1 _ (by omega) f2)⟩⟩⟩
      rw [f3]
      refine ⟨vp_in_nI hv6 (by omega), nm_r (e' := upd rn v (nI (gc_pm n v))) (by rw [nI_clamp (by omega)]) (nm_r (gc_tkF _ f1 _ hp) (nm_r (nI_1 v) (ih (v + 1) _ m (by omega) (by omega) fun w hw => ?_)))⟩
      by_cases c : w = v
      · subst c; rw [pk_us]
      · rw [pk_un c]; exact hk w (by omega)
  have k0 := key 6 0 rn 7 (by omega) (by omega) (fun w hw => by omega)
  rw [gc_rs_0] at k0
  exact ⟨7, k0⟩
/-! the relation of one graph: code x against colours and edges -/
def gc_GC (x : Int32) (cl : Nat → Int32) (g : Nat) : Prop := ∀ v, v < 6 → cl (g * 6 + v) = gc_r3 x (gc_cb v)
def gc_GE (x : Int32) (ed : Nat → Int32) (g : Nat) : Prop := ∀ u, u < 6 → ∀ w, w < 6 → u ≠ w → ed (g * 36 + 6 * u + w) = gc_r1 x (gc_pb u w)
def gc_KR (x : Int32) (kn cd : Nat → Int32) (g : Nat) : Prop := ¬ kn g = 0 → ∀ p, p < 720 → cd (g * 720 + p) = gc_aa p x
/-! codeBy -/
def gc_oe (x : Int32) (f : Nat → Nat) (i : Nat) : Int32 := if i % 6 ≤ i / 6 then 0 else gc_ob x (gc_pb (i / 6) (i % 6)) (gc_pb (f (i / 6)) (f (i % 6)))
def gc_y1 (x : Int32) (f : Nat → Nat) (r : Int32) (l : List Nat) : Int32 := l.foldl (fun r v => r ||| gc_oc x (gc_cb v) (gc_cb (f v))) r
def gc_y2 (x : Int32) (f : Nat → Nat) (r : Int32) (l : List Nat) : Int32 := l.foldl (fun r i => r ||| gc_oe x f i) r
theorem gc_sh0 {t : Nat} (ht : t < 32) : (0 : Int32) <<< (nI t &&& 31) = 0 := by
  apply b_ext
  intro i hi
  rw [b_shl t ht _ hi, b_0, b_0, Bool.and_false]
theorem gc_or0 (x : Int32) : x ||| 0 = x := by
  apply b_ext
  intro i _
  rw [b_or, b_0, Bool.or_false]
theorem gc_yc2 {post : Int32 → Prop} {x : Int32} {f : Nat → Nat} (hf : gc_P f) {g : Nat} (hg : g < 2) (hE : gc_GE x ed g) (hr : ∀ w, w < 6 → rn w = nI (f w)) : ∀ (d i : Nat) (r : Int32) (n : Nat), i + d = 36 → d < n → post (gc_y2 x f r (List.range' i d)) → wY_codeBy_44 post (nI g) cl ed rn cd kn n r (nI i) := by
  intro d
  induction d with
  | zero =>
    intro i r n hi hn h
    obtain ⟨n, rfl⟩ : ∃ m, n = m + 1 := ⟨n - 1, by omega⟩
    obtain rfl : i = 36 := by omega
    exact br_t (nI_le (a := 36) (b := 36) (by omega) (by omega)) h
  | succ d ih =>
    intro i r n hi hn h
    obtain ⟨n, rfl⟩ : ∃ m, n = m + 1 := ⟨n - 1, by omega⟩
    have h' : post (gc_y2 x f (r ||| gc_oe x f i) (List.range' (i + 1) d)) := h
    have ih := fun r h => ih (i + 1) r n (by omega) (by omega) h
    have hu : i / 6 < 6 := by omega
    have hw : i % 6 < 6 := by omega
    refine br_f (nI_ge (b := 36) (by omega) (by omega)) ⟨by decide, nm_r (pk_div (a := i) (d := 6) (by omega) (by omega) (by omega)) ⟨by decide, nm_r (pk_rem (a := i) (d := 6) (by omega) (by omega) (by omega)) (pk_le (i % 6) (i / 6) (fun c => nm_r (nI_1 i) (ih r ?_)) (fun c => ⟨gc_n36 hg (by omega), ?_⟩))⟩⟩
    · rw [show gc_oe x f i = 0 from if_pos c, gc_or0] at h'
      exact h'
    · have hn : i / 6 ≠ i % 6 := by omega
      have e : ed (nI g * 36 + nI i).toNatClampNeg = gc_r1 x (gc_pb (i / 6) (i % 6)) := by
        rw [gc_c36 hg (by omega), ← hE (i / 6) hu (i % 6) hw hn]
        exact congrArg ed (by omega)
      have c1 := gc_pb_lt hu hw hn
      have c2 := gc_pb_lt (hf.1 _ hu) (hf.1 _ hw) (gc_P_ne hf hu hw hn)
      have eo : gc_oe x f i = gc_r1 x (gc_pb (i / 6) (i % 6)) <<< (nI (gc_pb (f (i / 6)) (f (i % 6))) &&& 31) := if_neg (by omega)
      rw [eo] at h'
      rw [e]
      refine br_c (fun z => nm_r (nI_1 i) (ih r ?_)) (fun z => ?_)
      · rw [z, gc_sh0 (by omega), gc_or0] at h'
        exact h'
      · have z1 : gc_r1 x (gc_pb (i / 6) (i % 6)) = 1 := by
          rw [gc_r1_if x (by omega)] at z ⊢
          split at z
          · rw [if_pos (by assumption)]
          · exact absurd rfl z
        rw [z1] at h'
        refine ⟨vp_in_nI hu (by omega), vp_in_nI hw (by omega), ?_⟩
        rw [nI_clamp (by omega), nI_clamp (by omega), hr _ hu, hr _ hw]
        exact gc_yb (hf.1 _ hu) (hf.1 _ hw) (gc_P_ne hf hu hw hn) (nm_e (nm_r (nI_1 i) (ih _ h')))
theorem gc_yc1 {post : Int32 → Prop} {x : Int32} {f : Nat → Nat} (hf : gc_P f) {g : Nat} (hg : g < 2) (hC : gc_GC x cl g) (hE : gc_GE x ed g) (hr : ∀ w, w < 6 → rn w = nI (f w)) : ∀ (d v : Nat) (r : Int32) (n : Nat), v + d = 6 → d < n → post (gc_y2 x f (gc_y1 x f r (List.range' v d)) (List.range' 0 36)) → wY_codeBy_4 post (nI g) cl ed rn cd kn n r (nI v) := by
  intro d
  induction d with
  | zero =>
    intro v r n hi hn h
    obtain ⟨n, rfl⟩ : ∃ m, n = m + 1 := ⟨n - 1, by omega⟩
    obtain rfl : v = 6 := by omega
    exact br_t (nI_le (a := 6) (b := 6) (by omega) (by omega)) ⟨37, gc_yc2 hf hg hE hr 36 0 _ 37 (by omega) (by omega) h⟩
  | succ d ih =>
    intro v r n hi hn h
    obtain ⟨n, rfl⟩ : ∃ m, n = m + 1 := ⟨n - 1, by omega⟩
    have hv : v < 6 := by omega
    refine br_f (nI_ge (b := 6) (by omega) (by omega)) ⟨gc_n6 hg hv, vp_in_nI hv (by omega), nm_r (e' := r ||| gc_oc x (gc_cb v) (gc_cb (f v))) ?_ (nm_r (nI_1 v) (ih (v + 1) _ n (by omega) (by omega) h))⟩
    rw [gc_c6 hg hv, hC v hv, nI_clamp (by omega), hr v hv, gc_cbX _ (hf.1 v hv)]
    rfl
theorem gc_y_act {f : Nat → Nat} (hf : gc_P f) (x : Int32) : gc_y2 x f (gc_y1 x f 0 (List.range' 0 6)) (List.range' 0 36) = gc_act f x := by
  apply b_ext
  intro i hi
  apply gc_beq
  unfold gc_y2 gc_y1
  rw [gc_fold (fun i => gc_oe x f i), gc_fold (fun v => gc_oc x (gc_cb v) (gc_cb (f v))), gc_bt_act hf x hi, b_0]
  constructor
  · rintro ((h | ⟨u, h1, h2⟩) | ⟨k, h1, h2⟩)
    · exact absurd h (by decide)
    · rw [List.mem_range'_1] at h1
      have hu : u < 6 := by omega
      have c1 := gc_cb_lt hu
      have c2 := gc_cb_lt (hf.1 u hu)
      rw [gc_bt_oc x (by omega) (by omega) hi] at h2
      obtain ⟨j, hj, hb, e⟩ := h2
      exact ⟨gc_cb u + j, by omega, hb, by rw [gc_bp_cb hu hj, e]⟩
    · rw [List.mem_range'_1] at h1
      unfold gc_oe at h2
      by_cases c : k % 6 ≤ k / 6
      · rw [if_pos c, b_0] at h2
        exact absurd h2 (by decide)
      · rw [if_neg c] at h2
        have hu : k / 6 < 6 := by omega
        have hw : k % 6 < 6 := by omega
        have hn : k / 6 ≠ k % 6 := by omega
        have c1 := gc_pb_lt hu hw hn
        have c2 := gc_pb_lt (hf.1 _ hu) (hf.1 _ hw) (gc_P_ne hf hu hw hn)
        rw [gc_bt_ob x (by omega) (by omega) hi] at h2
        exact ⟨gc_pb (k / 6) (k % 6), by omega, h2.1, by rw [gc_bp_pb hu hw hn, h2.2]⟩
  · rintro ⟨s, hs, hb, e⟩
    rcases Nat.lt_or_ge s 15 with h1 | h1
    · right
      obtain ⟨a, b, hab, hb6, rfl⟩ := gc_lo_pb h1
      have ha : a < 6 := by omega
      have hn : a ≠ b := by omega
      have c2 := gc_pb_lt (hf.1 a ha) (hf.1 b hb6) (gc_P_ne hf ha hb6 hn)
      refine ⟨6 * a + b, List.mem_range'_1.mpr (by omega), ?_⟩
      unfold gc_oe
      have e1 : (6 * a + b) / 6 = a := by omega
      have e2 : (6 * a + b) % 6 = b := by omega
      rw [e1, e2, if_neg (by omega), gc_bt_ob x (by omega) (by omega) hi]
      exact ⟨hb, by rw [← e, gc_bp_pb ha hb6 hn]⟩
    · left; right
      obtain ⟨a, j, ha, hj, rfl⟩ := gc_hi_cb h1 hs
      have c1 := gc_cb_lt ha
      have c2 := gc_cb_lt (hf.1 a ha)
      refine ⟨a, List.mem_range'_1.mpr (by omega), ?_⟩
      rw [gc_bt_oc x (by omega) (by omega) hi]
      exact ⟨j, hj, hb, by rw [← e, gc_bp_cb ha hj]⟩
theorem gc_ycb {post : Int32 → Prop} {x : Int32} {f : Nat → Nat} (hf : gc_P f) {g : Nat} (hg : g < 2) (hC : gc_GC x cl g) (hE : gc_GE x ed g) (hr : ∀ w, w < 6 → rn w = nI (f w)) (h : post (gc_act f x)) : wpY_codeBy post (cl, ed, rn, cd, kn) (nI g) :=
  ⟨7, gc_yc1 hf hg hC hE hr 6 0 0 7 (by omega) (by omega) (by rw [gc_y_act hf]; exact h)⟩
/-! work, code -/
theorem gc_ywk {post : SY → Prop} {x : Int32} {g : Nat} (hg : g < 2) (hC : gc_GC x cl g) (hE : gc_GE x ed g) (hK : gc_KR x kn cd g)
    (h : ∀ rn' cd' kn' : Nat → Int32, (∀ p, p < 720 → cd' (g * 720 + p) = gc_aa p x) → (∀ j, (j < g * 720 ∨ g * 720 + 720 ≤ j) → cd' j = cd j) → (∀ j, j ≠ g → kn' j = kn j) → post (cl, ed, rn', cd', kn')) : wpY_work post (cl, ed, rn, cd, kn) (nI g) := by
  have key : ∀ (d p : Nat) (rn cd' : Nat → Int32) (m : Nat), p + d = 720 → d < m → (∀ q, q < p → cd' (g * 720 + q) = gc_aa q x) → (∀ j, (j < g * 720 ∨ g * 720 + 720 ≤ j) → cd' j = cd j) → wY_work_12 post (nI g) m (nI p) cl ed rn cd' kn := by
    intro d
    induction d with
    | zero =>
      intro p rn cd' m hv hm h1 h2
      obtain ⟨m, rfl⟩ : ∃ k, m = k + 1 := ⟨m - 1, by omega⟩
      obtain rfl : p = 720 := by omega
      exact br_t (nI_le (a := 720) (b := 720) (by omega) (by omega)) ⟨vp_in_nI hg (by omega), nm_r (e' := upd kn g (vp_nar .boolean 1)) (by rw [nI_clamp (by omega)]) (h rn cd' _ h1 h2 fun j hj => pk_un hj)⟩
    | succ d ih =>
      intro p rn cd' m hv hm h1 h2
      obtain ⟨m, rfl⟩ : ∃ k, m = k + 1 := ⟨m - 1, by omega⟩
      have hp : p < 720 := by omega
      refine br_f (nI_ge (b := 720) (by omega) (by omega)) (gc_yrn hp fun rn' hr => gc_ycb (gc_pm_P hp) hg hC hE hr ⟨gc_n720 hg hp, nm_r (e' := upd cd' (g * 720 + p) (gc_aa p x)) (by rw [gc_c720 hg hp]; rfl) (nm_r (nI_1 p) (ih (p + 1) rn' _ m (by omega) (by omega) (fun q hq => ?_) (fun j hj => ?_)))⟩)
      · by_cases c : q = p
        · subst c; rw [pk_us]
        · rw [pk_un (by omega)]; exact h1 q (by omega)
      · rw [pk_un (by omega)]; exact h2 j hj
  refine ⟨vp_in_nI hg (by omega), ?_⟩
  rw [nI_clamp (by omega)]
  exact br_c (fun _ => ⟨721, key 720 0 rn cd 721 (by omega) (by omega) (fun q hq => by omega) (fun j _ => rfl)⟩) (fun c => h rn cd kn (hK c) (fun j _ => rfl) (fun j _ => rfl))
theorem gc_xgB {A B : Prop} {g : Nat} (hg : g < 2) (h : B) : wpX_isGraph (fun r => (r = 0 → A) ∧ (¬ r = 0 → B)) (nI g) := gc_xg hg (br_f gc_10 h)
theorem gc_xgA {A B : Prop} {x : Int32} (hx : x < 0 ∨ nI 2 ≤ x) (h : A) : wpX_isGraph (fun r => (r = 0 → A) ∧ (¬ r = 0 → B)) x := gc_xg_o hx (br_t rfl h)
theorem gc_xvB {A B : Prop} {g : Nat} (hg : g < 6) (h : B) : wpX_isVertex (fun r => (r = 0 → A) ∧ (¬ r = 0 → B)) (nI g) := gc_xv hg (br_f gc_10 h)
theorem gc_xvA {A B : Prop} {x : Int32} (hx : x < 0 ∨ nI 6 ≤ x) (h : A) : wpX_isVertex (fun r => (r = 0 → A) ∧ (¬ r = 0 → B)) x := gc_xv_o hx (br_t rfl h)
theorem gc_ygB {A B : Prop} {g : Nat} (hg : g < 2) (h : B) : wpY_isGraph (fun r => (r = 0 → A) ∧ (¬ r = 0 → B)) (cl, ed, rn, cd, kn) (nI g) := gc_yg hg (br_f gc_10 h)
theorem gc_ygA {A B : Prop} {x : Int32} (hx : x < 0 ∨ nI 2 ≤ x) (h : A) : wpY_isGraph (fun r => (r = 0 → A) ∧ (¬ r = 0 → B)) (cl, ed, rn, cd, kn) x := gc_yg_o hx (br_t rfl h)
theorem gc_yvB {A B : Prop} {g : Nat} (hg : g < 6) (h : B) : wpY_isVertex (fun r => (r = 0 → A) ∧ (¬ r = 0 → B)) (cl, ed, rn, cd, kn) (nI g) := gc_yv hg (br_f gc_10 h)
theorem gc_yvA {A B : Prop} {x : Int32} (hx : x < 0 ∨ nI 6 ≤ x) (h : A) : wpY_isVertex (fun r => (r = 0 → A) ∧ (¬ r = 0 → B)) (cl, ed, rn, cd, kn) x := gc_yv_o hx (br_t rfl h)
theorem gc_yco {post : Int32 → SY → Prop} {x : Int32} {g : Nat} (hg : g < 2) (hH : gc_H x) (hC : gc_GC x cl g) (hE : gc_GE x ed g) (h : ∀ rn' : Nat → Int32, post x (cl, ed, rn', cd, kn)) : wpY_code post (cl, ed, rn, cd, kn) (nI g) := by
  unfold wpY_code
  dsimp only
  refine gc_ygB hg ?_
  refine gc_yrn (n := 0) (by omega) fun rn' hr => ?_
  refine gc_ycb (gc_pm_P (by omega : 0 < 720)) hg hC hE hr ?_
  have e : gc_act (gc_pm 0) x = x := gc_aa_0 hH
  rw [e]
  exact h rn'
end
