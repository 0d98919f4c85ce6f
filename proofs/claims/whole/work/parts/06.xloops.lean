/-! the n-th renumbering, digit by digit -/
def gc_fc (t : Nat) : Nat := (1 - t % 2) + ((1 - t >>> 1 % 2) + ((1 - t >>> 2 % 2) + ((1 - t >>> 3 % 2) + ((1 - t >>> 4 % 2) + (1 - t >>> 5 % 2)))))
def gc_frL (t : Nat) : Nat → Nat → Nat → Nat
  | 0, _, k => k
  | f + 1, r, k => if t >>> k % 2 = 0 then (if r = 0 then k else gc_frL t f (r - 1) (k + 1)) else gc_frL t f r (k + 1)
def gc_fr (t r : Nat) : Nat := gc_frL t 6 r 0
def gc_tk (n : Nat) : Nat → Nat
  | 0 => 0
  | v + 1 => gc_tk n v ||| (1 <<< gc_pm n v)
def gc_dn (v : Nat) : Nat := if v = 0 then 1 else if v = 1 then 6 else if v = 2 then 30 else if v = 3 then 120 else if v = 4 then 360 else 720
def gc_rs (n v : Nat) : Nat := n / gc_dn v
theorem gc_stF : ∀ n, n < 720 → ∀ v, v < 6 → gc_tk n v < 64 ∧ gc_rs n v % (6 - v) < gc_fc (gc_tk n v) ∧ gc_fr (gc_tk n v) (gc_rs n v % (6 - v)) = gc_pm n v := by decide +kernel
theorem gc_dn_s : ∀ v, v < 6 → gc_dn (v + 1) = gc_dn v * (6 - v) := by decide +kernel
theorem gc_rs_s (n : Nat) {v : Nat} (hv : v < 6) : gc_rs n v / (6 - v) = gc_rs n (v + 1) := by
  unfold gc_rs
  rw [gc_dn_s v hv, Nat.div_div_eq_div_mul]
theorem gc_rs_0 (n : Nat) : gc_rs n 0 = n := Nat.div_one n
theorem gc_rs_le (n v : Nat) : gc_rs n v ≤ n := Nat.div_le_self _ _
theorem gc_tkF : ∀ t, t < 64 → ∀ m, m < 6 → nI t ||| ((1 : Int32) <<< (nI m &&& 31)) = nI (t ||| (1 <<< m)) := by decide +kernel
def gc_fx (x0 : Int32) : Nat → Int32 → Int32 → Int32 → Option Int32
  | 0, _, _, _ => none
  | n + 1, x2, x3, x4 => if 6 ≤ x4 then some x2 else if ((x0 >>> (x4 &&& 31)) &&& 1) = 0 then (if x3 = 0 then gc_fx x0 n x4 (x3 + (-1)) (x4 + 1) else gc_fx x0 n x2 (x3 + (-1)) (x4 + 1)) else gc_fx x0 n x2 x3 (x4 + 1)
theorem gc_fxF : ∀ t, t < 64 → ∀ r, r < 6 → r < gc_fc t → gc_fx (nI t) 7 0 (nI r) 0 = some (nI (gc_fr t r)) := by decide +kernel
theorem gc_fx_ok {post : Int32 → Prop} {x0 r : Int32} (h : post r) : ∀ (n : Nat) (x2 x3 x4 : Int32), gc_fx x0 n x2 x3 x4 = some r → wX_freeNumber_7 post x0 n x2 x3 x4 := by
  intro n
  induction n with
  | zero => intro x2 x3 x4 e; exact absurd e (by simp [gc_fx])
  | succ n ih =>
    intro x2 x3 x4 e
    unfold gc_fx at e
    by_cases c1 : 6 ≤ x4
    · rw [if_pos c1] at e
      cases e
      exact br_t c1 h
    · rw [if_neg c1] at e
      by_cases c2 : ((x0 >>> (x4 &&& 31)) &&& 1) = 0
      · rw [if_pos c2] at e
        by_cases c3 : x3 = 0
        · rw [if_pos c3] at e
          exact br_f c1 (br_t c2 (br_t c3 (nm_e (nm_e (ih _ _ _ e)))))
        · rw [if_neg c3] at e
          exact br_f c1 (br_t c2 (br_f c3 (nm_e (nm_e (ih _ _ _ e)))))
      · rw [if_neg c2] at e
        exact br_f c1 (br_f c2 (nm_e (ih _ _ _ e)))
theorem gc_fc_le : ∀ t, t < 64 → gc_fc t ≤ 6 := by decide +kernel
theorem gc_xfn {F : Int32 → Prop} {t r : Nat} {x : Int32} (hx : x = nI r) (ht : t < 64) (hr : r < gc_fc t) (h : F (nI (gc_fr t r))) : wpX_freeNumber F (nI t) x := by
  subst hx
  have := gc_fc_le t ht
  exact ⟨7, gc_fx_ok h 7 0 (nI r) 0 (gc_fxF t ht r (by omega) hr)⟩
theorem gc_xra {post : Int32 → Prop} {n : Nat} (hn : n < 720) (h : ∀ p, gc_R p (gc_pm n) → post p) : wpX_renumberingAt post (nI n) := by
  have key : ∀ (d v : Nat) (p : Int32) (m : Nat), v + d = 6 → d < m → gc_K (gc_pm n) v p → wX_renumberingAt_9 post m p (nI (gc_tk n v)) (nI (gc_rs n v)) (nI v) := by
    intro d
    induction d with
    | zero =>
      intro v p m hv hm hk
      obtain ⟨m, rfl⟩ : ∃ k, m = k + 1 := ⟨m - 1, by omega⟩
      obtain rfl : v = 6 := by omega
      exact br_t (nI_le (a := 6) (b := 6) (by omega) (by omega)) (h p hk.2)
    | succ d ih =>
      intro v p m hv hm hk
      obtain ⟨m, rfl⟩ : ∃ k, m = k + 1 := ⟨m - 1, by omega⟩
      have hv6 : v < 6 := by omega
      obtain ⟨f1, f2, f3⟩ := gc_stF n hn v hv6
      have hl := gc_rs_le n v
      have hp := gc_pm_lt n hn v hv6
      have hs := gc_K_s hv6 (by omega) hk
      have h0 : ¬ nI (6 - v) = 0 := nI_ne0 (by omega) (by omega)
      refine br_f (nI_ge (b := 6) (by omega) (by omega)) (nm_r (pk_sub (a := 6) (b := v) (by omega)) ⟨h0, gc_xfn (r := gc_rs n v % (6 - v)) (pk_rem (by omega) (by omega) (by omega)) f1 f2 ?_⟩)
      rw [f3]
      refine nm_e (nm_r (gc_tkF _ f1 _ hp) ⟨h0, nm_r (pk_div (by omega) (by omega) (by omega)) (nm_r (nI_1 v) ?_)⟩)
      rw [gc_rs_s n hv6]
      exact ih (v + 1) _ m (by omega) (by omega) hs
  have k0 := key 6 0 0 7 (by omega) (by omega) (gc_K_0 _)
  rw [gc_rs_0] at k0
  exact ⟨7, k0⟩
theorem gc_xinit {post : SX → Prop} (h : ∀ ar : Nat → Int32, (∀ n, n < 720 → gc_R (ar n) (gc_pm n)) → post ((fun _ => 0), ar)) : wpX_init post := by
  have key : ∀ (d n : Nat) (ar : Nat → Int32) (m : Nat), n + d = 720 → d < m → (∀ j, j < n → gc_R (ar j) (gc_pm j)) → wX_init_22 post m (nI n) (fun _ => 0) ar := by
    intro d
    induction d with
    | zero =>
      intro n ar m hv hm hk
      obtain ⟨m, rfl⟩ : ∃ k, m = k + 1 := ⟨m - 1, by omega⟩
      obtain rfl : n = 720 := by omega
      exact br_t (nI_le (a := 720) (b := 720) (by omega) (by omega)) (h ar hk)
    | succ d ih =>
      intro n ar m hv hm hk
      obtain ⟨m, rfl⟩ : ∃ k, m = k + 1 := ⟨m - 1, by omega⟩
      refine br_f (nI_ge (b := 720) (by omega) (by omega)) (gc_xra (by omega) fun p hp => ⟨vp_in_nI (by omega) (by omega), nm_r (e' := upd ar n p) (by rw [nI_clamp (by omega)]) (nm_r (nI_1 n) (ih (n + 1) _ m (by omega) (by omega) fun j hj => ?_))⟩)
      by_cases c : j = n
      · subst c; rw [pk_us]; exact hp
      · rw [pk_un c]; exact hk j (by omega)
  exact ⟨721, key 720 0 _ 721 (by omega) (by omega) (fun j hj => by omega)⟩
/-! the component's loops over the 720 -/
def gc_T (ar : Nat → Int32) : Prop := ∀ n, n < 720 → gc_R (ar n) (gc_pm n)
theorem gc_T_c {ar : Nat → Int32} (h : gc_T ar) {n : Nat} (hn : n < 720) : gc_R (ar (nI n).toNatClampNeg) (gc_pm n) := by
  rw [nI_clamp (by omega)]
  exact h n hn
theorem gc_mn_s (x : Int32) (k : Nat) : gc_mn x (k + 1) = if gc_mn x k ≤ gc_aa k x then gc_mn x k else gc_aa k x := rfl
theorem gc_xsm {post : Int32 → Prop} {ac ar : Nat → Int32} {x : Int32} (har : gc_T ar) (h : post (gc_mn x 720)) : wpX_smallestCode post (ac, ar) x := by
  have key : ∀ (d n m : Nat), n + d = 720 → d < m → wX_smallestCode_4 post x ac ar m (gc_mn x n) (nI n) := by
    intro d
    induction d with
    | zero =>
      intro n m hv hm
      obtain ⟨m, rfl⟩ : ∃ k, m = k + 1 := ⟨m - 1, by omega⟩
      obtain rfl : n = 720 := by omega
      exact br_t (nI_le (a := 720) (b := 720) (by omega) (by omega)) h
    | succ d ih =>
      intro n m hv hm
      obtain ⟨m, rfl⟩ : ∃ k, m = k + 1 := ⟨m - 1, by omega⟩
      have ih := ih (n + 1) m (by omega) (by omega)
      rw [gc_mn_s] at ih
      refine br_f (nI_ge (b := 720) (by omega) (by omega)) ⟨vp_in_nI (by omega) (by omega), gc_xren (gc_pm_P (by omega)) (gc_T_c har (by omega)) (br_c (fun c => nm_r (nI_1 n) ?_) (fun c => nm_r (nI_1 n) ?_))⟩
      · rw [if_pos (show gc_mn x n ≤ gc_aa n x from c)] at ih
        exact ih
      · rw [if_neg (show ¬ gc_mn x n ≤ gc_aa n x from c)] at ih
        exact ih
  exact ⟨721, key 720 0 721 (by omega) (by omega)⟩
theorem gc_sy_s (x : Int32) (k : Nat) : gc_sy x (k + 1) = gc_sy x k + if decide (gc_aa k x = x) = true then 1 else 0 := rfl
theorem gc_xsy {post : Int32 → Prop} {ac ar : Nat → Int32} {x : Int32} (har : gc_T ar) (h : post (nI (gc_sy x 720))) : wpX_symmetryCount post (ac, ar) x := by
  have key : ∀ (d n m : Nat), n + d = 720 → d < m → wX_symmetryCount_4 post x ac ar m (nI (gc_sy x n)) (nI n) := by
    intro d
    induction d with
    | zero =>
      intro n m hv hm
      obtain ⟨m, rfl⟩ : ∃ k, m = k + 1 := ⟨m - 1, by omega⟩
      obtain rfl : n = 720 := by omega
      exact br_t (nI_le (a := 720) (b := 720) (by omega) (by omega)) h
    | succ d ih =>
      intro n m hv hm
      obtain ⟨m, rfl⟩ : ∃ k, m = k + 1 := ⟨m - 1, by omega⟩
      have ih := ih (n + 1) m (by omega) (by omega)
      rw [gc_sy_s] at ih
      refine br_f (nI_ge (b := 720) (by omega) (by omega)) ⟨vp_in_nI (by omega) (by omega), gc_xren (gc_pm_P (by omega)) (gc_T_c har (by omega)) (br_c (fun c => nm_r (nI_1 _) (nm_r (nI_1 n) ?_)) (fun c => nm_r (nI_1 n) ?_))⟩
      · rw [if_pos (decide_eq_true (show gc_aa n x = x from c))] at ih
        exact ih
      · rw [if_neg (show ¬ decide (gc_aa n x = x) = true from fun z => c (of_decide_eq_true z))] at ih
        exact ih
  exact ⟨721, key 720 0 721 (by omega) (by omega)⟩
def gc_om (x : Int32) (v : Nat) : Nat → Int32
  | 0 => 0
  | k + 1 => if gc_aa k x = x then gc_om x v k ||| ((1 : Int32) <<< (nI (gc_pm k v) &&& 31)) else gc_om x v k
theorem gc_om_s (x : Int32) (v k : Nat) : gc_om x v (k + 1) = if gc_aa k x = x then gc_om x v k ||| ((1 : Int32) <<< (nI (gc_pm k v) &&& 31)) else gc_om x v k := rfl
theorem gc_xom {post : Int32 → Prop} {ac ar : Nat → Int32} {x : Int32} {v : Nat} (hv : v < 6) (har : gc_T ar) (h : post (gc_om x v 720)) : wpX_orbitMask post (ac, ar) x (nI v) := by
  have key : ∀ (d n m : Nat), n + d = 720 → d < m → wX_orbitMask_5 post x (nI v) ac ar m (gc_om x v n) (nI n) := by
    intro d
    induction d with
    | zero =>
      intro n m hv hm
      obtain ⟨m, rfl⟩ : ∃ k, m = k + 1 := ⟨m - 1, by omega⟩
      obtain rfl : n = 720 := by omega
      exact br_t (nI_le (a := 720) (b := 720) (by omega) (by omega)) h
    | succ d ih =>
      intro n m hv hm
      obtain ⟨m, rfl⟩ : ∃ k, m = k + 1 := ⟨m - 1, by omega⟩
      have ih := ih (n + 1) m (by omega) (by omega)
      rw [gc_om_s] at ih
      have hi : vp_in (nI n) 720 := vp_in_nI (by omega) (by omega)
      refine br_f (nI_ge (b := 720) (by omega) (by omega)) ⟨hi, gc_xren (gc_pm_P (by omega)) (gc_T_c har (by omega)) (br_c (fun c => ⟨hi, gc_xnum (gc_T_c har (by omega)) (by omega) (nm_e (nm_r (nI_1 n) ?_))⟩) (fun c => nm_r (nI_1 n) ?_))⟩
      · rw [if_pos (show gc_aa n x = x from c)] at ih
        exact ih
      · rw [if_neg (show ¬ gc_aa n x = x from c)] at ih
        exact ih
  exact ⟨721, key 720 0 721 (by omega) (by omega)⟩
def gc_on (x : Int32) : Nat → Nat
  | 0 => 0
  | k + 1 => gc_on x k + if (gc_om x k 720 &&& (((1 : Int32) <<< (nI k &&& 31)) - 1)) = 0 then 1 else 0
theorem gc_on_s (x : Int32) (k : Nat) : gc_on x (k + 1) = gc_on x k + if (gc_om x k 720 &&& (((1 : Int32) <<< (nI k &&& 31)) - 1)) = 0 then 1 else 0 := rfl
theorem gc_xon {post : Int32 → Prop} {ac ar : Nat → Int32} {x : Int32} (har : gc_T ar) (h : post (nI (gc_on x 6))) : wpX_orbitCount post (ac, ar) x := by
  have key : ∀ (d n m : Nat), n + d = 6 → d < m → wX_orbitCount_4 post x ac ar m (nI (gc_on x n)) (nI n) := by
    intro d
    induction d with
    | zero =>
      intro n m hv hm
      obtain ⟨m, rfl⟩ : ∃ k, m = k + 1 := ⟨m - 1, by omega⟩
      obtain rfl : n = 6 := by omega
      exact br_t (nI_le (a := 6) (b := 6) (by omega) (by omega)) h
    | succ d ih =>
      intro n m hv hm
      obtain ⟨m, rfl⟩ : ∃ k, m = k + 1 := ⟨m - 1, by omega⟩
      have ih := ih (n + 1) m (by omega) (by omega)
      rw [gc_on_s] at ih
      refine br_f (nI_ge (b := 6) (by omega) (by omega)) (nm_e (gc_xom (by omega) har (br_c (fun c => nm_r (nI_1 _) (nm_r (nI_1 n) ?_)) (fun c => nm_r (nI_1 n) ?_))))
      · rw [if_pos c] at ih
        exact ih
      · rw [if_neg c] at ih
        exact ih
  exact ⟨7, key 6 0 7 (by omega) (by omega)⟩
theorem gc_sy_le (x : Int32) : gc_sy x 720 ≤ 720 := gc_ct_le _ _
theorem gc_xvc {post : Int32 → Prop} {ac ar : Nat → Int32} {x : Int32} (hx : gc_H x) (har : gc_T ar) (h : post (nI (720 / gc_sy x 720))) : wpX_variantCount post (ac, ar) x := by
  have h1 := gc_sy_pos hx
  have h2 := gc_sy_le x
  refine gc_xsy har (br_f (nI_nle h1 (by omega)) ⟨nI_ne0 h1 (by omega), ?_⟩)
  rw [show (720 : Int32) = nI 720 from rfl, pk_div (by omega) h1 (by omega)]
  exact h
def gc_ec (x : Int32) : Nat → Nat
  | 0 => 0
  | k + 1 => gc_ec x k + if bt x k = true then 1 else 0
theorem gc_ec_s (x : Int32) (k : Nat) : gc_ec x (k + 1) = gc_ec x k + if bt x k = true then 1 else 0 := rfl
theorem gc_xec {post : Int32 → Prop} {x : Int32} (h : post (nI (gc_ec x 15))) : wpX_edgeCount post x := by
  have key : ∀ (d n m : Nat), n + d = 15 → d < m → wX_edgeCount_4 post x m (nI (gc_ec x n)) (nI n) := by
    intro d
    induction d with
    | zero =>
      intro n m hv hm
      obtain ⟨m, rfl⟩ : ∃ k, m = k + 1 := ⟨m - 1, by omega⟩
      obtain rfl : n = 15 := by omega
      exact br_t (nI_le (a := 15) (b := 15) (by omega) (by omega)) h
    | succ d ih =>
      intro n m hv hm
      obtain ⟨m, rfl⟩ : ∃ k, m = k + 1 := ⟨m - 1, by omega⟩
      refine br_f (nI_ge (b := 15) (by omega) (by omega)) (nm_r (e' := nI (gc_ec x (n + 1))) ?_ (nm_r (nI_1 n) (ih (n + 1) m (by omega) (by omega))))
      show nI (gc_ec x n) + gc_r1 x n = _
      rw [gc_r1_if x (by omega), gc_ec_s, ← nI_add]
      split <;> rfl
  exact ⟨16, key 15 0 16 (by omega) (by omega)⟩
