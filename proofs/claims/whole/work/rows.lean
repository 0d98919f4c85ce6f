section
/-! rows of kit/rows, pasted -/
def bt (x : Int32) (i : Nat) : Bool := x.toBitVec.getLsbD i
theorem b_ext {x y : Int32} (h : ∀ i, i < 32 → bt x i = bt y i) : x = y := Int32.toBitVec_inj.mp (BitVec.eq_of_getLsbD_eq (fun i hi => h i hi))
theorem b_or (x y : Int32) (i : Nat) : bt (x ||| y) i = (bt x i || bt y i) := by unfold bt; rw [Int32.toBitVec_or, BitVec.getLsbD_or]
theorem b_and (x y : Int32) (i : Nat) : bt (x &&& y) i = (bt x i && bt y i) := by unfold bt; rw [Int32.toBitVec_and, BitVec.getLsbD_and]
theorem b_xor (x y : Int32) (i : Nat) : bt (x ^^^ y) i = (bt x i ^^ bt y i) := by unfold bt; rw [Int32.toBitVec_xor, BitVec.getLsbD_xor]
theorem b_big {x : Int32} {i : Nat} (h : 32 ≤ i) : bt x i = false := BitVec.getLsbD_of_ge _ _ h
theorem b_0 (i : Nat) : bt 0 i = false := BitVec.getLsbD_zero
theorem s_l : ∀ n, n < 32 → ((nI n &&& 31).toBitVec.smod 32).toNat = n := by decide +kernel
theorem b_shl (n : Nat) (hn : n < 32) (x : Int32) {i : Nat} (hi : i < 32) : bt (x <<< (nI n &&& 31)) i = (decide (n ≤ i) && bt x (i - n)) := by
  unfold bt
  rw [Int32.toBitVec_shiftLeft]
  show (x.toBitVec <<< ((nI n &&& 31).toBitVec.smod 32).toNat).getLsbD i = _
  rw [s_l n hn, BitVec.getLsbD_shiftLeft]
  rcases Nat.lt_or_ge i n with h | h
  · simp [h, Nat.not_le.mpr h]
  · simp [hi, h, Nat.not_lt.mpr h]
theorem b_sshr (n : Nat) (hn : n < 32) (x : Int32) {i : Nat} (hi : i < 32) : bt (x >>> (nI n &&& 31)) i = if n + i < 32 then bt x (n + i) else bt x 31 := by
  unfold bt
  rw [Int32.toBitVec_shiftRight]
  show (x.toBitVec.sshiftRight ((nI n &&& 31).toBitVec.smod 32).toNat).getLsbD i = _
  rw [s_l n hn, BitVec.getLsbD_sshiftRight, BitVec.msb_eq_getLsbD_last]
  simp [hi]
theorem pk_us {f : Nat → Int32} {k : Nat} {x : Int32} : upd f k x k = x := if_pos rfl
theorem pk_un {f : Nat → Int32} {k j : Nat} {x : Int32} (h : j ≠ k) : upd f k x j = f j := if_neg h
theorem pk_sub {a b : Nat} (h : b ≤ a) : nI a - nI b = nI (a - b) := by
  obtain ⟨c, rfl⟩ : ∃ c, a = c + b := ⟨a - b, by omega⟩
  rw [← nI_add, Int32.add_sub_cancel, Nat.add_sub_cancel]
theorem pk_m1 (n : Nat) : nI (n + 1) + (-1) = nI n := by
  rw [← nI_1, Int32.add_assoc, show (1 : Int32) + (-1) = 0 from rfl, Int32.add_zero]
theorem pk_mul (a b : Nat) : nI a * nI b = nI (a * b) := (Int32.ofNat_mul a b).symm
theorem pk_div {a d : Nat} (ha : a < 2 ^ 31) (h0 : 0 < d) (hd : d < 2 ^ 31) : nI a / nI d = nI (a / d) := by
  apply Int32.toInt_inj.mp
  rw [lg_idiv_nonneg (by rw [nI_toInt ha]; omega) (by rw [nI_toInt hd]; omega), nI_toInt ha, nI_toInt hd, nI_toInt (Nat.lt_of_le_of_lt (Nat.div_le_self a d) ha)]
  first | rfl | exact (Int.natCast_ediv _ _).symm
theorem pk_rem {a d : Nat} (ha : a < 2 ^ 31) (h0 : 0 < d) (hd : d < 2 ^ 31) : nI a - nI a / nI d * nI d = nI (a % d) := by
  rw [pk_div ha h0 hd, pk_mul, pk_sub (Nat.div_mul_le_self a d)]
  exact congrArg nI (by have := Nat.div_add_mod' a d; omega)
theorem pk_ix (x : Int32) {n : Nat} (hn : n < 2 ^ 31) : x < 0 ∨ nI n ≤ x ∨ ∃ j : Nat, j < n ∧ x = nI j := by
  by_cases h : x < 0
  · exact Or.inl h
  · obtain ⟨j, hj, rfl⟩ := nI_of h
    by_cases h2 : j < n
    · exact Or.inr (Or.inr ⟨j, h2, rfl⟩)
    · exact Or.inr (Or.inl (nI_le (by omega) hj))
theorem pk_le {x y : Int32} {A B : Prop} (a b : Nat) (f : a ≤ b → A) (g : b < a → B) (hx : x = nI a := by rfl) (hy : y = nI b := by rfl) (ha : a < 2 ^ 31 := by omega) (hb : b < 2 ^ 31 := by omega) : (x ≤ y → A) ∧ (¬ x ≤ y → B) := by
  subst hx hy
  rw [nI_leI ha hb]
  exact ⟨f, fun z => g (by omega)⟩
theorem pk_lt {x y : Int32} {A B : Prop} (a b : Nat) (f : a < b → A) (g : b ≤ a → B) (hx : x = nI a := by rfl) (hy : y = nI b := by rfl) (ha : a < 2 ^ 31 := by omega) (hb : b < 2 ^ 31 := by omega) : (x < y → A) ∧ (¬ x < y → B) := by
  subst hx hy
  rw [nI_ltI ha hb]
  exact ⟨f, fun z => g (by omega)⟩
theorem pk_eq {x y : Int32} {A B : Prop} (a b : Nat) (f : a = b → A) (g : a ≠ b → B) (hx : x = nI a := by rfl) (hy : y = nI b := by rfl) (ha : a < 2 ^ 31 := by omega) (hb : b < 2 ^ 31 := by omega) : (x = y → A) ∧ (¬ x = y → B) := by
  subst hx hy
  rw [nI_eq ha hb]
  exact ⟨f, g⟩
theorem pk_in {x : Int32} (n N : Nat) (h : n < N) (hx : x = nI n := by rfl) (hN : N < 2 ^ 31 := by omega) : vp_in x N := by
  subst hx
  exact vp_in_nI h hN
theorem pk_cl {x : Int32} (n : Nat) (hx : x = nI n := by rfl) (h : n < 2 ^ 31 := by omega) : x.toNatClampNeg = n := by
  subst hx
  exact nI_clamp h
theorem pk_loop {σ : Type} (W : Nat → Nat → σ → Prop) (I : Nat → σ → Prop) (e i0 : Nat) (s : σ) (hi : i0 ≤ e) (h0 : I i0 s) (hx : ∀ n s, I e s → W (n + 1) e s)
    (hs : ∀ n i s, i < e → I i s → (∀ s', I (i + 1) s' → W n (i + 1) s') → W (n + 1) i s) : ∃ n, W n i0 s :=
  ⟨e + 1, loop_i W I e hx hs (e + 1) i0 s hi (by omega) h0⟩
end
section
/-! the places of the fields in a code: colour of v at gc_cb v (two bits), pair at gc_pb -/
def gc_cb (v : Nat) : Nat := 25 - 2 * v
def gc_pb (a b : Nat) : Nat := if a < b then 14 - (a * (11 - a) / 2 + (b - a - 1)) else 14 - (b * (11 - b) / 2 + (a - b - 1))
def gc_du (s : Nat) : Nat := if 10 ≤ s then 0 else if 6 ≤ s then 1 else if 3 ≤ s then 2 else if 1 ≤ s then 3 else 4
def gc_dv (s : Nat) : Nat := if 10 ≤ s then 15 - s else if 6 ≤ s then 11 - s else if 3 ≤ s then 8 - s else if 1 ≤ s then 6 - s else 5
def gc_bp (f : Nat → Nat) (s : Nat) : Nat := if s < 15 then gc_pb (f (gc_du s)) (f (gc_dv s)) else 25 - 2 * f ((26 - s) / 2) + (s + 1) % 2
def gc_P (f : Nat → Nat) : Prop := (∀ v, v < 6 → f v < 6) ∧ ∀ v, v < 6 → ∀ w, w < 6 → f v = f w → v = w
theorem gc_pb_comm (a b : Nat) : gc_pb a b = gc_pb b a := by
  unfold gc_pb
  rcases Nat.lt_trichotomy a b with h | h | h
  · rw [if_pos h, if_neg (by omega)]
  · subst h; rfl
  · rw [if_neg (by omega), if_pos h]
theorem gc_pbF : ∀ a, a < 6 → ∀ b, b < 6 → a ≠ b → gc_pb a b < 15 ∧ (gc_du (gc_pb a b) = a ∧ gc_dv (gc_pb a b) = b ∨ gc_du (gc_pb a b) = b ∧ gc_dv (gc_pb a b) = a) := by decide +kernel
theorem gc_dF : ∀ s, s < 15 → gc_du s < gc_dv s ∧ gc_dv s < 6 ∧ gc_pb (gc_du s) (gc_dv s) = s := by decide +kernel
theorem gc_bp_lo {f : Nat → Nat} (hf : gc_P f) {s : Nat} (h : s < 15) : gc_bp f s < 15 := by
  have hd := gc_dF s h
  unfold gc_bp
  rw [if_pos h]
  refine (gc_pbF _ (hf.1 _ (by omega)) _ (hf.1 _ (by omega)) fun e => ?_).1
  have := hf.2 _ (by omega) _ (by omega) e
  omega
theorem gc_bp_hi {f : Nat → Nat} (hf : gc_P f) {s : Nat} (h : 15 ≤ s) (h2 : s < 27) : 15 ≤ gc_bp f s ∧ gc_bp f s < 27 := by
  unfold gc_bp
  rw [if_neg (by omega)]
  have := hf.1 ((26 - s) / 2) (by omega)
  omega
theorem gc_bp_lt {f : Nat → Nat} (hf : gc_P f) {s : Nat} (h : s < 27) : gc_bp f s < 27 := by
  rcases Nat.lt_or_ge s 15 with h1 | h1
  · have := gc_bp_lo hf h1; omega
  · exact (gc_bp_hi hf h1 h).2
theorem gc_bp_iff {f : Nat → Nat} (hf : gc_P f) {s : Nat} (h : s < 27) : gc_bp f s < 15 ↔ s < 15 := by
  rcases Nat.lt_or_ge s 15 with h1 | h1
  · have := gc_bp_lo hf h1; omega
  · have := (gc_bp_hi hf h1 h).1; omega
theorem gc_bp_pb {f : Nat → Nat} {a b : Nat} (ha : a < 6) (hb : b < 6) (hn : a ≠ b) : gc_bp f (gc_pb a b) = gc_pb (f a) (f b) := by
  obtain ⟨h1, h2⟩ := gc_pbF a ha b hb hn
  unfold gc_bp
  rw [if_pos h1]
  rcases h2 with ⟨e1, e2⟩ | ⟨e1, e2⟩
  · rw [e1, e2]
  · rw [e1, e2, gc_pb_comm]
theorem gc_bp_cb {f : Nat → Nat} {a j : Nat} (ha : a < 6) (hj : j < 2) : gc_bp f (gc_cb a + j) = gc_cb (f a) + j := by
  unfold gc_bp gc_cb
  rw [if_neg (by omega), show (26 - (25 - 2 * a + j)) / 2 = a by omega]
  omega
theorem gc_hi_cb {s : Nat} (h : 15 ≤ s) (h2 : s < 27) : ∃ a j, a < 6 ∧ j < 2 ∧ s = gc_cb a + j := by
  refine ⟨(26 - s) / 2, (s + 1) % 2, by omega, by omega, ?_⟩
  unfold gc_cb
  omega
theorem gc_lo_pb {s : Nat} (h : s < 15) : ∃ a b, a < b ∧ b < 6 ∧ s = gc_pb a b :=
  ⟨_, _, (gc_dF s h).1, (gc_dF s h).2.1, (gc_dF s h).2.2.symm⟩
theorem gc_bp_comp {f g : Nat → Nat} (hg : gc_P g) {s : Nat} (h : s < 27) : gc_bp f (gc_bp g s) = gc_bp (fun v => f (g v)) s := by
  rcases Nat.lt_or_ge s 15 with h1 | h1
  · obtain ⟨a, b, hab, hb, rfl⟩ := gc_lo_pb h1
    have hn : g a ≠ g b := fun e => by
      have := hg.2 a (by omega) b hb e
      omega
    rw [gc_bp_pb (by omega) hb (by omega), gc_bp_pb (by omega) hb (by omega), gc_bp_pb (hg.1 a (by omega)) (hg.1 b hb) hn]
  · obtain ⟨a, j, ha, hj, rfl⟩ := gc_hi_cb h1 h
    rw [gc_bp_cb ha hj, gc_bp_cb ha hj, gc_bp_cb (hg.1 a ha) hj]
theorem gc_bp_congr {f g : Nat → Nat} (hfg : ∀ v, v < 6 → f v = g v) {s : Nat} (h : s < 27) : gc_bp f s = gc_bp g s := by
  rcases Nat.lt_or_ge s 15 with h1 | h1
  · obtain ⟨a, b, hab, hb, rfl⟩ := gc_lo_pb h1
    rw [gc_bp_pb (by omega) hb (by omega), gc_bp_pb (by omega) hb (by omega), hfg a (by omega), hfg b hb]
  · obtain ⟨a, j, ha, hj, rfl⟩ := gc_hi_cb h1 h
    rw [gc_bp_cb ha hj, gc_bp_cb ha hj, hfg a ha]
theorem gc_bp_id {s : Nat} (h : s < 27) : gc_bp (fun v => v) s = s := by
  rcases Nat.lt_or_ge s 15 with h1 | h1
  · obtain ⟨a, b, hab, hb, rfl⟩ := gc_lo_pb h1
    rw [gc_bp_pb (by omega) hb (by omega)]
  · obtain ⟨a, j, ha, hj, rfl⟩ := gc_hi_cb h1 h
    rw [gc_bp_cb ha hj]
/-! the table of the 720 renumberings, three bits a number, eighteen bits a renumbering -/
def gc_big : Nat := 455489258773548570415595079421588856161557053054043213469649008584645070751409242507280801191456828495673009906657537972827204697958314009449814830807914924532216482633294747361628090734407432202615239852383947814539614642784055781889691104229490184632934923082895769284697580072704052080545550019943828198023679207931909046944557750825566711352730159844831897115087502732933230412689254462271988073664079600964146925425034139019964360010113265533015512077151532384925589863308119936887089641525320946072005504234725844374211031477024328569645785772299742402520547788366647475349319465248149787586911515003717388719398059647271841725393143185418020734598957685130377221418000945652283745475773784264247467702513125984183805280749385169665580126426006344197977620041642263625809491773192537970899400120641427697075686788342515808388715963805010743771454360536204767283951054825053091597357568785375441193511370657161074008190474709469467146753798374765255104758699119838011357191472811370253296142948797738409177722322066400961177702126057700422919456102678318337535694480627966052451116054819230080569518813586690918740730657367259847410862200762585941240871158574338528877871428005778358517212310608708239887983084872735988295134070566592741599291034532624209167615407766231057441649955597072787520749177608006936672180108136047123686585099755386638269964810573860325989371495141177806033860963320246747866072332630246320333851999865688269483538746554768730622453965246750354756439544300260630370911738424608722934996237928304031434101698766754896789983208589785110552671713046166125854790228403970091329001718183368695268344005449426270225029612459602225355195179673453554198303530682533696975022957110595226162721334084701650881399675593422574000919979611810622147714516838260858708106269096422624291726843630630724983910231040803801578378675914917957593873713893914531502250722450465071246192424885677032754505078699035490016975434147572050400676841193253493729053240814323608140774254335050289484183712889367746317288218842345897906217817406605796096379477433745599965096294801794575967359153479610015537583829389720268941300326957293813904784937161328803371672376176898307409834640127175166485263342744675349033046861867567131239310846030638031852762091124370170304463783284631834177859606858454575019127311335075348249680420894222506078617382771269208908474928607081593998627573605853307821102635975952804487432263369180054605264311606307054481091499122563598135659925969346412602836517106634966681628592336083838065938129311709457094928056245746732769314924073882087411892993032591185173191965993009593666335995103402169511349862529414700272505132323525177283024402307644262996572454071258319139243458549690508596129698133064008190777397277190909098671299622642512927721618431282010912898645710967664394926261693389667631971492849841921268150790934643414381635864685038274970978752750729066052703409925973537249339438377899341299138058910403157933551237163274301297017268571070545285214502999844147503036901287136597525143834035280685464838007833971980715417069666216578533919192261945451714393947188340212054682078288125482244384788480039412080844385582869084325882863985616634248751386033120383768030270422113721809841424511518795109336843331921044810407748389549950972438824274048380388520028720884887139559005006933771991444920052224070835154722577782652878104284125112121212929795756702530060696717187449587144363343738961379650516253927611333561133773268421107021475398190713507384328097163079620356048129414172995716828880524546454781001863670034630681989216173686862208644445571838235388189558249766235393492030038579519157408934870214490237670707747474573838858560262877961416226704577992163992794488226340110922095690745963190741254787627171490014665308475680646674525105129555433213605144965446224358090274311549353700389556033543874360310259094707288503990930200840432427798546056
def gc_pm (n v : Nat) : Nat := gc_big >>> (18 * n + 3 * v) % 8
def gc_lt (a b : Nat) : Nat := if a < b then 1 else 0
def gc_rk (a b c d e f : Nat) : Nat := a + 6 * ((b - gc_lt a b) + 5 * ((c - gc_lt a c - gc_lt b c) + 4 * ((d - gc_lt a d - gc_lt b d - gc_lt c d) + 3 * ((e - gc_lt a e - gc_lt b e - gc_lt c e - gc_lt d e) + 2 * (f - gc_lt a f - gc_lt b f - gc_lt c f - gc_lt d f - gc_lt e f)))))
def gc_chk (a b c d e f : Nat) : Bool :=
  decide (gc_rk a b c d e f < 720) && (gc_pm (gc_rk a b c d e f) 0 == a && (gc_pm (gc_rk a b c d e f) 1 == b && (gc_pm (gc_rk a b c d e f) 2 == c && (gc_pm (gc_rk a b c d e f) 3 == d && (gc_pm (gc_rk a b c d e f) 4 == e && gc_pm (gc_rk a b c d e f) 5 == f)))))
def gc_all6 (p : Nat → Bool) : Bool := p 0 && (p 1 && (p 2 && (p 3 && (p 4 && p 5))))
theorem gc_all6_e {p : Nat → Bool} (h : gc_all6 p = true) {v : Nat} (hv : v < 6) : p v = true := by
  unfold gc_all6 at h
  simp only [Bool.and_eq_true] at h
  obtain ⟨a, b, c, d, e, f⟩ := h
  match v, hv with
  | 0, _ => exact a
  | 1, _ => exact b
  | 2, _ => exact c
  | 3, _ => exact d
  | 4, _ => exact e
  | 5, _ => exact f
  | n + 6, h => omega
def gc_chkAll : Bool := gc_all6 fun a => gc_all6 fun b => b == a || gc_all6 fun c => (c == a || c == b) || gc_all6 fun d => (d == a || d == b || d == c) || gc_all6 fun e => (e == a || e == b || e == c || e == d) || gc_all6 fun f => (f == a || f == b || f == c || f == d || f == e) || gc_chk a b c d e f
theorem gc_chkAll_ok : gc_chkAll = true := by decide +kernel
theorem gc_rkF (a : Nat) (ha : a < 6) (b : Nat) (hb : b < 6) (b1 : ¬ b = a) (c : Nat) (hc : c < 6) (c1 : ¬ c = a) (c2 : ¬ c = b) (d : Nat) (hd : d < 6) (d1 : ¬ d = a) (d2 : ¬ d = b) (d3 : ¬ d = c) (e : Nat) (he : e < 6) (e1 : ¬ e = a) (e2 : ¬ e = b) (e3 : ¬ e = c) (e4 : ¬ e = d) (f : Nat) (hf : f < 6) (f1 : ¬ f = a) (f2 : ¬ f = b) (f3 : ¬ f = c) (f4 : ¬ f = d) (f5 : ¬ f = e) : gc_chk a b c d e f = true := by
  have h := gc_all6_e (gc_all6_e gc_chkAll_ok ha) hb
  simp only [Bool.or_eq_true, beq_iff_eq, b1, false_or] at h
  have h := gc_all6_e h hc
  simp only [Bool.or_eq_true, beq_iff_eq, c1, c2, false_or, or_false] at h
  have h := gc_all6_e h hd
  simp only [Bool.or_eq_true, beq_iff_eq, d1, d2, d3, false_or, or_false] at h
  have h := gc_all6_e h he
  simp only [Bool.or_eq_true, beq_iff_eq, e1, e2, e3, e4, false_or, or_false] at h
  have h := gc_all6_e h hf
  simp only [Bool.or_eq_true, beq_iff_eq, f1, f2, f3, f4, f5, false_or, or_false] at h
  exact h
def gc_rkp (n : Nat) : Nat := gc_rk (gc_pm n 0) (gc_pm n 1) (gc_pm n 2) (gc_pm n 3) (gc_pm n 4) (gc_pm n 5)
theorem gc_rkI : ∀ n, n < 720 → gc_rkp n = n := by decide +kernel
def gc_vf (n v : Nat) : Nat := if gc_pm n 0 = v then 0 else if gc_pm n 1 = v then 1 else if gc_pm n 2 = v then 2 else if gc_pm n 3 = v then 3 else if gc_pm n 4 = v then 4 else 5
def gc_iv (n : Nat) : Nat := gc_rk (gc_vf n 0) (gc_vf n 1) (gc_vf n 2) (gc_vf n 3) (gc_vf n 4) (gc_vf n 5)
theorem gc_iv_lt : ∀ n, n < 720 → gc_iv n < 720 := by decide +kernel
theorem gc_iv_l : ∀ n, n < 720 → ∀ v, v < 6 → gc_pm (gc_iv n) (gc_pm n v) = v := by decide +kernel
theorem gc_iv_r : ∀ n, n < 720 → ∀ v, v < 6 → gc_pm n (gc_pm (gc_iv n) v) = v := by decide +kernel
theorem gc_pm_lt : ∀ n, n < 720 → ∀ v, v < 6 → gc_pm n v < 6 := by decide +kernel
theorem gc_pm_0 : ∀ v, v < 6 → gc_pm 0 v = v := by decide +kernel
theorem gc_pm_P {n : Nat} (h : n < 720) : gc_P (gc_pm n) :=
  ⟨gc_pm_lt n h, fun v hv w hw e => by rw [← gc_iv_l n h v hv, e, gc_iv_l n h w hw]⟩
theorem gc_six {P : Nat → Prop} (h0 : P 0) (h1 : P 1) (h2 : P 2) (h3 : P 3) (h4 : P 4) (h5 : P 5) : ∀ v, v < 6 → P v := by
  intro v hv
  match v, hv with
  | 0, _ => exact h0
  | 1, _ => exact h1
  | 2, _ => exact h2
  | 3, _ => exact h3
  | 4, _ => exact h4
  | 5, _ => exact h5
  | n + 6, h => omega
theorem gc_rk_ok {f : Nat → Nat} (hf : gc_P f) : gc_rk (f 0) (f 1) (f 2) (f 3) (f 4) (f 5) < 720 ∧ ∀ v, v < 6 → gc_pm (gc_rk (f 0) (f 1) (f 2) (f 3) (f 4) (f 5)) v = f v := by
  have ne : ∀ v w, v < 6 → w < 6 → v ≠ w → ¬ f v = f w := fun v w hv hw h e => h (hf.2 v hv w hw e)
  have h := gc_rkF (f 0) (hf.1 0 (by omega)) (f 1) (hf.1 1 (by omega)) (ne 1 0 (by omega) (by omega) (by omega))
    (f 2) (hf.1 2 (by omega)) (ne 2 0 (by omega) (by omega) (by omega)) (ne 2 1 (by omega) (by omega) (by omega))
    (f 3) (hf.1 3 (by omega)) (ne 3 0 (by omega) (by omega) (by omega)) (ne 3 1 (by omega) (by omega) (by omega)) (ne 3 2 (by omega) (by omega) (by omega))
    (f 4) (hf.1 4 (by omega)) (ne 4 0 (by omega) (by omega) (by omega)) (ne 4 1 (by omega) (by omega) (by omega)) (ne 4 2 (by omega) (by omega) (by omega)) (ne 4 3 (by omega) (by omega) (by omega))
    (f 5) (hf.1 5 (by omega)) (ne 5 0 (by omega) (by omega) (by omega)) (ne 5 1 (by omega) (by omega) (by omega)) (ne 5 2 (by omega) (by omega) (by omega)) (ne 5 3 (by omega) (by omega) (by omega)) (ne 5 4 (by omega) (by omega) (by omega))
  unfold gc_chk at h
  simp only [Bool.and_eq_true, decide_eq_true_eq, beq_iff_eq] at h
  obtain ⟨h, a, b, c, d, e, g⟩ := h
  exact ⟨h, gc_six a b c d e g⟩
theorem gc_pm_inj {n m : Nat} (hn : n < 720) (hm : m < 720) (h : ∀ v, v < 6 → gc_pm n v = gc_pm m v) : n = m := by
  rw [← gc_rkI n hn, ← gc_rkI m hm]
  unfold gc_rkp
  rw [h 0 (by omega), h 1 (by omega), h 2 (by omega), h 3 (by omega), h 4 (by omega), h 5 (by omega)]
def gc_mul (n m : Nat) : Nat := gc_rk (gc_pm n (gc_pm m 0)) (gc_pm n (gc_pm m 1)) (gc_pm n (gc_pm m 2)) (gc_pm n (gc_pm m 3)) (gc_pm n (gc_pm m 4)) (gc_pm n (gc_pm m 5))
theorem gc_P_comp {f g : Nat → Nat} (hf : gc_P f) (hg : gc_P g) : gc_P (fun v => f (g v)) :=
  ⟨fun v hv => hf.1 _ (hg.1 v hv), fun v hv w hw e => hg.2 v hv w hw (hf.2 _ (hg.1 v hv) _ (hg.1 w hw) e)⟩
theorem gc_mul_ok {n m : Nat} (hn : n < 720) (hm : m < 720) : gc_mul n m < 720 ∧ ∀ v, v < 6 → gc_pm (gc_mul n m) v = gc_pm n (gc_pm m v) :=
  gc_rk_ok (f := fun v => gc_pm n (gc_pm m v)) (gc_P_comp (gc_pm_P hn) (gc_pm_P hm))
end
section
/-! a renumbering moves the 27 bits of a code -/
def gc_ob (x : Int32) (s t : Nat) : Int32 := ((x >>> (nI s &&& 31)) &&& 1) <<< (nI t &&& 31)
def gc_oc (x : Int32) (s t : Nat) : Int32 := ((x >>> (nI s &&& 31)) &&& 3) <<< (nI t &&& 31)
def gc_act (f : Nat → Nat) (x : Int32) : Int32 := (List.range 27).foldl (fun r s => r ||| gc_ob x s (gc_bp f s)) 0
theorem gc_fold (g : Nat → Int32) (i : Nat) : ∀ (l : List Nat) (r : Int32), bt (l.foldl (fun r s => r ||| g s) r) i = true ↔ bt r i = true ∨ ∃ s, s ∈ l ∧ bt (g s) i = true := by
  intro l
  induction l with
  | nil => intro r; simp
  | cons a l ih =>
    intro r
    rw [List.foldl_cons, ih, b_or, Bool.or_eq_true]
    constructor
    · rintro ((h | h) | ⟨s, h1, h2⟩)
      · exact Or.inl h
      · exact Or.inr ⟨a, List.mem_cons_self, h⟩
      · exact Or.inr ⟨s, List.mem_cons_of_mem _ h1, h2⟩
    · rintro (h | ⟨s, h1, h2⟩)
      · exact Or.inl (Or.inl h)
      · rcases List.mem_cons.mp h1 with e | e
        · subst e; exact Or.inl (Or.inr h2)
        · exact Or.inr ⟨s, e, h2⟩
theorem gc_b1 (i : Nat) : bt 1 i = decide (i = 0) := by
  rcases Nat.lt_or_ge i 32 with h | h
  · exact (by decide +kernel : ∀ i, i < 32 → bt 1 i = decide (i = 0)) i h
  · rw [b_big h, decide_eq_false (by omega)]
theorem gc_b3 (i : Nat) : bt 3 i = decide (i < 2) := by
  rcases Nat.lt_or_ge i 32 with h | h
  · exact (by decide +kernel : ∀ i, i < 32 → bt 3 i = decide (i < 2)) i h
  · rw [b_big h, decide_eq_false (by omega)]
theorem gc_b15 (i : Nat) : bt 32767 i = decide (i < 15) := by
  rcases Nat.lt_or_ge i 32 with h | h
  · exact (by decide +kernel : ∀ i, i < 32 → bt 32767 i = decide (i < 15)) i h
  · rw [b_big h, decide_eq_false (by omega)]
theorem gc_b27 (i : Nat) : bt 134217727 i = decide (i < 27) := by
  rcases Nat.lt_or_ge i 32 with h | h
  · exact (by decide +kernel : ∀ i, i < 32 → bt 134217727 i = decide (i < 27)) i h
  · rw [b_big h, decide_eq_false (by omega)]
/-- a bit read: 0 or 1 -/
def gc_r1 (x : Int32) (s : Nat) : Int32 := (x >>> (nI s &&& 31)) &&& 1
/-- a colour read: two bits -/
def gc_r3 (x : Int32) (s : Nat) : Int32 := (x >>> (nI s &&& 31)) &&& 3
theorem gc_bt_r1 (x : Int32) {s : Nat} (hs : s < 32) (i : Nat) : bt (gc_r1 x s) i = (decide (i = 0) && bt x s) := by
  unfold gc_r1
  rw [b_and, gc_b1]
  by_cases h : i = 0
  · subst h
    rw [b_sshr s hs x (by omega)]
    simp [hs]
  · simp [h]
theorem gc_bt_r3 (x : Int32) {s : Nat} (hs : s < 31) (i : Nat) : bt (gc_r3 x s) i = (decide (i < 2) && bt x (s + i)) := by
  unfold gc_r3
  rw [b_and, gc_b3]
  by_cases h : i < 2
  · rw [b_sshr s (by omega) x (by omega), if_pos (by omega)]
    simp [h]
  · simp [h]
theorem gc_r1_if (x : Int32) {s : Nat} (hs : s < 32) : gc_r1 x s = if bt x s = true then 1 else 0 := by
  apply b_ext
  intro i hi
  rw [gc_bt_r1 x hs]
  by_cases h : bt x s = true
  · rw [if_pos h, gc_b1, h]; simp
  · rw [if_neg h, b_0, Bool.not_eq_true _ |>.mp h]; simp
theorem gc_r1_eq {x y : Int32} {s t : Nat} (hs : s < 32) (ht : t < 32) (h : bt x s = bt y t) : gc_r1 x s = gc_r1 y t := by
  rw [gc_r1_if x hs, gc_r1_if y ht, h]
theorem gc_r3_eq {x y : Int32} {s t : Nat} (hs : s < 31) (ht : t < 31) (h0 : bt x s = bt y t) (h1 : bt x (s + 1) = bt y (t + 1)) : gc_r3 x s = gc_r3 y t := by
  apply b_ext
  intro i hi
  rw [gc_bt_r3 x hs, gc_bt_r3 y ht]
  by_cases h : i < 2
  · rcases (show i = 0 ∨ i = 1 by omega) with e | e
    · subst e; simp [h0]
    · subst e; simp [h1]
  · simp [h]
theorem gc_bt_ob (x : Int32) {s t i : Nat} (hs : s < 32) (ht : t < 32) (hi : i < 32) : bt (gc_ob x s t) i = true ↔ bt x s = true ∧ t = i := by
  have e : gc_ob x s t = gc_r1 x s <<< (nI t &&& 31) := rfl
  rw [e, b_shl t ht _ hi, gc_bt_r1 x hs]
  simp only [Bool.and_eq_true, decide_eq_true_eq]
  constructor
  · rintro ⟨a, b, c⟩; exact ⟨c, by omega⟩
  · rintro ⟨a, b⟩; exact ⟨by omega, by omega, a⟩
theorem gc_bt_oc (x : Int32) {s t i : Nat} (hs : s < 31) (ht : t < 31) (hi : i < 32) : bt (gc_oc x s t) i = true ↔ ∃ j, j < 2 ∧ bt x (s + j) = true ∧ t + j = i := by
  have e : gc_oc x s t = gc_r3 x s <<< (nI t &&& 31) := rfl
  rw [e, b_shl t (by omega) _ hi, gc_bt_r3 x hs]
  simp only [Bool.and_eq_true, decide_eq_true_eq]
  constructor
  · rintro ⟨a, b, c⟩; exact ⟨i - t, b, c, by omega⟩
  · rintro ⟨j, a, b, c⟩
    obtain rfl : j = i - t := by omega
    exact ⟨by omega, a, b⟩
theorem gc_bt_act {f : Nat → Nat} (hf : gc_P f) (x : Int32) {i : Nat} (hi : i < 32) : bt (gc_act f x) i = true ↔ ∃ s, s < 27 ∧ bt x s = true ∧ gc_bp f s = i := by
  unfold gc_act
  rw [gc_fold (fun s => gc_ob x s (gc_bp f s)), b_0]
  constructor
  · rintro (h | ⟨s, h1, h2⟩)
    · exact absurd h (by decide)
    · have hs := List.mem_range.mp h1
      have := gc_bp_lt hf hs
      rw [gc_bt_ob x (by omega) (by omega) hi] at h2
      exact ⟨s, hs, h2⟩
  · rintro ⟨s, hs, h⟩
    have := gc_bp_lt hf hs
    exact Or.inr ⟨s, List.mem_range.mpr hs, (gc_bt_ob x (by omega) (by omega) hi).mpr h⟩
/-- the high bits are 0 -/
def gc_H (x : Int32) : Prop := ∀ i, 27 ≤ i → bt x i = false
theorem gc_beq {a b : Bool} (h : a = true ↔ b = true) : a = b := Bool.eq_iff_iff.mpr h
theorem gc_act_H {f : Nat → Nat} (hf : gc_P f) (x : Int32) : gc_H (gc_act f x) := by
  intro i hi
  rcases Nat.lt_or_ge i 32 with h | h
  · refine Bool.not_eq_true _ |>.mp fun e => ?_
    obtain ⟨s, hs, _, h2⟩ := (gc_bt_act hf x h).mp e
    have := gc_bp_lt hf hs
    omega
  · exact b_big h
theorem gc_act_comp {f g : Nat → Nat} (hf : gc_P f) (hg : gc_P g) (x : Int32) : gc_act f (gc_act g x) = gc_act (fun v => f (g v)) x := by
  apply b_ext
  intro i hi
  apply gc_beq
  rw [gc_bt_act hf _ hi, gc_bt_act (gc_P_comp hf hg) _ hi]
  constructor
  · rintro ⟨s, hs, h1, h2⟩
    obtain ⟨t, ht, h3, h4⟩ := (gc_bt_act hg x (by omega)).mp h1
    exact ⟨t, ht, h3, by rw [← gc_bp_comp hg ht, h4, h2]⟩
  · rintro ⟨t, ht, h3, h4⟩
    have := gc_bp_lt hg ht
    exact ⟨gc_bp g t, this, (gc_bt_act hg x (by omega)).mpr ⟨t, ht, h3, rfl⟩, by rw [gc_bp_comp hg ht, h4]⟩
theorem gc_act_congr {f g : Nat → Nat} (hf : gc_P f) (hg : gc_P g) (h : ∀ v, v < 6 → f v = g v) (x : Int32) : gc_act f x = gc_act g x := by
  apply b_ext
  intro i hi
  apply gc_beq
  rw [gc_bt_act hf _ hi, gc_bt_act hg _ hi]
  constructor
  · rintro ⟨s, hs, h1, h2⟩; exact ⟨s, hs, h1, by rw [← gc_bp_congr h hs, h2]⟩
  · rintro ⟨s, hs, h1, h2⟩; exact ⟨s, hs, h1, by rw [gc_bp_congr h hs, h2]⟩
theorem gc_P_id : gc_P (fun v => v) := ⟨fun _ h => h, fun _ _ _ _ e => e⟩
theorem gc_act_id {x : Int32} (hx : gc_H x) : gc_act (fun v => v) x = x := by
  apply b_ext
  intro i hi
  apply gc_beq
  rw [gc_bt_act gc_P_id _ hi]
  constructor
  · rintro ⟨s, hs, h1, h2⟩
    rw [gc_bp_id hs] at h2
    rw [← h2]; exact h1
  · intro h
    rcases Nat.lt_or_ge i 27 with h1 | h1
    · exact ⟨i, h1, h, gc_bp_id h1⟩
    · rw [hx i h1] at h; exact absurd h (by decide)
theorem gc_act_mask {f : Nat → Nat} (hf : gc_P f) (x : Int32) : gc_act f (x &&& 32767) = gc_act f x &&& 32767 := by
  apply b_ext
  intro i hi
  apply gc_beq
  rw [gc_bt_act hf _ hi, b_and, Bool.and_eq_true, gc_bt_act hf _ hi, gc_b15, decide_eq_true_eq]
  constructor
  · rintro ⟨s, hs, h1, h2⟩
    rw [b_and, Bool.and_eq_true, gc_b15, decide_eq_true_eq] at h1
    exact ⟨⟨s, hs, h1.1, h2⟩, by rw [← h2]; exact gc_bp_lo hf h1.2⟩
  · rintro ⟨⟨s, hs, h1, h2⟩, h3⟩
    refine ⟨s, hs, ?_, h2⟩
    rw [b_and, Bool.and_eq_true, gc_b15, decide_eq_true_eq]
    exact ⟨h1, (gc_bp_iff hf hs).mp (by omega)⟩
theorem gc_H_mask {x : Int32} (hx : gc_H x) : x &&& 134217727 = x := by
  apply b_ext
  intro i hi
  rw [b_and, gc_b27]
  by_cases h : i < 27
  · simp [h]
  · rw [hx i (by omega)]; rfl
theorem gc_H_and {x : Int32} (y : Int32) (hx : gc_H x) : gc_H (x &&& y) := by
  intro i hi
  rw [b_and, hx i hi]; rfl
/-! the 720 actions -/
def gc_aa (n : Nat) (x : Int32) : Int32 := gc_act (gc_pm n) x
theorem gc_aa_H {n : Nat} (h : n < 720) (x : Int32) : gc_H (gc_aa n x) := gc_act_H (gc_pm_P h) x
theorem gc_aa_0 {x : Int32} (hx : gc_H x) : gc_aa 0 x = x := by
  unfold gc_aa
  rw [gc_act_congr (gc_pm_P (by omega)) gc_P_id gc_pm_0, gc_act_id hx]
theorem gc_aa_mul {n m : Nat} (hn : n < 720) (hm : m < 720) (x : Int32) : gc_aa n (gc_aa m x) = gc_aa (gc_mul n m) x := by
  unfold gc_aa
  have h := gc_mul_ok hn hm
  rw [gc_act_comp (gc_pm_P hn) (gc_pm_P hm)]
  exact gc_act_congr (gc_P_comp (gc_pm_P hn) (gc_pm_P hm)) (gc_pm_P h.1) (fun v hv => (h.2 v hv).symm) x
theorem gc_aa_iv {n : Nat} (hn : n < 720) {x : Int32} (hx : gc_H x) : gc_aa (gc_iv n) (gc_aa n x) = x := by
  unfold gc_aa
  have h := gc_iv_lt n hn
  rw [gc_act_comp (gc_pm_P h) (gc_pm_P hn), gc_act_congr (gc_P_comp (gc_pm_P h) (gc_pm_P hn)) gc_P_id (fun v hv => gc_iv_l n hn v hv), gc_act_id hx]
theorem gc_aa_inj {n : Nat} (hn : n < 720) {x y : Int32} (hx : gc_H x) (hy : gc_H y) (h : gc_aa n x = gc_aa n y) : x = y := by
  rw [← gc_aa_iv hn hx, h, gc_aa_iv hn hy]
end
section
/-! counting over the 720 -/
def gc_ct (p : Nat → Bool) : Nat → Nat
  | 0 => 0
  | k + 1 => gc_ct p k + if p k = true then 1 else 0
theorem gc_ct_s (p : Nat → Bool) (k : Nat) : gc_ct p (k + 1) = gc_ct p k + if p k = true then 1 else 0 := rfl
theorem gc_ct_le (p : Nat → Bool) : ∀ k, gc_ct p k ≤ k := by
  intro k
  induction k with
  | zero => exact Nat.le_refl 0
  | succ k ih => unfold gc_ct; split <;> omega
theorem gc_ct_P (p : Nat → Bool) : ∀ k, gc_ct p k = (List.range k).countP p := by
  intro k
  induction k with
  | zero => rfl
  | succ k ih =>
    rw [List.range_succ, List.countP_append, ← ih, gc_ct_s]
    simp [List.countP_cons]
theorem gc_ct_congr {p q : Nat → Bool} : ∀ k, (∀ j, j < k → p j = q j) → gc_ct p k = gc_ct q k := by
  intro k
  induction k with
  | zero => intro _; rfl
  | succ k ih =>
    intro h
    unfold gc_ct
    rw [ih (fun j hj => h j (by omega)), h k (by omega)]
theorem gc_ct_or {p q r : Nat → Bool} : ∀ k, (∀ j, j < k → (r j = true ↔ p j = true ∨ q j = true) ∧ ¬ (p j = true ∧ q j = true)) → gc_ct r k = gc_ct p k + gc_ct q k := by
  intro k
  induction k with
  | zero => intro _; rfl
  | succ k ih =>
    intro h
    have h1 := h k (by omega)
    have h2 := ih (fun j hj => h j (by omega))
    unfold gc_ct
    rw [h2]
    by_cases a : p k = true
    · by_cases b : q k = true
      · exact absurd ⟨a, b⟩ h1.2
      · rw [if_pos (h1.1.mpr (Or.inl a)), if_pos a, if_neg b]; omega
    · by_cases b : q k = true
      · rw [if_pos (h1.1.mpr (Or.inr b)), if_neg a, if_pos b]; omega
      · rw [if_neg (fun z => (h1.1.mp z).elim a b), if_neg a, if_neg b]; omega
theorem gc_ct_all {p : Nat → Bool} : ∀ k, (∀ j, j < k → p j = true) → gc_ct p k = k := by
  intro k
  induction k with
  | zero => intro _; rfl
  | succ k ih =>
    intro h
    unfold gc_ct
    rw [ih (fun j hj => h j (by omega)), if_pos (h k (by omega))]
theorem gc_ct_none {p : Nat → Bool} : ∀ k, (∀ j, j < k → ¬ p j = true) → gc_ct p k = 0 := by
  intro k
  induction k with
  | zero => intro _; rfl
  | succ k ih =>
    intro h
    unfold gc_ct
    rw [ih (fun j hj => h j (by omega)), if_neg (h k (by omega))]
theorem gc_ct_pos {p : Nat → Bool} : ∀ k j, j < k → p j = true → 0 < gc_ct p k := by
  intro k
  induction k with
  | zero => intro j h; omega
  | succ k ih =>
    intro j h hp
    unfold gc_ct
    rcases (show j < k ∨ j = k by omega) with h | h
    · have := ih j h hp; omega
    · subst h; rw [if_pos hp]; omega
/-- re-indexing by a bijection of 0 .. k - 1 -/
theorem gc_ct_bij {p : Nat → Bool} {k : Nat} (m : Nat → Nat) (hm : ∀ j, j < k → m j < k) (hi : ∀ i, i < k → ∀ j, j < k → m i = m j → i = j) (hs : ∀ j, j < k → ∃ i, i < k ∧ m i = j) : gc_ct p k = gc_ct (fun j => p (m j)) k := by
  rw [gc_ct_P, gc_ct_P]
  have hp : List.Perm (List.range k) ((List.range k).map m) := by
    refine (List.perm_ext_iff_of_nodup List.nodup_range ?_).mpr fun a => ?_
    · unfold List.Nodup
      rw [List.pairwise_map]
      refine List.Pairwise.imp_of_mem (fun {a b} ha hb hab e => ?_) (List.nodup_range (n := k))
      exact hab (hi a (List.mem_range.mp ha) b (List.mem_range.mp hb) e)
    · rw [List.mem_range, List.mem_map]
      constructor
      · intro h
        obtain ⟨i, hi, e⟩ := hs a h
        exact ⟨i, List.mem_range.mpr hi, e⟩
      · rintro ⟨i, hi, e⟩
        rw [← e]
        exact hm i (List.mem_range.mp hi)
  rw [hp.countP_eq, List.countP_map]
  rfl
/-! how many different values: counted at the first -/
def gc_new (a : Nat → Int32) (p : Nat) : Bool := decide (∀ q, q < p → ¬ a q = a p)
theorem gc_firsts {a : Nat → Int32} {N S : Nat} (h : ∀ p, p < N → gc_ct (fun q => decide (a q = a p)) N = S) : gc_ct (gc_new a) N * S = N := by
  have key : ∀ k, k ≤ N → gc_ct (gc_new a) k * S = gc_ct (fun q => decide (∃ p, p < k ∧ a p = a q)) N := by
    intro k
    induction k with
    | zero =>
      intro _
      rw [gc_ct_none N (fun j _ => by simp)]
      unfold gc_ct
      omega
    | succ k ih =>
      intro hk
      have ih := ih (by omega)
      rw [gc_ct_s]
      by_cases hn : gc_new a k = true
      · rw [if_pos hn, Nat.add_mul, ih, Nat.one_mul, ← h k (by omega)]
        refine (gc_ct_or N fun j hj => ?_).symm
        unfold gc_new at hn
        simp only [decide_eq_true_eq] at hn ⊢
        constructor
        · constructor
          · rintro ⟨p, hp, e⟩
            rcases (show p < k ∨ p = k by omega) with z | z
            · exact Or.inl ⟨p, z, e⟩
            · subst z; exact Or.inr e.symm
          · rintro (⟨p, hp, e⟩ | e)
            · exact ⟨p, by omega, e⟩
            · exact ⟨k, by omega, e.symm⟩
        · rintro ⟨⟨p, hp, e⟩, e2⟩
          exact hn p hp (e.trans e2)
      · rw [if_neg hn, Nat.add_zero, ih]
        refine gc_ct_congr N fun j hj => gc_beq ?_
        unfold gc_new at hn
        simp only [decide_eq_true_eq] at hn ⊢
        constructor
        · rintro ⟨p, hp, e⟩; exact ⟨p, by omega, e⟩
        · rintro ⟨p, hp, e⟩
          rcases (show p < k ∨ p = k by omega) with z | z
          · exact ⟨p, z, e⟩
          · subst z
            apply Classical.byContradiction
            intro hc
            exact hn fun q hq e2 => hc ⟨q, hq, e2.trans e⟩
  rw [key N (Nat.le_refl N)]
  exact gc_ct_all N fun j hj => by simp only [decide_eq_true_eq]; exact ⟨j, hj, rfl⟩
def gc_sy (x : Int32) (k : Nat) : Nat := gc_ct (fun q => decide (gc_aa q x = x)) k
theorem gc_sy_pos {x : Int32} (hx : gc_H x) : 0 < gc_sy x 720 :=
  gc_ct_pos 720 0 (by omega) (by rw [decide_eq_true_eq]; exact gc_aa_0 hx)
theorem gc_same {x : Int32} (hx : gc_H x) (p : Nat) (hp : p < 720) : gc_ct (fun q => decide (gc_aa q x = gc_aa p x)) 720 = gc_sy x 720 := by
  have hv := gc_iv_lt p hp
  rw [gc_ct_bij (gc_mul p) (fun j hj => (gc_mul_ok hp hj).1) (fun i hi j hj e => ?_) (fun j hj => ?_)]
  · refine gc_ct_congr 720 fun j hj => gc_beq ?_
    simp only [decide_eq_true_eq]
    rw [← gc_aa_mul hp hj]
    exact ⟨fun e => gc_aa_inj hp (gc_aa_H hj x) hx e, fun e => by rw [e]⟩
  · refine gc_pm_inj hi hj fun v hv => ?_
    refine (gc_pm_P hp).2 _ (gc_pm_lt i hi v hv) _ (gc_pm_lt j hj v hv) ?_
    rw [← (gc_mul_ok hp hi).2 v hv, ← (gc_mul_ok hp hj).2 v hv, e]
  · have h1 := gc_mul_ok hv hj
    refine ⟨gc_mul (gc_iv p) j, h1.1, ?_⟩
    have h2 := gc_mul_ok hp h1.1
    refine gc_pm_inj h2.1 hj fun v hv => ?_
    rw [h2.2 v hv, h1.2 v hv, gc_iv_r p hp _ (gc_pm_lt j hj v hv)]
theorem gc_variants {x : Int32} (hx : gc_H x) : gc_ct (gc_new fun p => gc_aa p x) 720 = 720 / gc_sy x 720 := by
  have h := gc_firsts (a := fun p => gc_aa p x) (gc_same hx)
  exact (Nat.div_eq_of_eq_mul_left (gc_sy_pos hx) h.symm).symm
/-! the smallest -/
def gc_mn (x : Int32) : Nat → Int32
  | 0 => x
  | k + 1 => if gc_mn x k ≤ gc_aa k x then gc_mn x k else gc_aa k x
theorem gc_mn_le (x : Int32) : ∀ k j, j < k → gc_mn x k ≤ gc_aa j x := by
  intro k
  induction k with
  | zero => intro j h; omega
  | succ k ih =>
    intro j hj
    unfold gc_mn
    by_cases c : gc_mn x k ≤ gc_aa k x
    · rw [if_pos c]
      rcases (show j < k ∨ j = k by omega) with z | z
      · exact ih j z
      · subst z; exact c
    · rw [if_neg c]
      rcases (show j < k ∨ j = k by omega) with z | z
      · exact Int32.le_trans (Int32.le_of_lt (Int32.not_le.mp c)) (ih j z)
      · subst z; exact Int32.le_refl _
theorem gc_mn_at {x : Int32} (hx : gc_H x) : ∀ k, k ≤ 720 → ∃ j, j < 720 ∧ gc_mn x k = gc_aa j x := by
  intro k
  induction k with
  | zero => intro _; exact ⟨0, by omega, (gc_aa_0 hx).symm⟩
  | succ k ih =>
    intro hk
    unfold gc_mn
    by_cases c : gc_mn x k ≤ gc_aa k x
    · rw [if_pos c]; exact ih (by omega)
    · rw [if_neg c]; exact ⟨k, by omega, rfl⟩
theorem gc_mn_1 {x : Int32} (hx : gc_H x) : gc_mn x 1 = x := by
  show (if x ≤ gc_aa 0 x then x else gc_aa 0 x) = x
  rw [gc_aa_0 hx]
  split <;> rfl
theorem gc_alike_l {x y : Int32} (hx : gc_H x) (hy : gc_H y) {p : Nat} (hp : p < 720) (h : gc_aa p x = y) : gc_mn x 720 ≤ gc_mn y 720 := by
  obtain ⟨j, hj, e⟩ := gc_mn_at hy 720 (by omega)
  rw [e, ← h, gc_aa_mul hj hp]
  exact gc_mn_le x 720 _ (gc_mul_ok hj hp).1
theorem gc_alike {x y : Int32} (hx : gc_H x) (hy : gc_H y) : gc_mn x 720 = gc_mn y 720 ↔ ∃ p, p < 720 ∧ gc_aa p x = y := by
  constructor
  · intro h
    obtain ⟨i, hi, e⟩ := gc_mn_at hx 720 (by omega)
    obtain ⟨j, hj, e2⟩ := gc_mn_at hy 720 (by omega)
    have hv := gc_iv_lt j hj
    refine ⟨gc_mul (gc_iv j) i, (gc_mul_ok hv hi).1, ?_⟩
    rw [← gc_aa_mul hv hi, ← e, h, e2, gc_aa_iv hj hy]
  · rintro ⟨p, hp, h⟩
    refine Int32.le_antisymm (gc_alike_l hx hy hp h) (gc_alike_l hy hx (gc_iv_lt p hp) ?_)
    rw [← h, gc_aa_iv hp hx]
end
section
/-! the component's small methods -/
theorem gc_cs (x : Int32) {N : Nat} (hN : N < 2 ^ 31) : (x < 0 ∨ nI N ≤ x) ∨ ∃ j, j < N ∧ x = nI j := by
  rcases pk_ix x hN with h | h | h
  · exact Or.inl (Or.inl h)
  · exact Or.inl (Or.inr h)
  · exact Or.inr h
theorem gc_ge0 {x : Int32} {N : Nat} (hN : N < 2 ^ 31) (h : nI N ≤ x) : ¬ x < 0 :=
  Int32.not_lt.mpr (Int32.le_trans (nI_pos' hN) h)
theorem gc_xg {F : Int32 → Prop} {g : Nat} (hg : g < 2) (h : F 1) : wpX_isGraph F (nI g) := br_f (nI_pos (by omega)) (br_f (nI_ge (b := 2) hg (by decide)) h)
theorem gc_xg_o {F : Int32 → Prop} {x : Int32} (hx : x < 0 ∨ nI 2 ≤ x) (h : F 0) : wpX_isGraph F x := by
  rcases hx with hx | hx
  · exact br_t hx h
  · exact br_f (gc_ge0 (by decide) hx) (br_t hx h)
theorem gc_xv {F : Int32 → Prop} {g : Nat} (hg : g < 6) (h : F 1) : wpX_isVertex F (nI g) := br_f (nI_pos (by omega)) (br_f (nI_ge (b := 6) hg (by decide)) h)
theorem gc_xv_o {F : Int32 → Prop} {x : Int32} (hx : x < 0 ∨ nI 6 ≤ x) (h : F 0) : wpX_isVertex F x := by
  rcases hx with hx | hx
  · exact br_t hx h
  · exact br_f (gc_ge0 (by decide) hx) (br_t hx h)
theorem gc_pbX : ∀ a, a < 6 → ∀ b, b < 6 → b < a → (14 : Int32) - ((((nI b * (11 - nI b)) / 2 + nI a) - nI b) - 1) = nI (gc_pb a b) := by decide +kernel
theorem gc_cbX : ∀ v, v < 6 → (25 : Int32) - 2 * nI v = nI (gc_cb v) := by decide +kernel
theorem gc_xpb {F : Int32 → Prop} {a b : Nat} (ha : a < 6) (hb : b < 6) (hn : a ≠ b) (h : F (nI (gc_pb a b))) : wpX_pairBit F (nI a) (nI b) := by
  rcases Nat.lt_or_gt_of_ne hn with hl | hl
  · refine br_f (nI_ge hl (by omega)) (br_f (nI_ge hl (by omega)) ⟨by decide, nm_e (nm_e ?_)⟩)
    rw [gc_pbX b hb a ha hl, gc_pb_comm]
    exact h
  · refine br_t (nI_le (by omega) (by omega)) (br_t (nI_le (by omega) (by omega)) ⟨by decide, nm_e (nm_e ?_)⟩)
    rw [gc_pbX a ha b hb hl]
    exact h
/-- p is the packed renumbering f -/
def gc_R (p : Int32) (f : Nat → Nat) : Prop := ∀ w, w < 6 → (p >>> ((3 * nI w) &&& 31)) &&& 7 = nI (f w)
theorem gc_xnum {F : Int32 → Prop} {p : Int32} {f : Nat → Nat} {w : Nat} (hp : gc_R p f) (hw : w < 6) (h : F (nI (f w))) : wpX_numberOf F p (nI w) := by
  unfold wpX_numberOf
  rw [hp w hw]
  exact h
theorem gc_xcb {F : Int32 → Prop} {v : Nat} (hv : v < 6) (h : F (nI (gc_cb v))) : wpX_colourBit F (nI v) := by
  unfold wpX_colourBit
  rw [gc_cbX v hv]
  exact h
/-! renumbered -/
def gc_in (x : Int32) (f : Nat → Nat) (u : Nat) (r : Int32) (l : List Nat) : Int32 := l.foldl (fun r w => r ||| gc_ob x (gc_pb u w) (gc_pb (f u) (f w))) r
def gc_ou (x : Int32) (f : Nat → Nat) (r : Int32) (l : List Nat) : Int32 := l.foldl (fun r u => gc_in x f u (r ||| gc_oc x (gc_cb u) (gc_cb (f u))) (List.range' (u + 1) (5 - u))) r
theorem gc_xin {post : Int32 → Prop} {J4 : Int32 → Int32 → Prop} {x p : Int32} {f : Nat → Nat} (hf : gc_P f) (hp : gc_R p f) {u : Nat} (hu : u < 6) : ∀ (d v : Nat) (r : Int32) (n : Nat), v + d = 6 → u < v → d < n → J4 (gc_in x f u r (List.range' v d)) (nI (u + 1)) → wX_renumbered_43 post J4 x p (nI u) (nI (f u)) n r (nI v) := by
  intro d
  induction d with
  | zero =>
    intro v r n hv _ hn h
    obtain ⟨n, rfl⟩ : ∃ m, n = m + 1 := ⟨n - 1, by omega⟩
    obtain rfl : v = 6 := by omega
    exact br_t (nI_le (a := 6) (b := 6) (by omega) (by omega)) (nm_r (nI_1 u) h)
  | succ d ih =>
    intro v r n hv huv hn h
    obtain ⟨n, rfl⟩ : ∃ m, n = m + 1 := ⟨n - 1, by omega⟩
    refine br_f (nI_ge (b := 6) (by omega) (by omega)) (gc_xnum hp (by omega) (gc_xpb hu (by omega) (by omega) (nm_e (gc_xpb (hf.1 u hu) (hf.1 v (by omega)) (fun e => ?_) (nm_e (nm_r (nI_1 v) (ih (v + 1) _ n (by omega) (by omega) (by omega) ?_)))))))
    · have := hf.2 u hu v (by omega) e
      omega
    · exact h
theorem gc_xou {post : Int32 → Prop} {x p : Int32} {f : Nat → Nat} (hf : gc_P f) (hp : gc_R p f) : ∀ (d u : Nat) (r : Int32) (n : Nat), u + d = 6 → d < n → post (gc_ou x f r (List.range' u d)) → wX_renumbered_4 post x p n r (nI u) := by
  intro d
  induction d with
  | zero =>
    intro u r n hv hn h
    obtain ⟨n, rfl⟩ : ∃ m, n = m + 1 := ⟨n - 1, by omega⟩
    obtain rfl : u = 6 := by omega
    exact br_t (nI_le (a := 6) (b := 6) (by omega) (by omega)) h
  | succ d ih =>
    intro u r n hv hn h
    obtain ⟨n, rfl⟩ : ∃ m, n = m + 1 := ⟨n - 1, by omega⟩
    exact br_f (nI_ge (b := 6) (by omega) (by omega)) (gc_xnum hp (by omega) (gc_xcb (by omega) (nm_e (gc_xcb (hf.1 u (by omega)) (nm_e (nm_r (nI_1 u) ⟨7, gc_xin hf hp (by omega) (5 - u) (u + 1) _ 7 (by omega) (by omega) (by omega) (ih (u + 1) _ n (by omega) (by omega) h)⟩))))))
theorem gc_bt_ou (x : Int32) (f : Nat → Nat) (i : Nat) : ∀ (l : List Nat) (r : Int32), bt (gc_ou x f r l) i = true ↔ bt r i = true ∨ ∃ u, u ∈ l ∧ (bt (gc_oc x (gc_cb u) (gc_cb (f u))) i = true ∨ ∃ w, w ∈ List.range' (u + 1) (5 - u) ∧ bt (gc_ob x (gc_pb u w) (gc_pb (f u) (f w))) i = true) := by
  intro l
  induction l with
  | nil => intro r; simp [gc_ou]
  | cons a l ih =>
    intro r
    have e : gc_ou x f r (a :: l) = gc_ou x f (gc_in x f a (r ||| gc_oc x (gc_cb a) (gc_cb (f a))) (List.range' (a + 1) (5 - a))) l := rfl
    rw [e, ih]
    unfold gc_in
    rw [gc_fold (fun w => gc_ob x (gc_pb a w) (gc_pb (f a) (f w))), b_or, Bool.or_eq_true]
    constructor
    · rintro (((h | h) | h) | ⟨u, h1, h2⟩)
      · exact Or.inl h
      · exact Or.inr ⟨a, List.mem_cons_self, Or.inl h⟩
      · exact Or.inr ⟨a, List.mem_cons_self, Or.inr h⟩
      · exact Or.inr ⟨u, List.mem_cons_of_mem _ h1, h2⟩
    · rintro (h | ⟨u, h1, h2⟩)
      · exact Or.inl (Or.inl (Or.inl h))
      · rcases List.mem_cons.mp h1 with e | e
        · subst e
          rcases h2 with h2 | h2
          · exact Or.inl (Or.inl (Or.inr h2))
          · exact Or.inl (Or.inr h2)
        · exact Or.inr ⟨u, e, h2⟩
theorem gc_cb_lt {v : Nat} (_ : v < 6) : gc_cb v < 26 ∧ 15 ≤ gc_cb v := by
  unfold gc_cb
  omega
theorem gc_pb_lt {a b : Nat} (ha : a < 6) (hb : b < 6) (h : a ≠ b) : gc_pb a b < 15 := (gc_pbF a ha b hb h).1
theorem gc_P_ne {f : Nat → Nat} (hf : gc_P f) {a b : Nat} (ha : a < 6) (hb : b < 6) (h : a ≠ b) : f a ≠ f b := fun e => h (hf.2 a ha b hb e)
theorem gc_ou_act {f : Nat → Nat} (hf : gc_P f) (x : Int32) : gc_ou x f 0 (List.range' 0 6) = gc_act f x := by
  apply b_ext
  intro i hi
  apply gc_beq
  rw [gc_bt_ou, gc_bt_act hf x hi, b_0]
  constructor
  · rintro (h | ⟨u, h1, h2⟩)
    · exact absurd h (by decide)
    · rw [List.mem_range'_1] at h1
      have hu : u < 6 := by omega
      rcases h2 with h2 | ⟨w, h3, h4⟩
      · have c1 := gc_cb_lt hu
        have c2 := gc_cb_lt (hf.1 u hu)
        rw [gc_bt_oc x (by omega) (by omega) hi] at h2
        obtain ⟨j, hj, hb, e⟩ := h2
        exact ⟨gc_cb u + j, by omega, hb, by rw [gc_bp_cb hu hj, e]⟩
      · rw [List.mem_range'_1] at h3
        have hw : w < 6 := by omega
        have hn : u ≠ w := by omega
        have c1 := gc_pb_lt hu hw hn
        have c2 := gc_pb_lt (hf.1 u hu) (hf.1 w hw) (gc_P_ne hf hu hw hn)
        rw [gc_bt_ob x (by omega) (by omega) hi] at h4
        exact ⟨gc_pb u w, by omega, h4.1, by rw [gc_bp_pb hu hw hn, h4.2]⟩
  · rintro ⟨s, hs, hb, e⟩
    right
    rcases Nat.lt_or_ge s 15 with h1 | h1
    · obtain ⟨a, b, hab, hb6, rfl⟩ := gc_lo_pb h1
      have ha : a < 6 := by omega
      have hn : a ≠ b := by omega
      have c2 := gc_pb_lt (hf.1 a ha) (hf.1 b hb6) (gc_P_ne hf ha hb6 hn)
      refine ⟨a, List.mem_range'_1.mpr (by omega), Or.inr ⟨b, List.mem_range'_1.mpr (by omega), ?_⟩⟩
      rw [gc_bt_ob x (by omega) (by omega) hi]
      exact ⟨hb, by rw [← e, gc_bp_pb ha hb6 hn]⟩
    · obtain ⟨a, j, ha, hj, rfl⟩ := gc_hi_cb h1 hs
      have c1 := gc_cb_lt ha
      have c2 := gc_cb_lt (hf.1 a ha)
      refine ⟨a, List.mem_range'_1.mpr (by omega), Or.inl ?_⟩
      rw [gc_bt_oc x (by omega) (by omega) hi]
      exact ⟨j, hj, hb, by rw [← e, gc_bp_cb ha hj]⟩
theorem gc_xren {post : Int32 → Prop} {x p : Int32} {f : Nat → Nat} (hf : gc_P f) (hp : gc_R p f) (h : post (gc_act f x)) : wpX_renumbered post x p :=
  ⟨7, gc_xou hf hp 6 0 0 7 (by omega) (by omega) (by rw [gc_ou_act hf]; exact h)⟩
/-! packing -/
def gc_K (f : Nat → Nat) (v : Nat) (p : Int32) : Prop := (∀ i, 3 * v ≤ i → bt p i = false) ∧ ∀ w, w < v → (p >>> ((3 * nI w) &&& 31)) &&& 7 = nI (f w)
theorem gc_K_0 (f : Nat → Nat) : gc_K f 0 0 := ⟨fun i _ => b_0 i, fun w h => by omega⟩
theorem gc_b7 (i : Nat) : bt 7 i = decide (i < 3) := by
  rcases Nat.lt_or_ge i 32 with h | h
  · exact (by decide +kernel : ∀ i, i < 32 → bt 7 i = decide (i < 3)) i h
  · rw [b_big h, decide_eq_false (by omega)]
theorem gc_bsm : ∀ m, m < 8 → ∀ i, i < 32 → 3 ≤ i → bt (nI m) i = false := by decide +kernel
theorem gc_3n (v : Nat) : (3 : Int32) * nI v = nI (3 * v) := pk_mul 3 v
theorem gc_bt_r7 (p : Int32) {w : Nat} (hw : w < 6) (i : Nat) : bt ((p >>> ((3 * nI w) &&& 31)) &&& 7) i = (decide (i < 3) && bt p (3 * w + i)) := by
  rw [b_and, gc_b7, gc_3n]
  by_cases h : i < 3
  · rw [b_sshr (3 * w) (by omega) p (by omega), if_pos (by omega)]
    simp [h]
  · simp [h]
theorem gc_K_s {f : Nat → Nat} {v : Nat} {p : Int32} (hv : v < 6) (hm : f v < 8) (h : gc_K f v p) : gc_K f (v + 1) (p ||| (nI (f v) <<< ((3 * nI v) &&& 31))) := by
  constructor
  · intro i hi
    rcases Nat.lt_or_ge i 32 with h3 | h3
    · rw [b_or, h.1 i (by omega), gc_3n, b_shl (3 * v) (by omega) _ h3, gc_bsm _ hm (i - 3 * v) (by omega) (by omega)]
      simp
    · exact b_big h3
  · intro w hw
    rcases (show w < v ∨ w = v by omega) with z | z
    · rw [← h.2 w z]
      apply b_ext
      intro i hi
      rw [gc_bt_r7 _ (by omega), gc_bt_r7 _ (by omega)]
      by_cases c : i < 3
      · rw [b_or, gc_3n, b_shl (3 * v) (by omega) _ (by omega), decide_eq_false (by omega : ¬ 3 * v ≤ 3 * w + i)]
        simp
      · simp [c]
    · subst z
      apply b_ext
      intro i hi
      rw [gc_bt_r7 _ (by omega)]
      by_cases c : i < 3
      · rw [b_or, h.1 _ (by omega), gc_3n, b_shl (3 * w) (by omega) _ (by omega), Nat.add_sub_cancel_left]
        simp [c]
      · rw [gc_bsm _ hm i hi (by omega)]
        simp [c]
def gc_sw (a b w : Nat) : Nat := if w = a then b else if w = b then a else w
theorem gc_sw_lt {a b w : Nat} (ha : a < 6) (hb : b < 6) (hw : w < 6) : gc_sw a b w < 6 := by
  unfold gc_sw
  split
  · exact hb
  · split
    · exact ha
    · exact hw
theorem gc_sw_sw (a b w : Nat) : gc_sw a b (gc_sw a b w) = w := by
  unfold gc_sw
  by_cases h1 : w = a
  · rw [if_pos h1]
    by_cases h3 : b = a
    · rw [if_pos h3]; omega
    · rw [if_neg h3, if_pos rfl]; omega
  · rw [if_neg h1]
    by_cases h2 : w = b
    · rw [if_pos h2, if_pos rfl]; omega
    · rw [if_neg h2, if_neg h1, if_neg h2]
theorem gc_sw_P {a b : Nat} (ha : a < 6) (hb : b < 6) : gc_P (gc_sw a b) :=
  ⟨fun _ hv => gc_sw_lt ha hb hv, fun v _ w _ e => by rw [← gc_sw_sw a b v, e, gc_sw_sw]⟩
theorem gc_xsw {post : Int32 → Prop} {a b : Nat} (ha : a < 6) (hb : b < 6) (h : ∀ p, gc_R p (gc_sw a b) → post p) : wpX_swapOf post (nI a) (nI b) := by
  have key : ∀ (d v : Nat) (p : Int32) (n : Nat), v + d = 6 → d < n → gc_K (gc_sw a b) v p → wX_swapOf_4 post (nI a) (nI b) n p (nI v) := by
    intro d
    induction d with
    | zero =>
      intro v p n hv hn hk
      obtain ⟨n, rfl⟩ : ∃ m, n = m + 1 := ⟨n - 1, by omega⟩
      obtain rfl : v = 6 := by omega
      exact br_t (nI_le (a := 6) (b := 6) (by omega) (by omega)) (h p hk.2)
    | succ d ih =>
      intro v p n hv hn hk
      obtain ⟨n, rfl⟩ : ∃ m, n = m + 1 := ⟨n - 1, by omega⟩
      have hs := gc_K_s (by omega) (by have := gc_sw_lt ha hb (show v < 6 by omega); omega) hk
      refine br_f (nI_ge (b := 6) (by omega) (by omega)) (pk_eq v a (fun e => ?_) (fun e => pk_eq v b (fun e2 => ?_) (fun e2 => ?_)))
      · rw [show gc_sw a b v = b from if_pos e] at hs
        exact nm_e (nm_r (nI_1 v) (ih (v + 1) _ n (by omega) (by omega) hs))
      · rw [show gc_sw a b v = a from (if_neg e).trans (if_pos e2)] at hs
        exact nm_e (nm_r (nI_1 v) (ih (v + 1) _ n (by omega) (by omega) hs))
      · rw [show gc_sw a b v = v from (if_neg e).trans (if_neg e2)] at hs
        exact nm_e (nm_r (nI_1 v) (ih (v + 1) _ n (by omega) (by omega) hs))
  exact ⟨7, key 6 0 0 7 (by omega) (by omega) (gc_K_0 _)⟩
end
section
/-! the n-th renumbering, digit by digit -/
def gc_fc (t : Nat) : Nat := (1 - t % 2) + ((1 - t >>> 1 % 2) + ((1 - t >>> 2 % 2) + ((1 - t >>> 3 % 2) + ((1 - t >>> 4 % 2) + (1 - t >>> 5 % 2)))))
def gc_frL (t : Nat) : Nat → Nat → Nat → Nat
  | 0, _, k => k
  | f + 1, r, k => if t >>> k % 2 = 0 then (if r = 0 then k else gc_frL t f (r - 1) (k + 1)) else gc_frL t f r (k + 1)
def gc_fr (t r : Nat) : Nat := gc_frL t 6 r 0
def gc_tk (n : Nat) : Nat → Nat
  | 0 => 0
  | v + 1 => gc_tk n v ||| (1 <<< gc_pm n v)
def gc_dn (v : Nat) : Nat := if v = 0 then 1 else if v = 1 then 6 else if v = 2 then 30 else if v = 3 then 120 else if v = 4 then 360 else 720
def gc_rs (n v : Nat) : Nat := n / gc_dn v
theorem gc_stF : ∀ n, n < 720 → ∀ v, v < 6 → gc_tk n v < 64 ∧ gc_rs n v % (6 - v) < gc_fc (gc_tk n v) ∧ gc_fr (gc_tk n v) (gc_rs n v % (6 - v)) = gc_pm n v := by decide +kernel
theorem gc_dn_s : ∀ v, v < 6 → gc_dn (v + 1) = gc_dn v * (6 - v) := by decide +kernel
theorem gc_rs_s (n : Nat) {v : Nat} (hv : v < 6) : gc_rs n v / (6 - v) = gc_rs n (v + 1) := by
  unfold gc_rs
  rw [gc_dn_s v hv, Nat.div_div_eq_div_mul]
theorem gc_rs_0 (n : Nat) : gc_rs n 0 = n := Nat.div_one n
theorem gc_rs_le (n v : Nat) : gc_rs n v ≤ n := Nat.div_le_self _ _
theorem gc_tkF : ∀ t, t < 64 → ∀ m, m < 6 → nI t ||| ((1 : Int32) <<< (nI m &&& 31)) = nI (t ||| (1 <<< m)) := by decide +kernel
def gc_fx (x0 : Int32) : Nat → Int32 → Int32 → Int32 → Option Int32
  | 0, _, _, _ => none
  | n + 1, x2, x3, x4 => if 6 ≤ x4 then some x2 else if ((x0 >>> (x4 &&& 31)) &&& 1) = 0 then (if x3 = 0 then gc_fx x0 n x4 (x3 + (-1)) (x4 + 1) else gc_fx x0 n x2 (x3 + (-1)) (x4 + 1)) else gc_fx x0 n x2 x3 (x4 + 1)
theorem gc_fxF : ∀ t, t < 64 → ∀ r, r < 6 → r < gc_fc t → gc_fx (nI t) 7 0 (nI r) 0 = some (nI (gc_fr t r)) := by decide +kernel
theorem gc_fx_ok {post : Int32 → Prop} {x0 r : Int32} (h : post r) : ∀ (n : Nat) (x2 x3 x4 : Int32), gc_fx x0 n x2 x3 x4 = some r → wX_freeNumber_7 post x0 n x2 x3 x4 := by
  intro n
  induction n with
  | zero => intro x2 x3 x4 e; exact absurd e (by simp [gc_fx])
  | succ n ih =>
    intro x2 x3 x4 e
    unfold gc_fx at e
    by_cases c1 : 6 ≤ x4
    · rw [if_pos c1] at e
      cases e
      exact br_t c1 h
    · rw [if_neg c1] at e
      by_cases c2 : ((x0 >>> (x4 &&& 31)) &&& 1) = 0
      · rw [if_pos c2] at e
        by_cases c3 : x3 = 0
        · rw [if_pos c3] at e
          exact br_f c1 (br_t c2 (br_t c3 (nm_e (nm_e (ih _ _ _ e)))))
        · rw [if_neg c3] at e
          exact br_f c1 (br_t c2 (br_f c3 (nm_e (nm_e (ih _ _ _ e)))))
      · rw [if_neg c2] at e
        exact br_f c1 (br_f c2 (nm_e (ih _ _ _ e)))
theorem gc_fc_le : ∀ t, t < 64 → gc_fc t ≤ 6 := by decide +kernel
theorem gc_xfn {F : Int32 → Prop} {t r : Nat} {x : Int32} (hx : x = nI r) (ht : t < 64) (hr : r < gc_fc t) (h : F (nI (gc_fr t r))) : wpX_freeNumber F (nI t) x := by
  subst hx
  have := gc_fc_le t ht
  exact ⟨7, gc_fx_ok h 7 0 (nI r) 0 (gc_fxF t ht r (by omega) hr)⟩
theorem gc_xra {post : Int32 → Prop} {n : Nat} (hn : n < 720) (h : ∀ p, gc_R p (gc_pm n) → post p) : wpX_renumberingAt post (nI n) := by
  have key : ∀ (d v : Nat) (p : Int32) (m : Nat), v + d = 6 → d < m → gc_K (gc_pm n) v p → wX_renumberingAt_9 post m p (nI (gc_tk n v)) (nI (gc_rs n v)) (nI v) := by
    intro d
    induction d with
    | zero =>
      intro v p m hv hm hk
      obtain ⟨m, rfl⟩ : ∃ k, m = k + 1 := ⟨m - 1, by omega⟩
      obtain rfl : v = 6 := by omega
      exact br_t (nI_le (a := 6) (b := 6) (by omega) (by omega)) (h p hk.2)
    | succ d ih =>
      intro v p m hv hm hk
      obtain ⟨m, rfl⟩ : ∃ k, m = k + 1 := ⟨m - 1, by omega⟩
      have hv6 : v < 6 := by omega
      obtain ⟨f1, f2, f3⟩ := gc_stF n hn v hv6
      have hl := gc_rs_le n v
      have hp := gc_pm_lt n hn v hv6
      have hs := gc_K_s hv6 (by omega) hk
      have h0 : ¬ nI (6 - v) = 0 := nI_ne0 (by omega) (by omega)
      refine br_f (nI_ge (b := 6) (by omega) (by omega)) (nm_r (pk_sub (a := 6) (b := v) (by omega)) ⟨h0, gc_xfn (r := gc_rs n v % (6 - v)) (pk_rem (by omega) (by omega) (by omega)) f1 f2 ?_⟩)
      rw [f3]
      refine nm_e (nm_r (gc_tkF _ f1 _ hp) ⟨h0, nm_r (pk_div (by omega) (by omega) (by omega)) (nm_r (nI_1 v) ?_)⟩)
      rw [gc_rs_s n hv6]
      exact ih (v + 1) _ m (by omega) (by omega) hs
  have k0 := key 6 0 0 7 (by omega) (by omega) (gc_K_0 _)
  rw [gc_rs_0] at k0
  exact ⟨7, k0⟩
theorem gc_xinit {post : SX → Prop} (h : ∀ ar : Nat → Int32, (∀ n, n < 720 → gc_R (ar n) (gc_pm n)) → post ((fun _ => 0), ar)) : wpX_init post := by
  have key : ∀ (d n : Nat) (ar : Nat → Int32) (m : Nat), n + d = 720 → d < m → (∀ j, j < n → gc_R (ar j) (gc_pm j)) → wX_init_22 post m (nI n) (fun _ => 0) ar := by
    intro d
    induction d with
    | zero =>
      intro n ar m hv hm hk
      obtain ⟨m, rfl⟩ : ∃ k, m = k + 1 := ⟨m - 1, by omega⟩
      obtain rfl : n = 720 := by omega
      exact br_t (nI_le (a := 720) (b := 720) (by omega) (by omega)) (h ar hk)
    | succ d ih =>
      intro n ar m hv hm hk
      obtain ⟨m, rfl⟩ : ∃ k, m = k + 1 := ⟨m - 1, by omega⟩
      refine br_f (nI_ge (b := 720) (by omega) (by omega)) (gc_xra (by omega) fun p hp => ⟨vp_in_nI (by omega) (by omega), nm_r (e' := upd ar n p) (by rw [nI_clamp (by omega)]) (nm_r (nI_1 n) (ih (n + 1) _ m (by omega) (by omega) fun j hj => ?_))⟩)
      by_cases c : j = n
      · subst c; rw [pk_us]; exact hp
      · rw [pk_un c]; exact hk j (by omega)
  exact ⟨721, key 720 0 _ 721 (by omega) (by omega) (fun j hj => by omega)⟩
/-! the component's loops over the 720 -/
def gc_T (ar : Nat → Int32) : Prop := ∀ n, n < 720 → gc_R (ar n) (gc_pm n)
theorem gc_T_c {ar : Nat → Int32} (h : gc_T ar) {n : Nat} (hn : n < 720) : gc_R (ar (nI n).toNatClampNeg) (gc_pm n) := by
  rw [nI_clamp (by omega)]
  exact h n hn
theorem gc_mn_s (x : Int32) (k : Nat) : gc_mn x (k + 1) = if gc_mn x k ≤ gc_aa k x then gc_mn x k else gc_aa k x := rfl
theorem gc_xsm {post : Int32 → Prop} {ac ar : Nat → Int32} {x : Int32} (har : gc_T ar) (h : post (gc_mn x 720)) : wpX_smallestCode post (ac, ar) x := by
  have key : ∀ (d n m : Nat), n + d = 720 → d < m → wX_smallestCode_4 post x ac ar m (gc_mn x n) (nI n) := by
    intro d
    induction d with
    | zero =>
      intro n m hv hm
      obtain ⟨m, rfl⟩ : ∃ k, m = k + 1 := ⟨m - 1, by omega⟩
      obtain rfl : n = 720 := by omega
      exact br_t (nI_le (a := 720) (b := 720) (by omega) (by omega)) h
    | succ d ih =>
      intro n m hv hm
      obtain ⟨m, rfl⟩ : ∃ k, m = k + 1 := ⟨m - 1, by omega⟩
      have ih := ih (n + 1) m (by omega) (by omega)
      rw [gc_mn_s] at ih
      refine br_f (nI_ge (b := 720) (by omega) (by omega)) ⟨vp_in_nI (by omega) (by omega), gc_xren (gc_pm_P (by omega)) (gc_T_c har (by omega)) (br_c (fun c => nm_r (nI_1 n) ?_) (fun c => nm_r (nI_1 n) ?_))⟩
      · rw [if_pos (show gc_mn x n ≤ gc_aa n x from c)] at ih
        exact ih
      · rw [if_neg (show ¬ gc_mn x n ≤ gc_aa n x from c)] at ih
        exact ih
  exact ⟨721, key 720 0 721 (by omega) (by omega)⟩
theorem gc_sy_s (x : Int32) (k : Nat) : gc_sy x (k + 1) = gc_sy x k + if decide (gc_aa k x = x) = true then 1 else 0 := rfl
theorem gc_xsy {post : Int32 → Prop} {ac ar : Nat → Int32} {x : Int32} (har : gc_T ar) (h : post (nI (gc_sy x 720))) : wpX_symmetryCount post (ac, ar) x := by
  have key : ∀ (d n m : Nat), n + d = 720 → d < m → wX_symmetryCount_4 post x ac ar m (nI (gc_sy x n)) (nI n) := by
    intro d
    induction d with
    | zero =>
      intro n m hv hm
      obtain ⟨m, rfl⟩ : ∃ k, m = k + 1 := ⟨m - 1, by omega⟩
      obtain rfl : n = 720 := by omega
      exact br_t (nI_le (a := 720) (b := 720) (by omega) (by omega)) h
    | succ d ih =>
      intro n m hv hm
      obtain ⟨m, rfl⟩ : ∃ k, m = k + 1 := ⟨m - 1, by omega⟩
      have ih := ih (n + 1) m (by omega) (by omega)
      rw [gc_sy_s] at ih
      refine br_f (nI_ge (b := 720) (by omega) (by omega)) ⟨vp_in_nI (by omega) (by omega), gc_xren (gc_pm_P (by omega)) (gc_T_c har (by omega)) (br_c (fun c => nm_r (nI_1 _) (nm_r (nI_1 n) ?_)) (fun c => nm_r (nI_1 n) ?_))⟩
      · rw [if_pos (decide_eq_true (show gc_aa n x = x from c))] at ih
        exact ih
      · rw [if_neg (show ¬ decide (gc_aa n x = x) = true from fun z => c (of_decide_eq_true z))] at ih
        exact ih
  exact ⟨721, key 720 0 721 (by omega) (by omega)⟩
def gc_om (x : Int32) (v : Nat) : Nat → Int32
  | 0 => 0
  | k + 1 => if gc_aa k x = x then gc_om x v k ||| ((1 : Int32) <<< (nI (gc_pm k v) &&& 31)) else gc_om x v k
theorem gc_om_s (x : Int32) (v k : Nat) : gc_om x v (k + 1) = if gc_aa k x = x then gc_om x v k ||| ((1 : Int32) <<< (nI (gc_pm k v) &&& 31)) else gc_om x v k := rfl
theorem gc_xom {post : Int32 → Prop} {ac ar : Nat → Int32} {x : Int32} {v : Nat} (hv : v < 6) (har : gc_T ar) (h : post (gc_om x v 720)) : wpX_orbitMask post (ac, ar) x (nI v) := by
  have key : ∀ (d n m : Nat), n + d = 720 → d < m → wX_orbitMask_5 post x (nI v) ac ar m (gc_om x v n) (nI n) := by
    intro d
    induction d with
    | zero =>
      intro n m hv hm
      obtain ⟨m, rfl⟩ : ∃ k, m = k + 1 := ⟨m - 1, by omega⟩
      obtain rfl : n = 720 := by omega
      exact br_t (nI_le (a := 720) (b := 720) (by omega) (by omega)) h
    | succ d ih =>
      intro n m hv hm
      obtain ⟨m, rfl⟩ : ∃ k, m = k + 1 := ⟨m - 1, by omega⟩
      have ih := ih (n + 1) m (by omega) (by omega)
      rw [gc_om_s] at ih
      have hi : vp_in (nI n) 720 := vp_in_nI (by omega) (by omega)
      refine br_f (nI_ge (b := 720) (by omega) (by omega)) ⟨hi, gc_xren (gc_pm_P (by omega)) (gc_T_c har (by omega)) (br_c (fun c => ⟨hi, gc_xnum (gc_T_c har (by omega)) (by omega) (nm_e (nm_r (nI_1 n) ?_))⟩) (fun c => nm_r (nI_1 n) ?_))⟩
      · rw [if_pos (show gc_aa n x = x from c)] at ih
        exact ih
      · rw [if_neg (show ¬ gc_aa n x = x from c)] at ih
        exact ih
  exact ⟨721, key 720 0 721 (by omega) (by omega)⟩
def gc_on (x : Int32) : Nat → Nat
  | 0 => 0
  | k + 1 => gc_on x k + if (gc_om x k 720 &&& (((1 : Int32) <<< (nI k &&& 31)) - 1)) = 0 then 1 else 0
theorem gc_on_s (x : Int32) (k : Nat) : gc_on x (k + 1) = gc_on x k + if (gc_om x k 720 &&& (((1 : Int32) <<< (nI k &&& 31)) - 1)) = 0 then 1 else 0 := rfl
theorem gc_xon {post : Int32 → Prop} {ac ar : Nat → Int32} {x : Int32} (har : gc_T ar) (h : post (nI (gc_on x 6))) : wpX_orbitCount post (ac, ar) x := by
  have key : ∀ (d n m : Nat), n + d = 6 → d < m → wX_orbitCount_4 post x ac ar m (nI (gc_on x n)) (nI n) := by
    intro d
    induction d with
    | zero =>
      intro n m hv hm
      obtain ⟨m, rfl⟩ : ∃ k, m = k + 1 := ⟨m - 1, by omega⟩
      obtain rfl : n = 6 := by omega
      exact br_t (nI_le (a := 6) (b := 6) (by omega) (by omega)) h
    | succ d ih =>
      intro n m hv hm
      obtain ⟨m, rfl⟩ : ∃ k, m = k + 1 := ⟨m - 1, by omega⟩
      have ih := ih (n + 1) m (by omega) (by omega)
      rw [gc_on_s] at ih
      refine br_f (nI_ge (b := 6) (by omega) (by omega)) (nm_e (gc_xom (by omega) har (br_c (fun c => nm_r (nI_1 _) (nm_r (nI_1 n) ?_)) (fun c => nm_r (nI_1 n) ?_))))
      · rw [if_pos c] at ih
        exact ih
      · rw [if_neg c] at ih
        exact ih
  exact ⟨7, key 6 0 7 (by omega) (by omega)⟩
theorem gc_sy_le (x : Int32) : gc_sy x 720 ≤ 720 := gc_ct_le _ _
theorem gc_xvc {post : Int32 → Prop} {ac ar : Nat → Int32} {x : Int32} (hx : gc_H x) (har : gc_T ar) (h : post (nI (720 / gc_sy x 720))) : wpX_variantCount post (ac, ar) x := by
  have h1 := gc_sy_pos hx
  have h2 := gc_sy_le x
  refine gc_xsy har (br_f (nI_nle h1 (by omega)) ⟨nI_ne0 h1 (by omega), ?_⟩)
  rw [show (720 : Int32) = nI 720 from rfl, pk_div (by omega) h1 (by omega)]
  exact h
def gc_ec (x : Int32) : Nat → Nat
  | 0 => 0
  | k + 1 => gc_ec x k + if bt x k = true then 1 else 0
theorem gc_ec_s (x : Int32) (k : Nat) : gc_ec x (k + 1) = gc_ec x k + if bt x k = true then 1 else 0 := rfl
theorem gc_xec {post : Int32 → Prop} {x : Int32} (h : post (nI (gc_ec x 15))) : wpX_edgeCount post x := by
  have key : ∀ (d n m : Nat), n + d = 15 → d < m → wX_edgeCount_4 post x m (nI (gc_ec x n)) (nI n) := by
    intro d
    induction d with
    | zero =>
      intro n m hv hm
      obtain ⟨m, rfl⟩ : ∃ k, m = k + 1 := ⟨m - 1, by omega⟩
      obtain rfl : n = 15 := by omega
      exact br_t (nI_le (a := 15) (b := 15) (by omega) (by omega)) h
    | succ d ih =>
      intro n m hv hm
      obtain ⟨m, rfl⟩ : ∃ k, m = k + 1 := ⟨m - 1, by omega⟩
      refine br_f (nI_ge (b := 15) (by omega) (by omega)) (nm_r (e' := nI (gc_ec x (n + 1))) ?_ (nm_r (nI_1 n) (ih (n + 1) m (by omega) (by omega))))
      show nI (gc_ec x n) + gc_r1 x n = _
      rw [gc_r1_if x (by omega), gc_ec_s, ← nI_add]
      split <;> rfl
  exact ⟨16, key 15 0 16 (by omega) (by omega)⟩
end
section
/-! the reference's small methods -/
theorem gc_10 : ¬ (1 : Int32) = 0 := by decide
section
variable {cl ed rn cd kn : Nat → Int32}
theorem gc_yg {F : Int32 → Prop} {g : Nat} (hg : g < 2) (h : F 1) : wpY_isGraph F (cl, ed, rn, cd, kn) (nI g) := by
  rcases (show g = 0 ∨ g = 1 by omega) with e | e
  · subst e; exact br_t nI_0 h
  · subst e; exact br_f (nI_ne0 (by omega) (by omega)) (br_t rfl h)
theorem gc_yg_o {F : Int32 → Prop} {x : Int32} (hx : x < 0 ∨ nI 2 ≤ x) (h : F 0) : wpY_isGraph F (cl, ed, rn, cd, kn) x := by
  refine br_f (fun e => ?_) (br_f (fun e => ?_) h)
  · subst e; revert hx; decide
  · subst e; revert hx; decide
theorem gc_yv {F : Int32 → Prop} {g : Nat} (hg : g < 6) (h : F 1) : wpY_isVertex F (cl, ed, rn, cd, kn) (nI g) := br_f (nI_pos (by omega)) (br_f (nI_ge (b := 6) hg (by decide)) h)
theorem gc_yv_o {F : Int32 → Prop} {x : Int32} (hx : x < 0 ∨ nI 6 ≤ x) (h : F 0) : wpY_isVertex F (cl, ed, rn, cd, kn) x := by
  rcases hx with hx | hx
  · exact br_t hx h
  · exact br_f (gc_ge0 (by decide) hx) (br_t hx h)
/-! indices -/
theorem gc_i6 (g v : Nat) : nI g * 6 + nI v = nI (g * 6 + v) := by
  rw [show (6 : Int32) = nI 6 from rfl, pk_mul, nI_add]
theorem gc_i36 (g v : Nat) : nI g * 36 + nI v = nI (g * 36 + v) := by
  rw [show (36 : Int32) = nI 36 from rfl, pk_mul, nI_add]
theorem gc_i720 (g v : Nat) : nI g * 720 + nI v = nI (g * 720 + v) := by
  rw [show (720 : Int32) = nI 720 from rfl, pk_mul, nI_add]
theorem gc_i66 (g u v : Nat) : (nI g * 36 + 6 * nI u) + nI v = nI (g * 36 + 6 * u + v) := by
  rw [show (36 : Int32) = nI 36 from rfl, show (6 : Int32) = nI 6 from rfl, pk_mul, pk_mul, nI_add, nI_add]
theorem gc_n6 {g v : Nat} (hg : g < 2) (hv : v < 6) : vp_in (nI g * 6 + nI v) 12 := by rw [gc_i6]; exact vp_in_nI (by omega) (by omega)
theorem gc_n36 {g v : Nat} (hg : g < 2) (hv : v < 36) : vp_in (nI g * 36 + nI v) 72 := by rw [gc_i36]; exact vp_in_nI (by omega) (by omega)
theorem gc_n720 {g v : Nat} (hg : g < 2) (hv : v < 720) : vp_in (nI g * 720 + nI v) 1440 := by rw [gc_i720]; exact vp_in_nI (by omega) (by omega)
theorem gc_n66 {g u v : Nat} (hg : g < 2) (hu : u < 6) (hv : v < 6) : vp_in ((nI g * 36 + 6 * nI u) + nI v) 72 := by rw [gc_i66]; exact vp_in_nI (by omega) (by omega)
theorem gc_c6 {g v : Nat} (hg : g < 2) (hv : v < 6) : (nI g * 6 + nI v).toNatClampNeg = g * 6 + v := by rw [gc_i6]; exact nI_clamp (by omega)
theorem gc_c36 {g v : Nat} (hg : g < 2) (hv : v < 36) : (nI g * 36 + nI v).toNatClampNeg = g * 36 + v := by rw [gc_i36]; exact nI_clamp (by omega)
theorem gc_c720 {g v : Nat} (hg : g < 2) (hv : v < 720) : (nI g * 720 + nI v).toNatClampNeg = g * 720 + v := by rw [gc_i720]; exact nI_clamp (by omega)
theorem gc_c66 {g u v : Nat} (hg : g < 2) (hu : u < 6) (hv : v < 6) : ((nI g * 36 + 6 * nI u) + nI v).toNatClampNeg = g * 36 + 6 * u + v := by rw [gc_i66]; exact nI_clamp (by omega)
/-! bitOf -/
theorem gc_ybF : ∀ k, k < 6 → nI (k * (11 - k) / 2) + (5 - nI k) = nI ((k + 1) * (11 - (k + 1)) / 2) := by decide +kernel
theorem gc_ybE : ∀ a, a < 6 → ∀ b, b < 6 → b < a → ((14 : Int32) - nI (b * (11 - b) / 2)) - ((nI a - nI b) - 1) = nI (gc_pb a b) := by decide +kernel
theorem gc_ybl {F : Int32 → Prop} {lo hi : Nat} (hlo : lo < 6) (hhi : hi < 6) (hl : lo < hi) (h : F (nI (gc_pb hi lo))) : ∃ n, wY_bitOf_29 F (nI lo) (nI hi) cl ed rn cd kn n 0 0 := by
  have key : ∀ (d k n : Nat), k + d = lo → d < n → wY_bitOf_29 F (nI lo) (nI hi) cl ed rn cd kn n (nI (k * (11 - k) / 2)) (nI k) := by
    intro d
    induction d with
    | zero =>
      intro k n hk hn
      obtain ⟨n, rfl⟩ : ∃ m, n = m + 1 := ⟨n - 1, by omega⟩
      obtain rfl : k = lo := by omega
      refine br_t (nI_le (by omega) (by omega)) ?_
      rw [gc_ybE hi hhi k hlo hl]
      exact h
    | succ d ih =>
      intro k n hk hn
      obtain ⟨n, rfl⟩ : ∃ m, n = m + 1 := ⟨n - 1, by omega⟩
      exact br_f (nI_ge (by omega) (by omega)) (nm_r (gc_ybF k (by omega)) (nm_r (nI_1 k) (ih (k + 1) n (by omega) (by omega))))
  exact ⟨lo + 1, key lo 0 (lo + 1) (by omega) (by omega)⟩
theorem gc_yb {F : Int32 → Prop} {a b : Nat} (ha : a < 6) (hb : b < 6) (hn : a ≠ b) (h : F (nI (gc_pb a b))) : wpY_bitOf F (cl, ed, rn, cd, kn) (nI a) (nI b) := by
  rcases Nat.lt_or_gt_of_ne hn with hl | hl
  · rw [gc_pb_comm] at h
    exact br_f (nI_ge hl (by omega)) (br_f (nI_ge hl (by omega)) (gc_ybl ha hb hl h))
  · exact br_t (nI_le (by omega) (by omega)) (br_t (nI_le (by omega) (by omega)) (gc_ybl hb ha hl h))
/-! rename -/
def gc_fy (x3 : Int32) : Nat → Int32 → Int32 → Option Int32
  | 0, _, _ => none
  | n + 1, x5, x6 => if 6 ≤ x6 then some x6 else if ((x3 >>> (x6 &&& 31)) &&& 1) = 0 then (if x5 ≤ 0 then some x6 else gc_fy x3 n (x5 + (-1)) (x6 + 1)) else gc_fy x3 n x5 (x6 + 1)
theorem gc_fyF : ∀ t, t < 64 → ∀ r, r < 6 → r < gc_fc t → gc_fy (nI t) 7 (nI r) 0 = some (nI (gc_fr t r)) := by decide +kernel
theorem gc_fy_ok {post : SY → Prop} {J7 : Int32 → Int32 → Int32 → (Nat → Int32) → (Nat → Int32) → (Nat → Int32) → (Nat → Int32) → (Nat → Int32) → Prop} {x2 x3 x4 r : Int32} (h : wY_rename_73 post J7 x2 x3 x4 r cl ed rn cd kn) : ∀ (n : Nat) (x5 x6 : Int32), gc_fy x3 n x5 x6 = some r → wY_rename_34 post J7 x2 x3 x4 cl ed rn cd kn n x5 x6 := by
  intro n
  induction n with
  | zero => intro x5 x6 e; exact absurd e (by simp [gc_fy])
  | succ n ih =>
    intro x5 x6 e
    unfold gc_fy at e
    by_cases c1 : 6 ≤ x6
    · rw [if_pos c1] at e
      cases e
      exact br_t c1 h
    · rw [if_neg c1] at e
      by_cases c2 : ((x3 >>> (x6 &&& 31)) &&& 1) = 0
      · rw [if_pos c2] at e
        by_cases c3 : x5 ≤ 0
        · rw [if_pos c3] at e
          cases e
          exact br_f c1 (br_t c2 (br_t c3 h))
        · rw [if_neg c3] at e
          exact br_f c1 (br_t c2 (br_f c3 (br_t c2 (nm_e (nm_e (ih _ _ e))))))
      · rw [if_neg c2] at e
        exact br_f c1 (br_f c2 (br_f c2 (nm_e (ih _ _ e))))
theorem gc_yrn {post : SY → Prop} {n : Nat} (hn : n < 720) (h : ∀ rn' : Nat → Int32, (∀ w, w < 6 → rn' w = nI (gc_pm n w)) → post (cl, ed, rn', cd, kn)) : wpY_rename post (cl, ed, rn, cd, kn) (nI n) := by
  have key : ∀ (d v : Nat) (rn : Nat → Int32) (m : Nat), v + d = 6 → d < m → (∀ w, w < v → rn w = nI (gc_pm n w)) → wY_rename_7 post m (nI (gc_rs n v)) (nI (gc_tk n v)) (nI v) cl ed rn cd kn := by
    intro d
    induction d with
    | zero =>
      intro v rn m hv hm hk
      obtain ⟨m, rfl⟩ : ∃ k, m = k + 1 := ⟨m - 1, by omega⟩
      obtain rfl : v = 6 := by omega
      exact br_t (nI_le (a := 6) (b := 6) (by omega) (by omega)) (h rn hk)
    | succ d ih =>
      intro v rn m hv hm hk
      obtain ⟨m, rfl⟩ : ∃ k, m = k + 1 := ⟨m - 1, by omega⟩
      have hv6 : v < 6 := by omega
      obtain ⟨f1, f2, f3⟩ := gc_stF n hn v hv6
      have hl := gc_rs_le n v
      have hp := gc_pm_lt n hn v hv6
      have hc := gc_fc_le _ f1
      have e6 : (6 : Int32) - nI v = nI (6 - v) := pk_sub (a := 6) (b := v) (by omega)
      have h0 : ¬ (6 : Int32) - nI v = 0 := by rw [e6]; exact nI_ne0 (by omega) (by omega)
      refine br_f (nI_ge (b := 6) (by omega) (by omega)) ⟨h0, nm_r (e' := nI (gc_rs n v % (6 - v))) (by rw [e6]; exact pk_rem (by omega) (by omega) (by omega)) ⟨h0, nm_r (e' := nI (gc_rs n (v + 1))) (by rw [e6, ← gc_rs_s n hv6]; exact pk_div (by omega) (by omega) (by omega)) ⟨7, gc_fy_ok ?_ 7 _ _ (gc_fyF _ f1 _ (by omega) f2)⟩⟩⟩
      rw [f3]
      refine ⟨vp_in_nI hv6 (by omega), nm_r (e' := upd rn v (nI (gc_pm n v))) (by rw [nI_clamp (by omega)]) (nm_r (gc_tkF _ f1 _ hp) (nm_r (nI_1 v) (ih (v + 1) _ m (by omega) (by omega) fun w hw => ?_)))⟩
      by_cases c : w = v
      · subst c; rw [pk_us]
      · rw [pk_un c]; exact hk w (by omega)
  have k0 := key 6 0 rn 7 (by omega) (by omega) (fun w hw => by omega)
  rw [gc_rs_0] at k0
  exact ⟨7, k0⟩
/-! the relation of one graph: code x against colours and edges -/
def gc_GC (x : Int32) (cl : Nat → Int32) (g : Nat) : Prop := ∀ v, v < 6 → cl (g * 6 + v) = gc_r3 x (gc_cb v)
def gc_GE (x : Int32) (ed : Nat → Int32) (g : Nat) : Prop := ∀ u, u < 6 → ∀ w, w < 6 → u ≠ w → ed (g * 36 + 6 * u + w) = gc_r1 x (gc_pb u w)
def gc_KR (x : Int32) (kn cd : Nat → Int32) (g : Nat) : Prop := ¬ kn g = 0 → ∀ p, p < 720 → cd (g * 720 + p) = gc_aa p x
/-! codeBy -/
def gc_oe (x : Int32) (f : Nat → Nat) (i : Nat) : Int32 := if i % 6 ≤ i / 6 then 0 else gc_ob x (gc_pb (i / 6) (i % 6)) (gc_pb (f (i / 6)) (f (i % 6)))
def gc_y1 (x : Int32) (f : Nat → Nat) (r : Int32) (l : List Nat) : Int32 := l.foldl (fun r v => r ||| gc_oc x (gc_cb v) (gc_cb (f v))) r
def gc_y2 (x : Int32) (f : Nat → Nat) (r : Int32) (l : List Nat) : Int32 := l.foldl (fun r i => r ||| gc_oe x f i) r
theorem gc_sh0 {t : Nat} (ht : t < 32) : (0 : Int32) <<< (nI t &&& 31) = 0 := by
  apply b_ext
  intro i hi
  rw [b_shl t ht _ hi, b_0, b_0, Bool.and_false]
theorem gc_or0 (x : Int32) : x ||| 0 = x := by
  apply b_ext
  intro i _
  rw [b_or, b_0, Bool.or_false]
theorem gc_yc2 {post : Int32 → Prop} {x : Int32} {f : Nat → Nat} (hf : gc_P f) {g : Nat} (hg : g < 2) (hE : gc_GE x ed g) (hr : ∀ w, w < 6 → rn w = nI (f w)) : ∀ (d i : Nat) (r : Int32) (n : Nat), i + d = 36 → d < n → post (gc_y2 x f r (List.range' i d)) → wY_codeBy_44 post (nI g) cl ed rn cd kn n r (nI i) := by
  intro d
  induction d with
  | zero =>
    intro i r n hi hn h
    obtain ⟨n, rfl⟩ : ∃ m, n = m + 1 := ⟨n - 1, by omega⟩
    obtain rfl : i = 36 := by omega
    exact br_t (nI_le (a := 36) (b := 36) (by omega) (by omega)) h
  | succ d ih =>
    intro i r n hi hn h
    obtain ⟨n, rfl⟩ : ∃ m, n = m + 1 := ⟨n - 1, by omega⟩
    have h' : post (gc_y2 x f (r ||| gc_oe x f i) (List.range' (i + 1) d)) := h
    have ih := fun r h => ih (i + 1) r n (by omega) (by omega) h
    have hu : i / 6 < 6 := by omega
    have hw : i % 6 < 6 := by omega
    refine br_f (nI_ge (b := 36) (by omega) (by omega)) ⟨by decide, nm_r (pk_div (a := i) (d := 6) (by omega) (by omega) (by omega)) ⟨by decide, nm_r (pk_rem (a := i) (d := 6) (by omega) (by omega) (by omega)) (pk_le (i % 6) (i / 6) (fun c => nm_r (nI_1 i) (ih r ?_)) (fun c => ⟨gc_n36 hg (by omega), ?_⟩))⟩⟩
    · rw [show gc_oe x f i = 0 from if_pos c, gc_or0] at h'
      exact h'
    · have hn : i / 6 ≠ i % 6 := by omega
      have e : ed (nI g * 36 + nI i).toNatClampNeg = gc_r1 x (gc_pb (i / 6) (i % 6)) := by
        rw [gc_c36 hg (by omega), ← hE (i / 6) hu (i % 6) hw hn]
        exact congrArg ed (by omega)
      have c1 := gc_pb_lt hu hw hn
      have c2 := gc_pb_lt (hf.1 _ hu) (hf.1 _ hw) (gc_P_ne hf hu hw hn)
      have eo : gc_oe x f i = gc_r1 x (gc_pb (i / 6) (i % 6)) <<< (nI (gc_pb (f (i / 6)) (f (i % 6))) &&& 31) := if_neg (by omega)
      rw [eo] at h'
      rw [e]
      refine br_c (fun z => nm_r (nI_1 i) (ih r ?_)) (fun z => ?_)
      · rw [z, gc_sh0 (by omega), gc_or0] at h'
        exact h'
      · have z1 : gc_r1 x (gc_pb (i / 6) (i % 6)) = 1 := by
          rw [gc_r1_if x (by omega)] at z ⊢
          split at z
          · rw [if_pos (by assumption)]
          · exact absurd rfl z
        rw [z1] at h'
        refine ⟨vp_in_nI hu (by omega), vp_in_nI hw (by omega), ?_⟩
        rw [nI_clamp (by omega), nI_clamp (by omega), hr _ hu, hr _ hw]
        exact gc_yb (hf.1 _ hu) (hf.1 _ hw) (gc_P_ne hf hu hw hn) (nm_e (nm_r (nI_1 i) (ih _ h')))
theorem gc_yc1 {post : Int32 → Prop} {x : Int32} {f : Nat → Nat} (hf : gc_P f) {g : Nat} (hg : g < 2) (hC : gc_GC x cl g) (hE : gc_GE x ed g) (hr : ∀ w, w < 6 → rn w = nI (f w)) : ∀ (d v : Nat) (r : Int32) (n : Nat), v + d = 6 → d < n → post (gc_y2 x f (gc_y1 x f r (List.range' v d)) (List.range' 0 36)) → wY_codeBy_4 post (nI g) cl ed rn cd kn n r (nI v) := by
  intro d
  induction d with
  | zero =>
    intro v r n hi hn h
    obtain ⟨n, rfl⟩ : ∃ m, n = m + 1 := ⟨n - 1, by omega⟩
    obtain rfl : v = 6 := by omega
    exact br_t (nI_le (a := 6) (b := 6) (by omega) (by omega)) ⟨37, gc_yc2 hf hg hE hr 36 0 _ 37 (by omega) (by omega) h⟩
  | succ d ih =>
    intro v r n hi hn h
    obtain ⟨n, rfl⟩ : ∃ m, n = m + 1 := ⟨n - 1, by omega⟩
    have hv : v < 6 := by omega
    refine br_f (nI_ge (b := 6) (by omega) (by omega)) ⟨gc_n6 hg hv, vp_in_nI hv (by omega), nm_r (e' := r ||| gc_oc x (gc_cb v) (gc_cb (f v))) ?_ (nm_r (nI_1 v) (ih (v + 1) _ n (by omega) (by omega) h))⟩
    rw [gc_c6 hg hv, hC v hv, nI_clamp (by omega), hr v hv, gc_cbX _ (hf.1 v hv)]
    rfl
theorem gc_y_act {f : Nat → Nat} (hf : gc_P f) (x : Int32) : gc_y2 x f (gc_y1 x f 0 (List.range' 0 6)) (List.range' 0 36) = gc_act f x := by
  apply b_ext
  intro i hi
  apply gc_beq
  unfold gc_y2 gc_y1
  rw [gc_fold (fun i => gc_oe x f i), gc_fold (fun v => gc_oc x (gc_cb v) (gc_cb (f v))), gc_bt_act hf x hi, b_0]
  constructor
  · rintro ((h | ⟨u, h1, h2⟩) | ⟨k, h1, h2⟩)
    · exact absurd h (by decide)
    · rw [List.mem_range'_1] at h1
      have hu : u < 6 := by omega
      have c1 := gc_cb_lt hu
      have c2 := gc_cb_lt (hf.1 u hu)
      rw [gc_bt_oc x (by omega) (by omega) hi] at h2
      obtain ⟨j, hj, hb, e⟩ := h2
      exact ⟨gc_cb u + j, by omega, hb, by rw [gc_bp_cb hu hj, e]⟩
    · rw [List.mem_range'_1] at h1
      unfold gc_oe at h2
      by_cases c : k % 6 ≤ k / 6
      · rw [if_pos c, b_0] at h2
        exact absurd h2 (by decide)
      · rw [if_neg c] at h2
        have hu : k / 6 < 6 := by omega
        have hw : k % 6 < 6 := by omega
        have hn : k / 6 ≠ k % 6 := by omega
        have c1 := gc_pb_lt hu hw hn
        have c2 := gc_pb_lt (hf.1 _ hu) (hf.1 _ hw) (gc_P_ne hf hu hw hn)
        rw [gc_bt_ob x (by omega) (by omega) hi] at h2
        exact ⟨gc_pb (k / 6) (k % 6), by omega, h2.1, by rw [gc_bp_pb hu hw hn, h2.2]⟩
  · rintro ⟨s, hs, hb, e⟩
    rcases Nat.lt_or_ge s 15 with h1 | h1
    · right
      obtain ⟨a, b, hab, hb6, rfl⟩ := gc_lo_pb h1
      have ha : a < 6 := by omega
      have hn : a ≠ b := by omega
      have c2 := gc_pb_lt (hf.1 a ha) (hf.1 b hb6) (gc_P_ne hf ha hb6 hn)
      refine ⟨6 * a + b, List.mem_range'_1.mpr (by omega), ?_⟩
      unfold gc_oe
      have e1 : (6 * a + b) / 6 = a := by omega
      have e2 : (6 * a + b) % 6 = b := by omega
      rw [e1, e2, if_neg (by omega), gc_bt_ob x (by omega) (by omega) hi]
      exact ⟨hb, by rw [← e, gc_bp_pb ha hb6 hn]⟩
    · left; right
      obtain ⟨a, j, ha, hj, rfl⟩ := gc_hi_cb h1 hs
      have c1 := gc_cb_lt ha
      have c2 := gc_cb_lt (hf.1 a ha)
      refine ⟨a, List.mem_range'_1.mpr (by omega), ?_⟩
      rw [gc_bt_oc x (by omega) (by omega) hi]
      exact ⟨j, hj, hb, by rw [← e, gc_bp_cb ha hj]⟩
theorem gc_ycb {post : Int32 → Prop} {x : Int32} {f : Nat → Nat} (hf : gc_P f) {g : Nat} (hg : g < 2) (hC : gc_GC x cl g) (hE : gc_GE x ed g) (hr : ∀ w, w < 6 → rn w = nI (f w)) (h : post (gc_act f x)) : wpY_codeBy post (cl, ed, rn, cd, kn) (nI g) :=
  ⟨7, gc_yc1 hf hg hC hE hr 6 0 0 7 (by omega) (by omega) (by rw [gc_y_act hf]; exact h)⟩
/-! work, code -/
theorem gc_ywk {post : SY → Prop} {x : Int32} {g : Nat} (hg : g < 2) (hC : gc_GC x cl g) (hE : gc_GE x ed g) (hK : gc_KR x kn cd g)
    (h : ∀ rn' cd' kn' : Nat → Int32, (∀ p, p < 720 → cd' (g * 720 + p) = gc_aa p x) → (∀ j, (j < g * 720 ∨ g * 720 + 720 ≤ j) → cd' j = cd j) → (∀ j, j ≠ g → kn' j = kn j) → post (cl, ed, rn', cd', kn')) : wpY_work post (cl, ed, rn, cd, kn) (nI g) := by
  have key : ∀ (d p : Nat) (rn cd' : Nat → Int32) (m : Nat), p + d = 720 → d < m → (∀ q, q < p → cd' (g * 720 + q) = gc_aa q x) → (∀ j, (j < g * 720 ∨ g * 720 + 720 ≤ j) → cd' j = cd j) → wY_work_12 post (nI g) m (nI p) cl ed rn cd' kn := by
    intro d
    induction d with
    | zero =>
      intro p rn cd' m hv hm h1 h2
      obtain ⟨m, rfl⟩ : ∃ k, m = k + 1 := ⟨m - 1, by omega⟩
      obtain rfl : p = 720 := by omega
      exact br_t (nI_le (a := 720) (b := 720) (by omega) (by omega)) ⟨vp_in_nI hg (by omega), nm_r (e' := upd kn g (vp_nar .boolean 1)) (by rw [nI_clamp (by omega)]) (h rn cd' _ h1 h2 fun j hj => pk_un hj)⟩
    | succ d ih =>
      intro p rn cd' m hv hm h1 h2
      obtain ⟨m, rfl⟩ : ∃ k, m = k + 1 := ⟨m - 1, by omega⟩
      have hp : p < 720 := by omega
      refine br_f (nI_ge (b := 720) (by omega) (by omega)) (gc_yrn hp fun rn' hr => gc_ycb (gc_pm_P hp) hg hC hE hr ⟨gc_n720 hg hp, nm_r (e' := upd cd' (g * 720 + p) (gc_aa p x)) (by rw [gc_c720 hg hp]; rfl) (nm_r (nI_1 p) (ih (p + 1) rn' _ m (by omega) (by omega) (fun q hq => ?_) (fun j hj => ?_)))⟩)
      · by_cases c : q = p
        · subst c; rw [pk_us]
        · rw [pk_un (by omega)]; exact h1 q (by omega)
      · rw [pk_un (by omega)]; exact h2 j hj
  refine ⟨vp_in_nI hg (by omega), ?_⟩
  rw [nI_clamp (by omega)]
  exact br_c (fun _ => ⟨721, key 720 0 rn cd 721 (by omega) (by omega) (fun q hq => by omega) (fun j _ => rfl)⟩) (fun c => h rn cd kn (hK c) (fun j _ => rfl) (fun j _ => rfl))
theorem gc_xgB {A B : Prop} {g : Nat} (hg : g < 2) (h : B) : wpX_isGraph (fun r => (r = 0 → A) ∧ (¬ r = 0 → B)) (nI g) := gc_xg hg (br_f gc_10 h)
theorem gc_xgA {A B : Prop} {x : Int32} (hx : x < 0 ∨ nI 2 ≤ x) (h : A) : wpX_isGraph (fun r => (r = 0 → A) ∧ (¬ r = 0 → B)) x := gc_xg_o hx (br_t rfl h)
theorem gc_xvB {A B : Prop} {g : Nat} (hg : g < 6) (h : B) : wpX_isVertex (fun r => (r = 0 → A) ∧ (¬ r = 0 → B)) (nI g) := gc_xv hg (br_f gc_10 h)
theorem gc_xvA {A B : Prop} {x : Int32} (hx : x < 0 ∨ nI 6 ≤ x) (h : A) : wpX_isVertex (fun r => (r = 0 → A) ∧ (¬ r = 0 → B)) x := gc_xv_o hx (br_t rfl h)
theorem gc_ygB {A B : Prop} {g : Nat} (hg : g < 2) (h : B) : wpY_isGraph (fun r => (r = 0 → A) ∧ (¬ r = 0 → B)) (cl, ed, rn, cd, kn) (nI g) := gc_yg hg (br_f gc_10 h)
theorem gc_ygA {A B : Prop} {x : Int32} (hx : x < 0 ∨ nI 2 ≤ x) (h : A) : wpY_isGraph (fun r => (r = 0 → A) ∧ (¬ r = 0 → B)) (cl, ed, rn, cd, kn) x := gc_yg_o hx (br_t rfl h)
theorem gc_yvB {A B : Prop} {g : Nat} (hg : g < 6) (h : B) : wpY_isVertex (fun r => (r = 0 → A) ∧ (¬ r = 0 → B)) (cl, ed, rn, cd, kn) (nI g) := gc_yv hg (br_f gc_10 h)
theorem gc_yvA {A B : Prop} {x : Int32} (hx : x < 0 ∨ nI 6 ≤ x) (h : A) : wpY_isVertex (fun r => (r = 0 → A) ∧ (¬ r = 0 → B)) (cl, ed, rn, cd, kn) x := gc_yv_o hx (br_t rfl h)
theorem gc_yco {post : Int32 → SY → Prop} {x : Int32} {g : Nat} (hg : g < 2) (hH : gc_H x) (hC : gc_GC x cl g) (hE : gc_GE x ed g) (h : ∀ rn' : Nat → Int32, post x (cl, ed, rn', cd, kn)) : wpY_code post (cl, ed, rn, cd, kn) (nI g) := by
  unfold wpY_code
  dsimp only
  refine gc_ygB hg ?_
  refine gc_yrn (n := 0) (by omega) fun rn' hr => ?_
  refine gc_ycb (gc_pm_P (by omega : 0 < 720)) hg hC hE hr ?_
  have e : gc_act (gc_pm 0) x = x := gc_aa_0 hH
  rw [e]
  exact h rn'
end
end
section
/-! the reference's asking methods -/
section
variable {cl ed rn cd kn : Nat → Int32}
/-- the cache after an asking call: graph g's is right if known, the other graph's is as it was -/
def gc_W (x : Int32) (g : Nat) (cd kn cd' kn' : Nat → Int32) : Prop := gc_KR x kn' cd' g ∧ (∀ j, (j < g * 720 ∨ g * 720 + 720 ≤ j) → cd' j = cd j) ∧ (∀ j, j ≠ g → kn' j = kn j)
theorem gc_W_r {x : Int32} {g : Nat} (h : gc_KR x kn cd g) : gc_W x g cd kn cd kn := ⟨h, fun _ _ => rfl, fun _ _ => rfl⟩
theorem gc_W_t {x : Int32} {g : Nat} {cd1 kn1 cd2 kn2 : Nat → Int32} (h1 : gc_W x g cd kn cd1 kn1) (h2 : gc_W x g cd1 kn1 cd2 kn2) : gc_W x g cd kn cd2 kn2 :=
  ⟨h2.1, fun j hj => (h2.2.1 j hj).trans (h1.2.1 j hj), fun j hj => (h2.2.2 j hj).trans (h1.2.2 j hj)⟩
def gc_A (x : Int32) (g : Nat) (cd : Nat → Int32) : Prop := ∀ p, p < 720 → cd (g * 720 + p) = gc_aa p x
theorem gc_ywW {post : SY → Prop} {x : Int32} {g : Nat} (hg : g < 2) (hC : gc_GC x cl g) (hE : gc_GE x ed g) (hK : gc_KR x kn cd g)
    (h : ∀ rn' cd' kn' : Nat → Int32, gc_A x g cd' → gc_W x g cd kn cd' kn' → post (cl, ed, rn', cd', kn')) : wpY_work post (cl, ed, rn, cd, kn) (nI g) :=
  gc_ywk hg hC hE hK fun rn' cd' kn' h1 h2 h3 => h rn' cd' kn' h1 ⟨fun _ => h1, h2, h3⟩
theorem gc_cdA {x : Int32} {g : Nat} (hg : g < 2) (hA : gc_A x g cd) {p : Nat} (hp : p < 720) : cd (nI g * 720 + nI p).toNatClampNeg = gc_aa p x := by
  rw [gc_c720 hg hp]
  exact hA p hp
theorem gc_ycn {post : Int32 → SY → Prop} {x : Int32} {g : Nat} (hg : g < 2) (hH : gc_H x) (hA : gc_A x g cd) (h : post (gc_mn x 720) (cl, ed, rn, cd, kn)) : ∃ n, wY_canonical_28 post (nI g) cl ed rn cd kn n x 1 := by
  have key : ∀ (d p m : Nat), p + d = 720 → d < m → wY_canonical_28 post (nI g) cl ed rn cd kn m (gc_mn x p) (nI p) := by
    intro d
    induction d with
    | zero =>
      intro p m hv hm
      obtain ⟨m, rfl⟩ : ∃ k, m = k + 1 := ⟨m - 1, by omega⟩
      obtain rfl : p = 720 := by omega
      exact br_t (nI_le (a := 720) (b := 720) (by omega) (by omega)) h
    | succ d ih =>
      intro p m hv hm
      obtain ⟨m, rfl⟩ : ∃ k, m = k + 1 := ⟨m - 1, by omega⟩
      have ih := ih (p + 1) m (by omega) (by omega)
      rw [gc_mn_s] at ih
      have hi : vp_in (nI g * 720 + nI p) 1440 := gc_n720 hg (by omega)
      refine br_f (nI_ge (b := 720) (by omega) (by omega)) ⟨hi, ?_⟩
      rw [gc_cdA hg hA (by omega : p < 720)]
      refine br_c (fun c => nm_r (nI_1 p) ?_) (fun c => ⟨hi, nm_e (nm_r (nI_1 p) ?_)⟩)
      · rw [if_pos c] at ih
        exact ih
      · rw [if_neg c] at ih
        exact ih
  have k1 := key 719 1 720 (by omega) (by omega)
  rw [gc_mn_1 hH] at k1
  exact ⟨720, k1⟩
theorem gc_ysy {post : Int32 → SY → Prop} {x : Int32} {g : Nat} (hg : g < 2) (hA : gc_A x g cd) (h : post (nI (gc_sy x 720)) (cl, ed, rn, cd, kn)) : ∃ n, wY_symmetries_26 post (nI g) x cl ed rn cd kn n 0 0 := by
  have key : ∀ (d p m : Nat), p + d = 720 → d < m → wY_symmetries_26 post (nI g) x cl ed rn cd kn m (nI (gc_sy x p)) (nI p) := by
    intro d
    induction d with
    | zero =>
      intro p m hv hm
      obtain ⟨m, rfl⟩ : ∃ k, m = k + 1 := ⟨m - 1, by omega⟩
      obtain rfl : p = 720 := by omega
      exact br_t (nI_le (a := 720) (b := 720) (by omega) (by omega)) h
    | succ d ih =>
      intro p m hv hm
      obtain ⟨m, rfl⟩ : ∃ k, m = k + 1 := ⟨m - 1, by omega⟩
      have ih := ih (p + 1) m (by omega) (by omega)
      rw [gc_sy_s] at ih
      have hi : vp_in (nI g * 720 + nI p) 1440 := gc_n720 hg (by omega)
      refine br_f (nI_ge (b := 720) (by omega) (by omega)) ⟨hi, ?_⟩
      rw [gc_cdA hg hA (by omega : p < 720)]
      refine br_c (fun c => nm_r (nI_1 _) (nm_r (nI_1 p) ?_)) (fun c => nm_r (nI_1 p) ?_)
      · rw [if_pos (decide_eq_true c)] at ih
        exact ih
      · rw [if_neg (show ¬ decide (gc_aa p x = x) = true from fun z => c (of_decide_eq_true z))] at ih
        exact ih
  exact ⟨721, key 720 0 721 (by omega) (by omega)⟩
theorem gc_yor {post : Int32 → SY → Prop} {x : Int32} {g v : Nat} (hg : g < 2) (hv6 : v < 6) (hA : gc_A x g cd) (h : ∀ rn' : Nat → Int32, post (gc_om x v 720) (cl, ed, rn', cd, kn)) : ∃ n, wY_orbit_38 post (nI g) (nI v) x n 0 0 cl ed rn cd kn := by
  have key : ∀ (d p : Nat) (rn : Nat → Int32) (m : Nat), p + d = 720 → d < m → wY_orbit_38 post (nI g) (nI v) x m (gc_om x v p) (nI p) cl ed rn cd kn := by
    intro d
    induction d with
    | zero =>
      intro p rn m hv hm
      obtain ⟨m, rfl⟩ : ∃ k, m = k + 1 := ⟨m - 1, by omega⟩
      obtain rfl : p = 720 := by omega
      exact br_t (nI_le (a := 720) (b := 720) (by omega) (by omega)) (h rn)
    | succ d ih =>
      intro p rn m hv hm
      obtain ⟨m, rfl⟩ : ∃ k, m = k + 1 := ⟨m - 1, by omega⟩
      have ih := fun rn => ih (p + 1) rn m (by omega) (by omega)
      rw [gc_om_s] at ih
      have hp : p < 720 := by omega
      have hi : vp_in (nI g * 720 + nI p) 1440 := gc_n720 hg hp
      refine br_f (nI_ge (b := 720) (by omega) (by omega)) ⟨hi, ?_⟩
      rw [gc_cdA hg hA hp]
      refine br_c (fun c => gc_yrn hp fun rn' hr => ⟨vp_in_nI hv6 (by omega), nm_r (e' := gc_om x v p ||| ((1 : Int32) <<< (nI (gc_pm p v) &&& 31))) (by rw [nI_clamp (by omega), hr v hv6]) (nm_r (nI_1 p) ?_)⟩) (fun c => nm_r (nI_1 p) ?_)
      · rw [if_pos c] at ih
        exact ih rn'
      · rw [if_neg c] at ih
        exact ih rn
  exact ⟨721, key 720 0 rn 721 (by omega) (by omega)⟩
theorem gc_yorb {post : Int32 → SY → Prop} {x : Int32} {g v : Nat} (hg : g < 2) (hv : v < 6) (hH : gc_H x) (hC : gc_GC x cl g) (hE : gc_GE x ed g) (hK : gc_KR x kn cd g)
    (h : ∀ rn' cd' kn' : Nat → Int32, gc_W x g cd kn cd' kn' → post (gc_om x v 720) (cl, ed, rn', cd', kn')) : wpY_orbit post (cl, ed, rn, cd, kn) (nI g) (nI v) := by
  unfold wpY_orbit
  dsimp only
  refine gc_ygB hg ?_
  refine gc_yvB hv ?_
  refine gc_ywW hg hC hE hK fun rn' cd' kn' hA hW => ?_
  refine gc_yco hg hH hC hE fun rn2 => ?_
  exact gc_yor hg hv hA fun rn3 => h rn3 cd' kn' hW
theorem gc_yon {post : Int32 → SY → Prop} {x : Int32} {g : Nat} (hg : g < 2) (hH : gc_H x) (hC : gc_GC x cl g) (hE : gc_GE x ed g) (hK : gc_KR x kn cd g)
    (h : ∀ rn' cd' kn' : Nat → Int32, gc_W x g cd kn cd' kn' → post (nI (gc_on x 6)) (cl, ed, rn', cd', kn')) : ∃ n, wY_orbits_14 post (nI g) n 0 0 cl ed rn cd kn := by
  have key : ∀ (d v : Nat) (rn cd' kn' : Nat → Int32) (m : Nat), v + d = 6 → d < m → gc_W x g cd kn cd' kn' → wY_orbits_14 post (nI g) m (nI (gc_on x v)) (nI v) cl ed rn cd' kn' := by
    intro d
    induction d with
    | zero =>
      intro p rn cd' kn' m hv hm hW
      obtain ⟨m, rfl⟩ : ∃ k, m = k + 1 := ⟨m - 1, by omega⟩
      obtain rfl : p = 6 := by omega
      exact br_t (nI_le (a := 6) (b := 6) (by omega) (by omega)) (h rn cd' kn' hW)
    | succ d ih =>
      intro p rn cd' kn' m hv hm hW
      obtain ⟨m, rfl⟩ : ∃ k, m = k + 1 := ⟨m - 1, by omega⟩
      have ih := fun rn cd' kn' hW => ih (p + 1) rn cd' kn' m (by omega) (by omega) hW
      rw [gc_on_s] at ih
      refine br_f (nI_ge (b := 6) (by omega) (by omega)) (gc_yorb hg (by omega) hH hC hE hW.1 fun rn2 cd2 kn2 hW2 => ?_)
      refine br_c (fun c => br_f gc_10 (nm_r (nI_1 _) (nm_r (nI_1 p) ?_))) (fun c => br_t rfl (nm_r (nI_1 p) ?_))
      · rw [if_pos c] at ih
        exact ih rn2 cd2 kn2 (gc_W_t hW hW2)
      · rw [if_neg c] at ih
        exact ih rn2 cd2 kn2 (gc_W_t hW hW2)
  exact ⟨7, key 6 0 rn cd kn 7 (by omega) (by omega) (gc_W_r hK)⟩
theorem gc_yva {post : Int32 → SY → Prop} {x : Int32} {g : Nat} (hg : g < 2) (hA : gc_A x g cd) (h : post (nI (gc_ct (gc_new fun p => gc_aa p x) 720)) (cl, ed, rn, cd, kn)) : ∃ n, wY_variants_19 post (nI g) cl ed rn cd kn n 0 0 := by
  have inner : ∀ (J : Int32 → Int32 → Prop) (x2 : Int32) (p : Nat), p < 720 → (gc_new (fun p => gc_aa p x) p = true → J (x2 + 1) (nI (p + 1))) → (¬ gc_new (fun p => gc_aa p x) p = true → J x2 (nI (p + 1))) → ∀ (d q m : Nat), q + d = p → d < m → (∀ j, j < q → ¬ gc_aa j x = gc_aa p x) → wY_variants_29 post J (nI g) x2 (nI p) cl ed rn cd kn m (nI q) := by
    intro J x2 p hp h1 h2 d
    induction d with
    | zero =>
      intro q m hq hm hn
      obtain ⟨m, rfl⟩ : ∃ k, m = k + 1 := ⟨m - 1, by omega⟩
      obtain rfl : q = p := by omega
      exact br_t (nI_le (by omega) (by omega)) (br_t rfl (nm_e (nm_r (nI_1 q) (h1 (decide_eq_true hn)))))
    | succ d ih =>
      intro q m hq hm hn
      obtain ⟨m, rfl⟩ : ∃ k, m = k + 1 := ⟨m - 1, by omega⟩
      refine br_f (nI_ge (by omega) (by omega)) ⟨gc_n720 hg (by omega), gc_n720 hg hp, ?_⟩
      rw [gc_cdA hg hA (by omega : q < 720), gc_cdA hg hA hp]
      refine br_c (fun c => br_f (fun z => ?_) (nm_r (nI_1 p) (h2 fun z => ?_))) (fun c => nm_r (nI_1 q) (ih (q + 1) m (by omega) (by omega) fun j hj => ?_))
      · rw [nI_eq (by omega) (by omega)] at z
        omega
      · exact of_decide_eq_true z q (by omega) c
      · rcases (show j < q ∨ j = q by omega) with z | z
        · exact hn j z
        · subst z; exact c
  have key : ∀ (d p m : Nat), p + d = 720 → d < m → wY_variants_19 post (nI g) cl ed rn cd kn m (nI (gc_ct (gc_new fun p => gc_aa p x) p)) (nI p) := by
    intro d
    induction d with
    | zero =>
      intro p m hv hm
      obtain ⟨m, rfl⟩ : ∃ k, m = k + 1 := ⟨m - 1, by omega⟩
      obtain rfl : p = 720 := by omega
      exact br_t (nI_le (a := 720) (b := 720) (by omega) (by omega)) h
    | succ d ih =>
      intro p m hv hm
      obtain ⟨m, rfl⟩ : ∃ k, m = k + 1 := ⟨m - 1, by omega⟩
      have ih := ih (p + 1) m (by omega) (by omega)
      rw [gc_ct_s] at ih
      refine br_f (nI_ge (b := 720) (by omega) (by omega)) ⟨p + 1, inner _ _ p (by omega) (fun z => ?_) (fun z => ?_) p 0 (p + 1) (by omega) (by omega) (fun j hj => by omega)⟩
      · rw [if_pos z] at ih
        rw [nI_1]
        exact ih
      · rw [if_neg z] at ih
        exact ih
  exact ⟨721, key 720 0 721 (by omega) (by omega)⟩
theorem gc_ycm {post : Int32 → SY → Prop} {x k w : Int32} (hA : gc_A x 0 cd) (h1 : (∃ p, p < 720 ∧ gc_aa p x &&& k = w) → post 1 (cl, ed, rn, cd, kn)) (h0 : ¬ (∃ p, p < 720 ∧ gc_aa p x &&& k = w) → post 0 (cl, ed, rn, cd, kn)) : ∃ n, wY_comes_15 post k w cl ed rn cd kn n 0 := by
  have key : ∀ (d p m : Nat), p + d = 720 → d < m → (∀ q, q < p → ¬ gc_aa q x &&& k = w) → wY_comes_15 post k w cl ed rn cd kn m (nI p) := by
    intro d
    induction d with
    | zero =>
      intro p m hv hm hn
      obtain ⟨m, rfl⟩ : ∃ k, m = k + 1 := ⟨m - 1, by omega⟩
      obtain rfl : p = 720 := by omega
      exact br_t (nI_le (a := 720) (b := 720) (by omega) (by omega)) (h0 fun ⟨q, hq, e⟩ => hn q hq e)
    | succ d ih =>
      intro p m hv hm hn
      obtain ⟨m, rfl⟩ : ∃ k, m = k + 1 := ⟨m - 1, by omega⟩
      refine br_f (nI_ge (b := 720) (by omega) (by omega)) ⟨vp_in_nI (by omega) (by omega), ?_⟩
      have e : cd (nI p).toNatClampNeg = gc_aa p x := by
        rw [nI_clamp (by omega), ← hA p (by omega)]
        exact congrArg cd (by omega)
      rw [e]
      refine br_c (fun c => h1 ⟨p, by omega, c⟩) (fun c => nm_r (nI_1 p) (ih (p + 1) m (by omega) (by omega) fun q hq => ?_))
      rcases (show q < p ∨ q = p by omega) with z | z
      · exact hn q z
      · subst z; exact c
  exact ⟨721, key 720 0 721 (by omega) (by omega) (fun q hq => by omega)⟩
end
end
section
/-! the relation -/
def gc_I (ac ar cl ed cd kn : Nat → Int32) : Prop := gc_T ar ∧ ∀ g, g < 2 → gc_H (ac g) ∧ gc_GC (ac g) cl g ∧ gc_GE (ac g) ed g ∧ gc_KR (ac g) kn cd g
def i_Rel (k : Nat) (u : SX) (v : SY) : Prop := gc_I u.1 u.2 v.1 v.2.1 v.2.2.2.1 v.2.2.2.2
theorem i_up {k : Nat} {u : SX} {v : SY} (h : i_Rel k u v) : i_Rel (k + 5) u v := h
theorem gc_r3_0 : ∀ v, v < 6 → gc_r3 0 (gc_cb v) = 0 := by decide +kernel
theorem gc_r1_0 : ∀ u, u < 6 → ∀ w, w < 6 → gc_r1 0 (gc_pb u w) = 0 := by decide +kernel
theorem i_vc0 : wpX_init (fun u => wpY_init (fun v => i_Rel 0 u v)) := by
  refine gc_xinit fun ar har => ?_
  refine ⟨har, fun g hg => ⟨fun i _ => b_0 i, fun v hv => (gc_r3_0 v hv).symm, fun u hu w hw _ => (gc_r1_0 u hu w hw).symm, fun z => absurd rfl z⟩⟩
section
variable {ac ar cl ed rn cd kn : Nat → Int32}
/-- an asking call keeps the relation -/
theorem gc_I_W {g : Nat} {cd' kn' : Nat → Int32} (I : gc_I ac ar cl ed cd kn) (hW : gc_W (ac g) g cd kn cd' kn') : gc_I ac ar cl ed cd' kn' := by
  refine ⟨I.1, fun j hj => ⟨(I.2 j hj).1, (I.2 j hj).2.1, (I.2 j hj).2.2.1, ?_⟩⟩
  by_cases c : j = g
  · subst c; exact hW.1
  · intro z p hp
    rw [hW.2.2 j c] at z
    rw [hW.2.1 _ (by omega)]
    exact (I.2 j hj).2.2.2 z p hp
/-- a call that changes graph g -/
theorem gc_I_u {g : Nat} {y : Int32} {cl' ed' kn' : Nat → Int32} (I : gc_I ac ar cl ed cd kn) (hH : gc_H y) (hC : gc_GC y cl' g) (hE : gc_GE y ed' g)
    (fc : ∀ j, (j < g * 6 ∨ g * 6 + 6 ≤ j) → cl' j = cl j) (fe : ∀ j, (j < g * 36 ∨ g * 36 + 36 ≤ j) → ed' j = ed j) (k0 : kn' g = 0) (fk : ∀ j, j ≠ g → kn' j = kn j) : gc_I (upd ac g y) ar cl' ed' cd kn' := by
  refine ⟨I.1, fun j hj => ?_⟩
  by_cases c : j = g
  · subst c
    rw [pk_us]
    exact ⟨hH, hC, hE, fun z => absurd k0 z⟩
  · rw [pk_un c]
    obtain ⟨a, b, d, e⟩ := I.2 j hj
    refine ⟨a, fun v hv => ?_, fun u hu w hw hn => ?_, fun z p hp => ?_⟩
    · rw [fc _ (by omega)]; exact b v hv
    · rw [fe _ (by omega)]; exact d u hu w hw hn
    · rw [fk j c] at z; exact e z p hp
theorem gc_nar0 : vp_nar .boolean 0 = 0 := by decide +kernel
theorem gc_nar1 : vp_nar .boolean 1 = 1 := by decide +kernel
theorem gc_nar {t : Int32} (h : t = 0 ∨ t = 1) : vp_nar .boolean t = t := by
  rcases h with h | h
  · rw [h, gc_nar0]
  · rw [h, gc_nar1]
theorem gc_r1_01 (x : Int32) {s : Nat} (hs : s < 32) : gc_r1 x s = 0 ∨ gc_r1 x s = 1 := by
  rw [gc_r1_if x hs]
  split
  · exact Or.inr rfl
  · exact Or.inl rfl
/-! edge of the reference -/
theorem gc_yed {post : Int32 → SY → Prop} {g u w : Nat} {t : Int32} (hg : g < 2) (hu : u < 6) (hw : w < 6) (hn : u ≠ w) (ht : t = 0 ∨ t = 1) (he : ed (g * 36 + 6 * u + w) = 0 ∨ ed (g * 36 + 6 * u + w) = 1)
    (h : post (ed (g * 36 + 6 * u + w)) (cl, upd (upd ed (g * 36 + 6 * u + w) t) (g * 36 + 6 * w + u) t, rn, cd, upd kn g 0)) : wpY_edge post (cl, ed, rn, cd, kn) (nI g) (nI u) (nI w) t := by
  have k58 : ∀ z : Int32, post z (cl, upd (upd ed (g * 36 + 6 * u + w) t) (g * 36 + 6 * w + u) t, rn, cd, upd kn g 0) → wY_edge_58 post (nI g) (nI u) (nI w) t z cl ed rn cd kn := by
    intro z hz
    refine ⟨gc_n66 hg hu hw, nm_r (e' := upd ed (g * 36 + 6 * u + w) t) (by rw [gc_c66 hg hu hw, gc_nar ht]) ⟨gc_n66 hg hw hu, nm_r (e' := upd (upd ed (g * 36 + 6 * u + w) t) (g * 36 + 6 * w + u) t) (by rw [gc_c66 hg hw hu, gc_nar ht]) ⟨vp_in_nI hg (by omega), nm_r (e' := upd kn g 0) (by rw [nI_clamp (by omega), gc_nar0]) hz⟩⟩⟩
  unfold wpY_edge
  dsimp only
  refine gc_ygB hg ?_
  refine gc_yvB hu ?_
  refine gc_yvB hw ?_
  refine br_f (fun z => ?_) ⟨gc_n66 hg hu hw, ?_⟩
  · rw [nI_eq (by omega) (by omega)] at z
    exact hn z
  · rw [gc_c66 hg hu hw]
    rcases he with e | e
    · rw [e] at h
      exact br_t e (k58 0 h)
    · rw [e] at h
      exact br_f (by rw [e]; exact gc_10) (k58 1 h)
/-! one bit set or cleared -/
theorem gc_b1s {b i : Nat} (hb : b < 32) (hi : i < 32) : bt ((1 : Int32) <<< (nI b &&& 31)) i = decide (i = b) := by
  rw [b_shl b hb _ hi, gc_b1]
  by_cases h : i = b
  · subst h; simp
  · by_cases h2 : b ≤ i
    · simp [h, show ¬ i - b = 0 by omega]
    · simp [h, h2]
theorem gc_bm1 : ∀ i, i < 32 → bt (-1) i = true := by decide +kernel
theorem gc_bclr (x : Int32) {b i : Nat} (hb : b < 32) (hi : i < 32) : bt (x &&& (((1 : Int32) <<< (nI b &&& 31)) ^^^ (-1))) i = (bt x i && !decide (i = b)) := by
  rw [b_and, b_xor, gc_b1s hb hi, gc_bm1 i hi, Bool.xor_true]
theorem gc_bset (x : Int32) {b i : Nat} (hb : b < 32) (hi : i < 32) : bt (x ||| ((1 : Int32) <<< (nI b &&& 31))) i = (bt x i || decide (i = b)) := by
  rw [b_or, gc_b1s hb hi]
theorem gc_pb_inj {a b u w : Nat} (ha : a < 6) (hb : b < 6) (hab : a ≠ b) (hu : u < 6) (hw : w < 6) (huw : u ≠ w) (h : gc_pb a b = gc_pb u w) : a = u ∧ b = w ∨ a = w ∧ b = u := by
  have h1 := (gc_pbF a ha b hb hab).2
  have h2 := (gc_pbF u hu w hw huw).2
  rw [h] at h1
  omega
/-- y is x with pair bit b made t -/
theorem gc_edE {x y : Int32} {g u w : Nat} {t : Int32} (hu : u < 6) (hw : w < 6) (hn : u ≠ w) (hE : gc_GE x ed g) (hb : gc_r1 y (gc_pb u w) = t) (ho : ∀ i, i < 27 → i ≠ gc_pb u w → bt y i = bt x i) : gc_GE y (upd (upd ed (g * 36 + 6 * u + w) t) (g * 36 + 6 * w + u) t) g := by
  intro a ha b hb6 hab
  by_cases c1 : a = w ∧ b = u
  · obtain ⟨rfl, rfl⟩ := c1
    rw [pk_us, gc_pb_comm, hb]
  · rw [pk_un (by omega)]
    by_cases c2 : a = u ∧ b = w
    · obtain ⟨rfl, rfl⟩ := c2
      rw [pk_us, hb]
    · rw [pk_un (by omega), hE a ha b hb6 hab]
      have l1 := gc_pb_lt ha hb6 hab
      refine gc_r1_eq (by omega) (by omega) (ho _ (by omega) fun e => ?_).symm
      rcases gc_pb_inj ha hb6 hab hu hw hn e with z | z
      · exact c2 z
      · exact c1 z
theorem gc_edC {x y : Int32} {g b : Nat} (hb : b < 15) (hC : gc_GC x cl g) (ho : ∀ i, i < 27 → i ≠ b → bt y i = bt x i) : gc_GC y cl g := by
  intro v hv
  have := gc_cb_lt hv
  rw [hC v hv]
  exact gc_r3_eq (by omega) (by omega) (ho _ (by omega) (by omega)).symm (ho _ (by omega) (by omega)).symm
end
theorem i_vc_edge {k : Nat} {u : SX} {v : SY} (I : i_Rel k u v) (hk : k + 5 ≤ 2560) (v1 : Int32) (v2 : Int32) (v3 : Int32) (v4 : Int32) : wpX_edge (fun r u' => wpY_edge (fun r' v' => r' = r ∧ i_Rel (k + 5) u' v') v v1 v2 v3 (lw_bz v4)) u v1 v2 v3 (lw_bz v4) := by
  obtain ⟨ac, ar⟩ := u
  obtain ⟨cl, ed, rn, cd, kn⟩ := v
  replace I : gc_I ac ar cl ed cd kn := I
  have ht := lw_bz_01 v4
  generalize lw_bz v4 = t at ht
  unfold wpX_edge
  dsimp only
  rcases gc_cs v1 (N := 2) (by decide) with ho | ⟨g, hg, rfl⟩
  · refine gc_xgA ho ?_
    unfold wpY_edge
    dsimp only
    exact gc_ygA ho ⟨rfl, I⟩
  refine gc_xgB hg ?_
  rcases gc_cs v2 (N := 6) (by decide) with ho | ⟨a, ha, rfl⟩
  · refine gc_xvA ho ?_
    unfold wpY_edge
    dsimp only
    refine gc_ygB hg ?_
    exact gc_yvA ho ⟨rfl, I⟩
  refine gc_xvB ha ?_
  rcases gc_cs v3 (N := 6) (by decide) with ho | ⟨b, hb, rfl⟩
  · refine gc_xvA ho ?_
    unfold wpY_edge
    dsimp only
    refine gc_ygB hg ?_
    refine gc_yvB ha ?_
    exact gc_yvA ho ⟨rfl, I⟩
  refine gc_xvB hb ?_
  by_cases hn : a = b
  · subst hn
    refine br_t rfl ?_
    unfold wpY_edge
    dsimp only
    refine gc_ygB hg ?_
    refine gc_yvB ha ?_
    refine gc_yvB ha ?_
    exact br_t rfl ⟨rfl, I⟩
  have hn' : ¬ nI a = nI b := by
    rw [nI_eq (by omega) (by omega)]
    exact hn
  refine br_f hn' ?_
  refine gc_xpb ha hb hn ?_
  obtain ⟨hH, hC, hE, hK⟩ := I.2 g hg
  have hl := gc_pb_lt ha hb hn
  have he : ed (g * 36 + 6 * a + b) = gc_r1 (ac g) (gc_pb a b) := hE a ha b hb hn
  have h01 : ed (g * 36 + 6 * a + b) = 0 ∨ ed (g * 36 + 6 * a + b) = 1 := by
    rw [he]
    exact gc_r1_01 _ (by omega)
  have hi : vp_in (nI g) 2 := vp_in_nI hg (by omega)
  have fe : ∀ j, (j < g * 36 ∨ g * 36 + 36 ≤ j) → upd (upd ed (g * 36 + 6 * a + b) t) (g * 36 + 6 * b + a) t j = ed j := fun j hj => by
    rw [pk_un (by omega), pk_un (by omega)]
  refine ⟨hi, nm_r (e' := ac g) (by rw [nI_clamp (by omega)]) ?_⟩
  rcases ht with rfl | rfl
  · refine br_t rfl ⟨hi, nm_r (e' := upd ac g (ac g &&& (((1 : Int32) <<< (nI (gc_pb a b) &&& 31)) ^^^ (-1)))) (by rw [nI_clamp (by omega)]) ?_⟩
    refine gc_yed hg ha hb hn (Or.inl rfl) h01 ⟨he, ?_⟩
    have ho : ∀ i, i < 32 → i ≠ gc_pb a b → bt (ac g &&& (((1 : Int32) <<< (nI (gc_pb a b) &&& 31)) ^^^ (-1))) i = bt (ac g) i := fun i hi hne => by
      rw [gc_bclr _ (by omega) hi]
      simp [hne]
    refine gc_I_u I (gc_H_and _ hH) (gc_edC hl hC fun i hi hne => ho i (by omega) hne) (gc_edE ha hb hn hE ?_ fun i hi hne => ho i (by omega) hne) (fun _ _ => rfl) fe pk_us (fun j hj => pk_un hj)
    rw [gc_r1_if _ (by omega), gc_bclr _ (by omega) (by omega)]
    simp
  · refine br_f gc_10 ⟨hi, nm_r (e' := upd ac g (ac g ||| ((1 : Int32) <<< (nI (gc_pb a b) &&& 31)))) (by rw [nI_clamp (by omega)]) ?_⟩
    refine gc_yed hg ha hb hn (Or.inr rfl) h01 ⟨he, ?_⟩
    have ho : ∀ i, i < 32 → i ≠ gc_pb a b → bt (ac g ||| ((1 : Int32) <<< (nI (gc_pb a b) &&& 31))) i = bt (ac g) i := fun i hi hne => by
      rw [gc_bset _ (by omega) hi]
      simp [hne]
    refine gc_I_u I (fun i hi => ?_) (gc_edC hl hC fun i hi hne => ho i (by omega) hne) (gc_edE ha hb hn hE ?_ fun i hi hne => ho i (by omega) hne) (fun _ _ => rfl) fe pk_us (fun j hj => pk_un hj)
    · rcases Nat.lt_or_ge i 32 with z | z
      · rw [ho i z (by omega)]; exact hH i hi
      · exact b_big z
    · rw [gc_r1_if _ (by omega), gc_bset _ (by omega) (by omega)]
      simp
/-! colour -/
theorem gc_bcol (x : Int32) {c k i : Nat} (hc : c < 30) (hk : k < 4) (hi : i < 32) : bt ((x &&& (((3 : Int32) <<< (nI c &&& 31)) ^^^ (-1))) ||| (nI k <<< (nI c &&& 31))) i = if c ≤ i ∧ i < c + 2 then bt (nI k) (i - c) else bt x i := by
  have hs : ∀ k, k < 4 → ∀ i, i < 32 → 2 ≤ i → bt (nI k) i = false := by decide +kernel
  rw [b_or, b_and, b_xor, b_shl c (by omega) _ hi, b_shl c (by omega) _ hi, gc_bm1 i hi, gc_b3]
  by_cases h1 : c ≤ i
  · by_cases h2 : i < c + 2
    · rw [if_pos ⟨h1, h2⟩]
      simp [h1, show i - c < 2 by omega]
    · rw [if_neg (fun z => h2 z.2), hs k hk (i - c) (by omega) (by omega)]
      simp [show ¬ i - c < 2 by omega]
  · rw [if_neg (fun z => h1 z.1)]
    simp [h1]
theorem i_vc_colour {k : Nat} {u : SX} {v : SY} (I : i_Rel k u v) (hk : k + 5 ≤ 2560) (v1 : Int32) (v2 : Int32) (v3 : Int32) : wpX_colour (fun r u' => wpY_colour (fun r' v' => r' = r ∧ i_Rel (k + 5) u' v') v v1 v2 v3) u v1 v2 v3 := by
  obtain ⟨ac, ar⟩ := u
  obtain ⟨cl, ed, rn, cd, kn⟩ := v
  replace I : gc_I ac ar cl ed cd kn := I
  unfold wpX_colour
  dsimp only
  rcases gc_cs v1 (N := 2) (by decide) with ho | ⟨g, hg, rfl⟩
  · refine gc_xgA ho ?_
    unfold wpY_colour
    dsimp only
    exact gc_ygA ho ⟨rfl, I⟩
  refine gc_xgB hg ?_
  rcases gc_cs v2 (N := 6) (by decide) with ho | ⟨a, ha, rfl⟩
  · refine gc_xvA ho ?_
    unfold wpY_colour
    dsimp only
    refine gc_ygB hg ?_
    exact gc_yvA ho ⟨rfl, I⟩
  refine gc_xvB ha ?_
  rcases gc_cs v3 (N := 4) (by decide) with (ho | ho) | ⟨c, hc, rfl⟩
  · refine br_t ho ?_
    unfold wpY_colour
    dsimp only
    refine gc_ygB hg ?_
    refine gc_yvB ha ?_
    exact br_t ho ⟨rfl, I⟩
  · have h0 := gc_ge0 (by decide) ho
    have h3 : ¬ v3 ≤ 3 := Int32.not_le.mpr (Int32.lt_of_lt_of_le (by decide : (3 : Int32) < nI 4) ho)
    refine br_f h0 (br_f (Int32.not_lt.mpr ho) ?_)
    unfold wpY_colour
    dsimp only
    refine gc_ygB hg ?_
    refine gc_yvB ha ?_
    exact br_f h0 (br_f h3 ⟨rfl, I⟩)
  have h0 : ¬ nI c < 0 := nI_pos (by omega)
  refine br_f h0 (br_t (nI_lt (b := 4) hc (by omega)) ?_)
  refine gc_xcb ha ?_
  obtain ⟨hH, hC, hE, hK⟩ := I.2 g hg
  have hl := gc_cb_lt ha
  have hi : vp_in (nI g) 2 := vp_in_nI hg (by omega)
  refine ⟨hi, nm_r (e' := ac g) (by rw [nI_clamp (by omega)]) ⟨hi, nm_r (e' := upd ac g ((ac g &&& (((3 : Int32) <<< (nI (gc_cb a) &&& 31)) ^^^ (-1))) ||| (nI c <<< (nI (gc_cb a) &&& 31)))) (by rw [nI_clamp (by omega)]) ?_⟩⟩
  unfold wpY_colour
  dsimp only
  refine gc_ygB hg ?_
  refine gc_yvB ha ?_
  refine br_f h0 (br_t (nI_le (b := 3) (by omega) (by omega)) ⟨gc_n6 hg ha, nm_r (e' := gc_r3 (ac g) (gc_cb a)) (by rw [gc_c6 hg ha]; exact hC a ha) ⟨gc_n6 hg ha, nm_r (e' := upd cl (g * 6 + a) (nI c)) (by rw [gc_c6 hg ha]) ⟨hi, nm_r (e' := upd kn g 0) (by rw [nI_clamp (by omega), gc_nar0]) ⟨rfl, ?_⟩⟩⟩⟩)
  have hb := fun i (hi : i < 32) => gc_bcol (ac g) (c := gc_cb a) (k := c) (i := i) (by omega) hc hi
  generalize ((ac g &&& (((3 : Int32) <<< (nI (gc_cb a) &&& 31)) ^^^ (-1))) ||| (nI c <<< (nI (gc_cb a) &&& 31))) = y at hb
  show gc_I (upd ac g y) ar (upd cl (g * 6 + a) (nI c)) ed cd (upd kn g 0)
  refine gc_I_u I (fun i hi => ?_) (fun b hb6 => ?_) (fun p hp q hq hn => ?_) (fun j hj => pk_un (by omega)) (fun _ _ => rfl) pk_us (fun j hj => pk_un hj)
  · rcases Nat.lt_or_ge i 32 with z | z
    · rw [hb i z, if_neg (by omega)]; exact hH i hi
    · exact b_big z
  · have hl2 := gc_cb_lt hb6
    by_cases e : b = a
    · subst e
      rw [pk_us]
      apply b_ext
      intro i hi
      rw [gc_bt_r3 y (by omega)]
      by_cases z : i < 2
      · rw [hb _ (by omega), if_pos (by omega), Nat.add_sub_cancel_left]
        simp [z]
      · rw [(by decide +kernel : ∀ k, k < 4 → ∀ i, i < 32 → 2 ≤ i → bt (nI k) i = false) c hc i hi (by omega)]
        simp [z]
    · rw [pk_un (by omega), hC b hb6]
      have e2 : gc_cb b + 1 < gc_cb a ∨ gc_cb a + 1 < gc_cb b := by
        unfold gc_cb
        omega
      refine gc_r3_eq (by omega) (by omega) ?_ ?_
      · rw [hb _ (by omega), if_neg (by omega)]
      · rw [hb _ (by omega), if_neg (by omega)]
  · have hl2 := gc_pb_lt hp hq hn
    rw [hE p hp q hq hn]
    refine gc_r1_eq (by omega) (by omega) ?_
    rw [hb _ (by omega), if_neg (by omega)]
end
section
/-! copy -/
section
variable {ac ar cl ed rn cd kn : Nat → Int32}
theorem gc_i36l (i : Nat) : (36 : Int32) + nI i = nI (36 + i) := nI_add 36 i
theorem gc_i6l (i : Nat) : (6 : Int32) + nI i = nI (6 + i) := nI_add 6 i
theorem gc_ycp2 {post : SY → Prop} (h : ∀ ed' : Nat → Int32, (∀ i, i < 36 → ed' (36 + i) = vp_nar .boolean (ed i)) → (∀ j, (j < 36 ∨ 72 ≤ j) → ed' j = ed j) → post (cl, ed', rn, cd, upd kn 1 0)) : ∃ n, wY_copy_31 post n 0 cl ed rn cd kn := by
  have key : ∀ (d i : Nat) (ed' : Nat → Int32) (m : Nat), i + d = 36 → d < m → (∀ j, j < i → ed' (36 + j) = vp_nar .boolean (ed j)) → (∀ j, (j < 36 ∨ 72 ≤ j) → ed' j = ed j) → wY_copy_31 post m (nI i) cl ed' rn cd kn := by
    intro d
    induction d with
    | zero =>
      intro i ed' m hv hm h1 h2
      obtain ⟨m, rfl⟩ : ∃ k, m = k + 1 := ⟨m - 1, by omega⟩
      obtain rfl : i = 36 := by omega
      exact br_t (nI_le (a := 36) (b := 36) (by omega) (by omega)) (nm_r (e' := upd kn 1 0) (by rw [gc_nar0]) (h ed' h1 h2))
    | succ d ih =>
      intro i ed' m hv hm h1 h2
      obtain ⟨m, rfl⟩ : ∃ k, m = k + 1 := ⟨m - 1, by omega⟩
      refine br_f (nI_ge (b := 36) (by omega) (by omega)) ⟨vp_in_nI (by omega) (by omega), by rw [gc_i36l]; exact vp_in_nI (by omega) (by omega), nm_r (e' := upd ed' (36 + i) (vp_nar .boolean (ed i))) (by rw [gc_i36l, nI_clamp (by omega), nI_clamp (by omega), h2 i (by omega)]) (nm_r (nI_1 i) (ih (i + 1) _ m (by omega) (by omega) (fun j hj => ?_) (fun j hj => ?_)))⟩
      · by_cases c : j = i
        · subst c; rw [pk_us]
        · rw [pk_un (by omega)]; exact h1 j (by omega)
      · rw [pk_un (by omega)]; exact h2 j hj
  exact ⟨37, key 36 0 ed 37 (by omega) (by omega) (fun j hj => by omega) (fun j _ => rfl)⟩
theorem gc_ycp {post : SY → Prop} (h : ∀ cl' ed' : Nat → Int32, (∀ v, v < 6 → cl' (6 + v) = cl v) → (∀ j, (j < 6 ∨ 12 ≤ j) → cl' j = cl j) → (∀ i, i < 36 → ed' (36 + i) = vp_nar .boolean (ed i)) → (∀ j, (j < 36 ∨ 72 ≤ j) → ed' j = ed j) → post (cl', ed', rn, cd, upd kn 1 0)) : wpY_copy post (cl, ed, rn, cd, kn) := by
  have key : ∀ (d i : Nat) (cl' : Nat → Int32) (m : Nat), i + d = 6 → d < m → (∀ j, j < i → cl' (6 + j) = cl j) → (∀ j, (j < 6 ∨ 12 ≤ j) → cl' j = cl j) → wY_copy_2 post m (nI i) cl' ed rn cd kn := by
    intro d
    induction d with
    | zero =>
      intro i cl' m hv hm h1 h2
      obtain ⟨m, rfl⟩ : ∃ k, m = k + 1 := ⟨m - 1, by omega⟩
      obtain rfl : i = 6 := by omega
      exact br_t (nI_le (a := 6) (b := 6) (by omega) (by omega)) (gc_ycp2 fun ed' h3 h4 => h cl' ed' h1 h2 h3 h4)
    | succ d ih =>
      intro i cl' m hv hm h1 h2
      obtain ⟨m, rfl⟩ : ∃ k, m = k + 1 := ⟨m - 1, by omega⟩
      refine br_f (nI_ge (b := 6) (by omega) (by omega)) ⟨vp_in_nI (by omega) (by omega), by rw [gc_i6l]; exact vp_in_nI (by omega) (by omega), nm_r (e' := upd cl' (6 + i) (cl i)) (by rw [gc_i6l, nI_clamp (by omega), nI_clamp (by omega), h2 i (by omega)]) (nm_r (nI_1 i) (ih (i + 1) _ m (by omega) (by omega) (fun j hj => ?_) (fun j hj => ?_)))⟩
      · by_cases c : j = i
        · subst c; rw [pk_us]
        · rw [pk_un (by omega)]; exact h1 j (by omega)
      · rw [pk_un (by omega)]; exact h2 j hj
  exact ⟨7, key 6 0 cl 7 (by omega) (by omega) (fun j hj => by omega) (fun j _ => rfl)⟩
end
theorem i_vc_copy {k : Nat} {u : SX} {v : SY} (I : i_Rel k u v) (hk : k + 5 ≤ 2560) : wpX_copy (fun u' => wpY_copy (fun v' => i_Rel (k + 5) u' v') v) u := by
  obtain ⟨ac, ar⟩ := u
  obtain ⟨cl, ed, rn, cd, kn⟩ := v
  replace I : gc_I ac ar cl ed cd kn := I
  unfold wpX_copy
  dsimp only
  refine nm_e ?_
  refine gc_ycp fun cl' ed' h1 h2 h3 h4 => ?_
  show gc_I (upd ac 1 (ac 0)) ar cl' ed' cd (upd kn 1 0)
  obtain ⟨hH, hC, hE, hK⟩ := I.2 0 (by omega)
  refine gc_I_u I hH (fun v hv => ?_) (fun p hp q hq hn => ?_) (fun j hj => h2 j (by omega)) (fun j hj => h4 j (by omega)) pk_us (fun j hj => pk_un hj)
  · rw [← hC v hv, show 1 * 6 + v = 6 + v by omega, h1 v hv, show 0 * 6 + v = v by omega]
  · have e := hE p hp q hq hn
    have hl := gc_pb_lt hp hq hn
    rw [show 0 * 36 + 6 * p + q = 6 * p + q by omega] at e
    rw [show 1 * 36 + 6 * p + q = 36 + (6 * p + q) by omega, h3 _ (by omega), e]
    exact gc_nar (gc_r1_01 _ (by omega))
/-! complement -/
def gc_bn (y : Int32) (k : Nat) : Nat := if bt y k = true then 1 else 0
def gc_yk (y : Int32) : Nat → Nat
  | 0 => 0
  | i + 1 => gc_yk y i + if i / 6 = i % 6 then 0 else gc_bn y (gc_pb (i / 6) (i % 6))
theorem gc_yk_s (y : Int32) (i : Nat) : gc_yk y (i + 1) = gc_yk y i + if i / 6 = i % 6 then 0 else gc_bn y (gc_pb (i / 6) (i % 6)) := rfl
theorem gc_yk_2 (y : Int32) : gc_yk y 36 = 2 * gc_ec y 15 := by
  have e : gc_ec y 15 = gc_bn y 0 + gc_bn y 1 + gc_bn y 2 + gc_bn y 3 + gc_bn y 4 + gc_bn y 5 + gc_bn y 6 + gc_bn y 7 + gc_bn y 8 + gc_bn y 9 + gc_bn y 10 + gc_bn y 11 + gc_bn y 12 + gc_bn y 13 + gc_bn y 14 := by
    simp only [gc_ec, gc_bn]
    omega
  have e2 : gc_yk y 36 = gc_bn y 14 + gc_bn y 13 + gc_bn y 12 + gc_bn y 11 + gc_bn y 10 + (gc_bn y 14 + gc_bn y 9 + gc_bn y 8 + gc_bn y 7 + gc_bn y 6) + (gc_bn y 13 + gc_bn y 9 + gc_bn y 5 + gc_bn y 4 + gc_bn y 3) + (gc_bn y 12 + gc_bn y 8 + gc_bn y 5 + gc_bn y 2 + gc_bn y 1) + (gc_bn y 11 + gc_bn y 7 + gc_bn y 4 + gc_bn y 2 + gc_bn y 0) + (gc_bn y 10 + gc_bn y 6 + gc_bn y 3 + gc_bn y 1 + gc_bn y 0) := by
    generalize hb : gc_bn y = b
    simp [gc_yk, hb, gc_pb]
    omega
  omega
theorem gc_yk_le (y : Int32) : ∀ i, gc_yk y i ≤ i := by
  intro i
  induction i with
  | zero => exact Nat.le_refl 0
  | succ i ih =>
    rw [gc_yk_s]
    unfold gc_bn
    split
    · omega
    · split <;> omega
theorem gc_bxor (x : Int32) (i : Nat) : bt (x ^^^ 32767) i = (bt x i ^^ decide (i < 15)) := by
  rw [b_xor, gc_b15]
section
variable {ac ar cl ed rn cd kn : Nat → Int32}
theorem gc_ycl {post : Int32 → SY → Prop} {x : Int32} {g : Nat} (hg : g < 2) (hE : gc_GE x ed g)
    (h : ∀ ed' : Nat → Int32, gc_GE (x ^^^ 32767) ed' g → (∀ j, (j < g * 36 ∨ g * 36 + 36 ≤ j) → ed' j = ed j) → post (nI (gc_ec (x ^^^ 32767) 15)) (cl, ed', rn, cd, upd kn g 0)) : ∃ n, wY_complement_14 post (nI g) n 0 0 cl ed rn cd kn := by
  have key : ∀ (d i : Nat) (ed' : Nat → Int32) (m : Nat), i + d = 36 → d < m → (∀ j, j < i → j / 6 ≠ j % 6 → ed' (g * 36 + j) = gc_r1 (x ^^^ 32767) (gc_pb (j / 6) (j % 6))) → (∀ j, (j < g * 36 + i ∨ g * 36 + 36 ≤ j) → (j < g * 36 ∨ g * 36 + 36 ≤ j) → ed' j = ed j) → (∀ j, i ≤ j → j < 36 → ed' (g * 36 + j) = ed (g * 36 + j)) → wY_complement_14 post (nI g) m (nI (gc_yk (x ^^^ 32767) i)) (nI i) cl ed' rn cd kn := by
    intro d
    induction d with
    | zero =>
      intro i ed' m hv hm h1 h2 h3
      obtain ⟨m, rfl⟩ : ∃ k, m = k + 1 := ⟨m - 1, by omega⟩
      obtain rfl : i = 36 := by omega
      refine br_t (nI_le (a := 36) (b := 36) (by omega) (by omega)) ⟨vp_in_nI hg (by omega), nm_r (e' := upd kn g 0) (by rw [nI_clamp (by omega), gc_nar0]) ⟨by decide, ?_⟩⟩
      have e : nI (gc_yk (x ^^^ 32767) 36) / 2 = nI (gc_ec (x ^^^ 32767) 15) := by
        have hl := gc_yk_le (x ^^^ 32767) 36
        have e2 := gc_yk_2 (x ^^^ 32767)
        rw [show (2 : Int32) = nI 2 from rfl, pk_div (by omega) (by omega) (by omega)]
        exact congrArg nI (by omega)
      rw [e]
      refine h ed' (fun p hp q hq hn => ?_) (fun j hj => h2 j (by omega) hj)
      have e3 := h1 (6 * p + q) (by omega) (by omega)
      rw [show (6 * p + q) / 6 = p by omega, show (6 * p + q) % 6 = q by omega] at e3
      rw [← e3]
      exact congrArg ed' (by omega)
    | succ d ih =>
      intro i ed' m hv hm h1 h2 h3
      obtain ⟨m, rfl⟩ : ∃ k, m = k + 1 := ⟨m - 1, by omega⟩
      have hi36 : i < 36 := by omega
      have hix : vp_in (nI g * 36 + nI i) 72 := gc_n36 hg hi36
      have hcx : (nI g * 36 + nI i).toNatClampNeg = g * 36 + i := gc_c36 hg hi36
      have e6 : nI i / 6 = nI (i / 6) := pk_div (a := i) (d := 6) (by omega) (by omega) (by omega)
      have er : nI i - nI i / 6 * 6 = nI (i % 6) := pk_rem (a := i) (d := 6) (by omega) (by omega) (by omega)
      have nx : ∀ (t : Int32) (N : Nat), (i / 6 ≠ i % 6 → t = gc_r1 (x ^^^ 32767) (gc_pb (i / 6) (i % 6))) → N = gc_yk (x ^^^ 32767) (i + 1) → wY_complement_14 post (nI g) m (nI N) (nI (i + 1)) cl (upd ed' (g * 36 + i) t) rn cd kn := by
        intro t N ht hN
        subst hN
        refine ih (i + 1) _ m (by omega) (by omega) (fun j hj hne => ?_) (fun j hj hj2 => ?_) (fun j hj hj2 => ?_)
        · by_cases c : j = i
          · subst c; rw [pk_us]; exact ht hne
          · rw [pk_un (by omega)]; exact h1 j (by omega) hne
        · rw [pk_un (by omega)]; exact h2 j (by omega) hj2
        · rw [pk_un (by omega)]; exact h3 j (by omega) hj2
      have k0 : (i / 6 ≠ i % 6 → (0 : Int32) = gc_r1 (x ^^^ 32767) (gc_pb (i / 6) (i % 6))) → gc_yk (x ^^^ 32767) i = gc_yk (x ^^^ 32767) (i + 1) → wY_complement_60 post (wY_complement_14 post (nI g) m) (nI g) (nI (gc_yk (x ^^^ 32767) i)) (nI i) 0 (nI g * 36 + nI i) cl ed' rn cd kn := by
        intro a b
        refine ⟨hix, nm_r (e' := upd ed' (g * 36 + i) 0) (by rw [hcx, gc_nar0]) ⟨hix, ?_⟩⟩
        rw [hcx, pk_us]
        exact br_t rfl (nm_r (nI_1 i) (nx 0 _ a b))
      have k1 : (i / 6 ≠ i % 6 → (1 : Int32) = gc_r1 (x ^^^ 32767) (gc_pb (i / 6) (i % 6))) → gc_yk (x ^^^ 32767) i + 1 = gc_yk (x ^^^ 32767) (i + 1) → wY_complement_60 post (wY_complement_14 post (nI g) m) (nI g) (nI (gc_yk (x ^^^ 32767) i)) (nI i) 1 (nI g * 36 + nI i) cl ed' rn cd kn := by
        intro a b
        refine ⟨hix, nm_r (e' := upd ed' (g * 36 + i) 1) (by rw [hcx, gc_nar1]) ⟨hix, ?_⟩⟩
        rw [hcx, pk_us]
        exact br_f gc_10 (nm_r (nI_1 _) (nm_r (nI_1 i) (nx 1 _ a b)))
      refine br_f (nI_ge (b := 36) (by omega) (by omega)) ⟨by decide, by decide, ?_⟩
      rw [er, e6]
      by_cases c : i / 6 = i % 6
      · refine br_t (by rw [c]) (k0 (fun z => absurd c z) ?_)
        rw [gc_yk_s, if_pos c, Nat.add_zero]
      · have hu : i / 6 < 6 := by omega
        have hw : i % 6 < 6 := by omega
        have hl := gc_pb_lt hu hw c
        have ee : ed' (nI g * 36 + nI i).toNatClampNeg = gc_r1 x (gc_pb (i / 6) (i % 6)) := by
          rw [hcx, h3 i (by omega) hi36, ← hE _ hu _ hw c]
          exact congrArg ed (by omega)
        refine br_f (fun z => c ?_) ⟨hix, ?_⟩
        · rw [nI_eq (by omega) (by omega)] at z
          exact z
        · rw [ee, gc_r1_if x (by omega)]
          have hb := gc_bxor x (gc_pb (i / 6) (i % 6))
          rw [decide_eq_true hl, Bool.xor_true] at hb
          by_cases b : bt x (gc_pb (i / 6) (i % 6)) = true
          · rw [if_pos b]
            rw [b] at hb
            refine br_f gc_10 (k0 (fun _ => ?_) ?_)
            · rw [gc_r1_if _ (by omega), if_neg (by rw [hb]; decide)]
            · rw [gc_yk_s, if_neg c]
              unfold gc_bn
              rw [if_neg (by rw [hb]; decide), Nat.add_zero]
          · rw [if_neg b]
            rw [Bool.not_eq_true] at b
            rw [b] at hb
            refine br_t rfl (k1 (fun _ => ?_) ?_)
            · rw [gc_r1_if _ (by omega), if_pos (by rw [hb]; decide)]
            · rw [gc_yk_s, if_neg c]
              unfold gc_bn
              rw [if_pos (by rw [hb]; decide)]
  exact ⟨37, key 36 0 ed 37 (by omega) (by omega) (fun j hj => by omega) (fun j _ _ => rfl) (fun j _ _ => rfl)⟩
end
theorem i_vc_complement {k : Nat} {u : SX} {v : SY} (I : i_Rel k u v) (hk : k + 5 ≤ 2560) (v1 : Int32) : wpX_complement (fun r u' => wpY_complement (fun r' v' => r' = r ∧ i_Rel (k + 5) u' v') v v1) u v1 := by
  obtain ⟨ac, ar⟩ := u
  obtain ⟨cl, ed, rn, cd, kn⟩ := v
  replace I : gc_I ac ar cl ed cd kn := I
  unfold wpX_complement
  dsimp only
  rcases gc_cs v1 (N := 2) (by decide) with ho | ⟨g, hg, rfl⟩
  · refine gc_xgA ho ?_
    unfold wpY_complement
    dsimp only
    exact gc_ygA ho ⟨rfl, I⟩
  refine gc_xgB hg ?_
  have hi : vp_in (nI g) 2 := vp_in_nI hg (by omega)
  refine ⟨hi, hi, nm_r (e' := upd ac g (ac g ^^^ 32767)) (by rw [nI_clamp (by omega)]) ⟨hi, ?_⟩⟩
  rw [nI_clamp (by omega), pk_us]
  refine gc_xec ?_
  unfold wpY_complement
  dsimp only
  refine gc_ygB hg ?_
  obtain ⟨hH, hC, hE, hK⟩ := I.2 g hg
  refine gc_ycl hg hE fun ed' h1 h2 => ⟨rfl, ?_⟩
  refine gc_I_u I (fun i hi => ?_) (fun v hv => ?_) h1 (fun _ _ => rfl) h2 pk_us (fun j hj => pk_un hj)
  · rw [gc_bxor, hH i hi, decide_eq_false (by omega)]
    rfl
  · have hl := gc_cb_lt hv
    show cl (g * 6 + v) = _
    rw [hC v hv]
    refine gc_r3_eq (by omega) (by omega) ?_ ?_
    · rw [gc_bxor, decide_eq_false (by omega), Bool.xor_false]
    · rw [gc_bxor, decide_eq_false (by omega), Bool.xor_false]
end
section
/-! exchange -/
theorem gc_sw_l (u w : Nat) : gc_sw u w u = w := if_pos rfl
theorem gc_sw_r (u w : Nat) : gc_sw u w w = u := by
  unfold gc_sw
  by_cases h : w = u
  · rw [if_pos h, h]
  · rw [if_neg h, if_pos rfl]
theorem gc_sw_n {u w k : Nat} (h1 : k ≠ u) (h2 : k ≠ w) : gc_sw u w k = k := (if_neg h1).trans (if_neg h2)
/-- the bits of the code after an exchange -/
theorem gc_bt_sw {u w : Nat} (hu : u < 6) (hw : w < 6) (x : Int32) {i : Nat} (hi : i < 27) : bt (gc_act (gc_sw u w) x) i = bt x (gc_bp (gc_sw u w) i) := by
  have hP := gc_sw_P hu hw
  have inv : ∀ s, s < 27 → gc_bp (gc_sw u w) (gc_bp (gc_sw u w) s) = s := fun s hs => by
    rw [gc_bp_comp hP hs, gc_bp_congr (g := fun v => v) (fun v _ => gc_sw_sw u w v) hs, gc_bp_id hs]
  apply gc_beq
  rw [gc_bt_act hP x (by omega)]
  constructor
  · rintro ⟨s, hs, hb, e⟩
    rw [← e, inv s hs]
    exact hb
  · intro h
    exact ⟨gc_bp (gc_sw u w) i, gc_bp_lt hP hi, h, inv i hi⟩
def gc_ix (u w k a b : Nat) : Nat := if ((a = u ∨ a = w) ∧ ¬ (b = u ∨ b = w) ∧ b < k) ∨ ((b = u ∨ b = w) ∧ ¬ (a = u ∨ a = w) ∧ a < k) then gc_pb (gc_sw u w a) (gc_sw u w b) else gc_pb a b
theorem gc_ix_6 {u w a b : Nat} (ha : a < 6) (hb : b < 6) (hn : a ≠ b) : gc_ix u w 6 a b = gc_pb (gc_sw u w a) (gc_sw u w b) := by
  unfold gc_ix
  by_cases c : ((a = u ∨ a = w) ∧ ¬ (b = u ∨ b = w) ∧ b < 6) ∨ ((b = u ∨ b = w) ∧ ¬ (a = u ∨ a = w) ∧ a < 6)
  · rw [if_pos c]
  · rw [if_neg c]
    by_cases h1 : a = u ∨ a = w
    · have h2 : b = u ∨ b = w := Classical.byContradiction fun z => c (Or.inl ⟨h1, z, hb⟩)
      rcases h1 with rfl | rfl <;> rcases h2 with rfl | rfl
      · exact absurd rfl hn
      · rw [gc_sw_l, gc_sw_r, gc_pb_comm]
      · rw [gc_sw_l, gc_sw_r, gc_pb_comm]
      · exact absurd rfl hn
    · have h2 : ¬ (b = u ∨ b = w) := fun z => c (Or.inr ⟨z, h1, ha⟩)
      rw [gc_sw_n (fun z => h1 (Or.inl z)) (fun z => h1 (Or.inr z)), gc_sw_n (fun z => h2 (Or.inl z)) (fun z => h2 (Or.inr z))]
theorem gc_ix_0 (u w a b : Nat) : gc_ix u w 0 a b = gc_pb a b := if_neg (by omega)
theorem gc_ix_k {u w k a b : Nat} (hk : k = u ∨ k = w) : gc_ix u w (k + 1) a b = gc_ix u w k a b := by
  unfold gc_ix
  by_cases c : ((a = u ∨ a = w) ∧ ¬ (b = u ∨ b = w) ∧ b < k) ∨ ((b = u ∨ b = w) ∧ ¬ (a = u ∨ a = w) ∧ a < k)
  · rw [if_pos c, if_pos (by omega)]
  · rw [if_neg c, if_neg (by omega)]
theorem gc_ix_o {u w k a b : Nat} (h : ¬ (a = k ∧ (b = u ∨ b = w))) (h' : ¬ (b = k ∧ (a = u ∨ a = w))) : gc_ix u w (k + 1) a b = gc_ix u w k a b := by
  unfold gc_ix
  by_cases c : ((a = u ∨ a = w) ∧ ¬ (b = u ∨ b = w) ∧ b < k) ∨ ((b = u ∨ b = w) ∧ ¬ (a = u ∨ a = w) ∧ a < k)
  · rw [if_pos c, if_pos (by omega)]
  · rw [if_neg c, if_neg (by omega)]
theorem gc_ix_s {u w k a : Nat} (hk1 : k ≠ u) (hk2 : k ≠ w) (ha : a = u ∨ a = w) : gc_ix u w (k + 1) a k = gc_pb (gc_sw u w a) k := by
  unfold gc_ix
  rw [if_pos (by omega), gc_sw_n hk1 hk2]
theorem gc_ix_c (u w k a b : Nat) : gc_ix u w k a b = gc_ix u w k b a := by
  unfold gc_ix
  by_cases c : ((a = u ∨ a = w) ∧ ¬ (b = u ∨ b = w) ∧ b < k) ∨ ((b = u ∨ b = w) ∧ ¬ (a = u ∨ a = w) ∧ a < k)
  · rw [if_pos c, if_pos (by omega), gc_pb_comm]
  · rw [if_neg c, if_neg (by omega), gc_pb_comm]
theorem gc_ix_z {u w k a : Nat} (ha : a = u ∨ a = w) : gc_ix u w k a k = gc_pb a k := if_neg (by omega)
theorem gc_ix_lt {u w k a b : Nat} (hu : u < 6) (hw : w < 6) (ha : a < 6) (hb : b < 6) (hn : a ≠ b) : gc_ix u w k a b < 15 := by
  unfold gc_ix
  split
  · exact gc_pb_lt (gc_sw_lt hu hw ha) (gc_sw_lt hu hw hb) (gc_P_ne (gc_sw_P hu hw) ha hb hn)
  · exact gc_pb_lt ha hb hn
section
variable {ac ar cl ed rn cd kn : Nat → Int32}
theorem gc_yex {post : Int32 → SY → Prop} {x : Int32} {g u w : Nat} (hg : g < 2) (hu : u < 6) (hw : w < 6) (hE : gc_GE x ed g)
    (h : ∀ ed' kn' : Nat → Int32, (∀ a, a < 6 → ∀ b, b < 6 → a ≠ b → ed' (g * 36 + 6 * a + b) = gc_r1 x (gc_pb (gc_sw u w a) (gc_sw u w b))) → (∀ j, (j < g * 36 ∨ g * 36 + 36 ≤ j) → ed' j = ed j) → kn' g = 0 → (∀ j, j ≠ g → kn' j = kn j) → post 0 (cl, ed', rn, cd, kn')) : ∃ n, wY_exchange_80 post (nI g) (nI u) (nI w) n 0 cl ed rn cd kn := by
  have key : ∀ (d k : Nat) (ed' kn' : Nat → Int32) (m : Nat), k + d = 6 → d < m → (∀ a, a < 6 → ∀ b, b < 6 → a ≠ b → ed' (g * 36 + 6 * a + b) = gc_r1 x (gc_ix u w k a b)) → (∀ j, (j < g * 36 ∨ g * 36 + 36 ≤ j) → ed' j = ed j) → (∀ j, j ≠ g → kn' j = kn j) → wY_exchange_80 post (nI g) (nI u) (nI w) m (nI k) cl ed' rn cd kn' := by
    intro d
    induction d with
    | zero =>
      intro k ed' kn' m hv hm h1 h2 h3
      obtain ⟨m, rfl⟩ : ∃ k, m = k + 1 := ⟨m - 1, by omega⟩
      obtain rfl : k = 6 := by omega
      refine br_t (nI_le (a := 6) (b := 6) (by omega) (by omega)) ⟨vp_in_nI hg (by omega), nm_r (e' := upd kn' g 0) (by rw [nI_clamp (by omega), gc_nar0]) (h ed' _ (fun a ha b hb hn => ?_) h2 pk_us (fun j hj => ?_))⟩
      · rw [h1 a ha b hb hn, gc_ix_6 ha hb hn]
      · rw [pk_un hj]; exact h3 j hj
    | succ d ih =>
      intro k ed' kn' m hv hm h1 h2 h3
      obtain ⟨m, rfl⟩ : ∃ k, m = k + 1 := ⟨m - 1, by omega⟩
      have hk : k < 6 := by omega
      refine br_f (nI_ge (b := 6) (by omega) (by omega)) ⟨gc_n66 hg hu hk, nm_r (e' := ed' (g * 36 + 6 * u + k)) (by rw [gc_c66 hg hu hk]) ⟨gc_n66 hg hw hk, nm_r (e' := ed' (g * 36 + 6 * w + k)) (by rw [gc_c66 hg hw hk]) ?_⟩⟩
      by_cases c1 : k = u
      · refine br_t (by rw [c1]) (nm_r (nI_1 k) (ih (k + 1) ed' kn' m (by omega) (by omega) (fun a ha b hb hn => ?_) h2 h3))
        rw [gc_ix_k (Or.inl c1)]; exact h1 a ha b hb hn
      refine br_f (fun z => c1 ((nI_eq (by omega) (by omega)).mp z)) ?_
      by_cases c2 : k = w
      · refine br_t (by rw [c2]) (nm_r (nI_1 k) (ih (k + 1) ed' kn' m (by omega) (by omega) (fun a ha b hb hn => ?_) h2 h3))
        rw [gc_ix_k (Or.inr c2)]; exact h1 a ha b hb hn
      refine br_f (fun z => c2 ((nI_eq (by omega) (by omega)).mp z)) ?_
      have eu : ed' (g * 36 + 6 * u + k) = gc_r1 x (gc_pb u k) := by
        rw [h1 u hu k hk (fun z => c1 z.symm), gc_ix_z (Or.inl rfl)]
      have ew : ed' (g * 36 + 6 * w + k) = gc_r1 x (gc_pb w k) := by
        rw [h1 w hw k hk (fun z => c2 z.symm), gc_ix_z (Or.inr rfl)]
      have lu := gc_pb_lt hu hk (fun z => c1 z.symm)
      have lw := gc_pb_lt hw hk (fun z => c2 z.symm)
      have u01 := gc_r1_01 x (s := gc_pb u k) (by omega)
      have w01 := gc_r1_01 x (s := gc_pb w k) (by omega)
      refine gc_yed hg hu hk (fun z => c1 z.symm) (by rw [ew]; exact w01) (by rw [eu]; exact u01) ?_
      dsimp only
      refine gc_yed hg hw hk (fun z => c2 z.symm) (by rw [eu]; exact u01) ?_ ?_
      · by_cases c3 : u = w
        · subst c3
          rw [pk_un (by omega), pk_us, ew]; exact w01
        · rw [pk_un (by omega), pk_un (by omega), ew]; exact w01
      dsimp only
      rw [eu, ew]
      refine nm_r (nI_1 k) (ih (k + 1) _ _ m (by omega) (by omega) (fun a ha b hb hn => ?_) (fun j hj => ?_) (fun j hj => ?_))
      · by_cases d1 : a = k ∧ b = w
        · obtain ⟨rfl, rfl⟩ := d1
          rw [pk_us, gc_ix_c, gc_ix_s c1 c2 (Or.inr rfl), gc_sw_r]
        rw [pk_un (by omega)]
        by_cases d2 : a = w ∧ b = k
        · obtain ⟨rfl, rfl⟩ := d2
          rw [pk_us, gc_ix_s c1 c2 (Or.inr rfl), gc_sw_r]
        rw [pk_un (by omega)]
        by_cases d3 : a = k ∧ b = u
        · obtain ⟨rfl, rfl⟩ := d3
          rw [pk_us, gc_ix_c, gc_ix_s c1 c2 (Or.inl rfl), gc_sw_l]
        rw [pk_un (by omega)]
        by_cases d4 : a = u ∧ b = k
        · obtain ⟨rfl, rfl⟩ := d4
          rw [pk_us, gc_ix_s c1 c2 (Or.inl rfl), gc_sw_l]
        rw [pk_un (by omega), gc_ix_o (by omega) (by omega)]
        exact h1 a ha b hb hn
      · rw [pk_un (by omega), pk_un (by omega), pk_un (by omega), pk_un (by omega)]
        exact h2 j hj
      · rw [pk_un hj, pk_un hj]
        exact h3 j hj
  exact ⟨7, key 6 0 ed kn 7 (by omega) (by omega) (fun a ha b hb hn => by rw [gc_ix_0]; exact hE a ha b hb hn) (fun j _ => rfl) (fun j _ => rfl)⟩
end
theorem i_vc_exchange {k : Nat} {u : SX} {v : SY} (I : i_Rel k u v) (hk : k + 5 ≤ 2560) (v1 : Int32) (v2 : Int32) (v3 : Int32) : wpX_exchange (fun r u' => wpY_exchange (fun r' v' => r' = r ∧ i_Rel (k + 5) u' v') v v1 v2 v3) u v1 v2 v3 := by
  obtain ⟨ac, ar⟩ := u
  obtain ⟨cl, ed, rn, cd, kn⟩ := v
  replace I : gc_I ac ar cl ed cd kn := I
  unfold wpX_exchange
  dsimp only
  rcases gc_cs v1 (N := 2) (by decide) with ho | ⟨g, hg, rfl⟩
  · refine gc_xgA ho ?_
    unfold wpY_exchange
    dsimp only
    exact gc_ygA ho ⟨rfl, I⟩
  refine gc_xgB hg ?_
  rcases gc_cs v2 (N := 6) (by decide) with ho | ⟨a, ha, rfl⟩
  · refine gc_xvA ho ?_
    unfold wpY_exchange
    dsimp only
    refine gc_ygB hg ?_
    exact gc_yvA ho ⟨rfl, I⟩
  refine gc_xvB ha ?_
  rcases gc_cs v3 (N := 6) (by decide) with ho | ⟨b, hb, rfl⟩
  · refine gc_xvA ho ?_
    unfold wpY_exchange
    dsimp only
    refine gc_ygB hg ?_
    refine gc_yvB ha ?_
    exact gc_yvA ho ⟨rfl, I⟩
  refine gc_xvB hb ?_
  obtain ⟨hH, hC, hE, hK⟩ := I.2 g hg
  have hi : vp_in (nI g) 2 := vp_in_nI hg (by omega)
  have hP := gc_sw_P ha hb
  refine gc_xsw ha hb fun p hp => ⟨hi, ?_⟩
  refine gc_xren hP hp ⟨hi, nm_r (e' := upd ac g (gc_act (gc_sw a b) (ac g))) (by rw [nI_clamp (by omega)]) ?_⟩
  unfold wpY_exchange
  dsimp only
  refine gc_ygB hg ?_
  refine gc_yvB ha ?_
  refine gc_yvB hb ?_
  have na := gc_n6 hg ha
  have nb := gc_n6 hg hb
  refine ⟨na, nm_r (e' := gc_r3 (ac g) (gc_cb a)) (by rw [gc_c6 hg ha]; exact hC a ha) ⟨nb, na, nm_r (e' := upd cl (g * 6 + a) (gc_r3 (ac g) (gc_cb b))) (by rw [gc_c6 hg ha, gc_c6 hg hb, hC b hb]) ⟨nb, nm_r (e' := upd (upd cl (g * 6 + a) (gc_r3 (ac g) (gc_cb b))) (g * 6 + b) (gc_r3 (ac g) (gc_cb a))) (by rw [gc_c6 hg hb]) ?_⟩⟩⟩
  refine gc_yex hg ha hb hE fun ed' kn' h1 h2 h3 h4 => ⟨rfl, ?_⟩
  show gc_I (upd ac g (gc_act (gc_sw a b) (ac g))) ar (upd (upd cl (g * 6 + a) (gc_r3 (ac g) (gc_cb b))) (g * 6 + b) (gc_r3 (ac g) (gc_cb a))) ed' cd kn'
  refine gc_I_u I (gc_act_H hP _) (fun v hv => ?_) (fun p hp q hq hn => ?_) (fun j hj => ?_) h2 h3 h4
  · have l1 := gc_cb_lt hv
    have l2 := gc_cb_lt (hP.1 v hv)
    have e : gc_r3 (gc_act (gc_sw a b) (ac g)) (gc_cb v) = gc_r3 (ac g) (gc_cb (gc_sw a b v)) := by
      refine gc_r3_eq (by omega) (by omega) ?_ ?_
      · have z := gc_bp_cb (f := gc_sw a b) (j := 0) hv (by omega)
        rw [Nat.add_zero, Nat.add_zero] at z
        rw [gc_bt_sw ha hb _ (by omega), z]
      · rw [gc_bt_sw ha hb _ (by omega), gc_bp_cb hv (by omega)]
    rw [e]
    by_cases c1 : v = b
    · subst c1
      rw [pk_us, gc_sw_r]
    · rw [pk_un (by omega)]
      by_cases c2 : v = a
      · subst c2
        rw [pk_us, gc_sw_l]
      · rw [pk_un (by omega), gc_sw_n c2 c1]
        exact hC v hv
  · have l1 := gc_pb_lt hp hq hn
    have l2 := gc_pb_lt (hP.1 p hp) (hP.1 q hq) (gc_P_ne hP hp hq hn)
    rw [h1 p hp q hq hn]
    refine gc_r1_eq (by omega) (by omega) ?_
    rw [gc_bt_sw ha hb _ (by omega), gc_bp_pb hp hq hn]
  · rw [pk_un (by omega), pk_un (by omega)]
end
section
/-! the asking calls -/
theorem i_vc_code {k : Nat} {u : SX} {v : SY} (I : i_Rel k u v) (hk : k + 5 ≤ 2560) (v1 : Int32) : wpX_code (fun r => wpY_code (fun r' v' => r' = r ∧ i_Rel (k + 5) u v') v v1) u v1 := by
  obtain ⟨ac, ar⟩ := u
  obtain ⟨cl, ed, rn, cd, kn⟩ := v
  replace I : gc_I ac ar cl ed cd kn := I
  unfold wpX_code
  dsimp only
  rcases gc_cs v1 (N := 2) (by decide) with ho | ⟨g, hg, rfl⟩
  · refine gc_xgA ho ?_
    unfold wpY_code
    dsimp only
    exact gc_ygA ho ⟨rfl, I⟩
  refine gc_xgB hg ⟨vp_in_nI hg (by omega), ?_⟩
  obtain ⟨hH, hC, hE, hK⟩ := I.2 g hg
  refine gc_yco hg hH hC hE fun rn' => ⟨?_, I⟩
  rw [nI_clamp (by omega)]
theorem i_vc_canonical {k : Nat} {u : SX} {v : SY} (I : i_Rel k u v) (hk : k + 5 ≤ 2560) (v1 : Int32) : wpX_canonical (fun r => wpY_canonical (fun r' v' => r' = r ∧ i_Rel (k + 5) u v') v v1) u v1 := by
  obtain ⟨ac, ar⟩ := u
  obtain ⟨cl, ed, rn, cd, kn⟩ := v
  replace I : gc_I ac ar cl ed cd kn := I
  unfold wpX_canonical
  dsimp only
  rcases gc_cs v1 (N := 2) (by decide) with ho | ⟨g, hg, rfl⟩
  · refine gc_xgA ho ?_
    unfold wpY_canonical
    dsimp only
    exact gc_ygA ho ⟨rfl, I⟩
  refine gc_xgB hg ⟨vp_in_nI hg (by omega), ?_⟩
  obtain ⟨hH, hC, hE, hK⟩ := I.2 g hg
  rw [nI_clamp (by omega)]
  refine gc_xsm I.1 ?_
  unfold wpY_canonical
  dsimp only
  refine gc_ygB hg ?_
  refine gc_ywW hg hC hE hK fun rn' cd' kn' hA hW => ?_
  have e7 : nI g * 720 = nI (g * 720) := pk_mul g 720
  refine ⟨by rw [e7]; exact vp_in_nI (by omega) (by omega), nm_r (e' := ac g) ?_ ?_⟩
  · rw [e7, nI_clamp (by omega)]
    exact (hA 0 (by omega)).trans (gc_aa_0 hH)
  · exact gc_ycn hg hH hA ⟨rfl, gc_I_W I hW⟩
theorem i_vc_symmetries {k : Nat} {u : SX} {v : SY} (I : i_Rel k u v) (hk : k + 5 ≤ 2560) (v1 : Int32) : wpX_symmetries (fun r => wpY_symmetries (fun r' v' => r' = r ∧ i_Rel (k + 5) u v') v v1) u v1 := by
  obtain ⟨ac, ar⟩ := u
  obtain ⟨cl, ed, rn, cd, kn⟩ := v
  replace I : gc_I ac ar cl ed cd kn := I
  unfold wpX_symmetries
  dsimp only
  rcases gc_cs v1 (N := 2) (by decide) with ho | ⟨g, hg, rfl⟩
  · refine gc_xgA ho ?_
    unfold wpY_symmetries
    dsimp only
    exact gc_ygA ho ⟨rfl, I⟩
  refine gc_xgB hg ⟨vp_in_nI hg (by omega), ?_⟩
  obtain ⟨hH, hC, hE, hK⟩ := I.2 g hg
  rw [nI_clamp (by omega)]
  refine gc_xsy I.1 ?_
  unfold wpY_symmetries
  dsimp only
  refine gc_ygB hg ?_
  refine gc_ywW hg hC hE hK fun rn' cd' kn' hA hW => ?_
  refine gc_yco hg hH hC hE fun rn2 => ?_
  exact gc_ysy hg hA ⟨rfl, gc_I_W I hW⟩
theorem i_vc_orbit {k : Nat} {u : SX} {v : SY} (I : i_Rel k u v) (hk : k + 5 ≤ 2560) (v1 : Int32) (v2 : Int32) : wpX_orbit (fun r => wpY_orbit (fun r' v' => r' = r ∧ i_Rel (k + 5) u v') v v1 v2) u v1 v2 := by
  obtain ⟨ac, ar⟩ := u
  obtain ⟨cl, ed, rn, cd, kn⟩ := v
  replace I : gc_I ac ar cl ed cd kn := I
  unfold wpX_orbit
  dsimp only
  rcases gc_cs v1 (N := 2) (by decide) with ho | ⟨g, hg, rfl⟩
  · refine gc_xgA ho ?_
    unfold wpY_orbit
    dsimp only
    exact gc_ygA ho ⟨rfl, I⟩
  refine gc_xgB hg ?_
  rcases gc_cs v2 (N := 6) (by decide) with ho | ⟨a, ha, rfl⟩
  · refine gc_xvA ho ?_
    unfold wpY_orbit
    dsimp only
    refine gc_ygB hg ?_
    exact gc_yvA ho ⟨rfl, I⟩
  refine gc_xvB ha ⟨vp_in_nI hg (by omega), ?_⟩
  obtain ⟨hH, hC, hE, hK⟩ := I.2 g hg
  rw [nI_clamp (by omega)]
  refine gc_xom ha I.1 ?_
  exact gc_yorb hg ha hH hC hE hK fun rn' cd' kn' hW => ⟨rfl, gc_I_W I hW⟩
theorem i_vc_orbits {k : Nat} {u : SX} {v : SY} (I : i_Rel k u v) (hk : k + 5 ≤ 2560) (v1 : Int32) : wpX_orbits (fun r => wpY_orbits (fun r' v' => r' = r ∧ i_Rel (k + 5) u v') v v1) u v1 := by
  obtain ⟨ac, ar⟩ := u
  obtain ⟨cl, ed, rn, cd, kn⟩ := v
  replace I : gc_I ac ar cl ed cd kn := I
  unfold wpX_orbits
  dsimp only
  rcases gc_cs v1 (N := 2) (by decide) with ho | ⟨g, hg, rfl⟩
  · refine gc_xgA ho ?_
    unfold wpY_orbits
    dsimp only
    exact gc_ygA ho ⟨rfl, I⟩
  refine gc_xgB hg ⟨vp_in_nI hg (by omega), ?_⟩
  obtain ⟨hH, hC, hE, hK⟩ := I.2 g hg
  rw [nI_clamp (by omega)]
  refine gc_xon I.1 ?_
  unfold wpY_orbits
  dsimp only
  refine gc_ygB hg ?_
  exact gc_yon hg hH hC hE hK fun rn' cd' kn' hW => ⟨rfl, gc_I_W I hW⟩
theorem i_vc_variants {k : Nat} {u : SX} {v : SY} (I : i_Rel k u v) (hk : k + 5 ≤ 2560) (v1 : Int32) : wpX_variants (fun r => wpY_variants (fun r' v' => r' = r ∧ i_Rel (k + 5) u v') v v1) u v1 := by
  obtain ⟨ac, ar⟩ := u
  obtain ⟨cl, ed, rn, cd, kn⟩ := v
  replace I : gc_I ac ar cl ed cd kn := I
  unfold wpX_variants
  dsimp only
  rcases gc_cs v1 (N := 2) (by decide) with ho | ⟨g, hg, rfl⟩
  · refine gc_xgA ho ?_
    unfold wpY_variants
    dsimp only
    exact gc_ygA ho ⟨rfl, I⟩
  refine gc_xgB hg ⟨vp_in_nI hg (by omega), ?_⟩
  obtain ⟨hH, hC, hE, hK⟩ := I.2 g hg
  rw [nI_clamp (by omega)]
  refine gc_xvc hH I.1 ?_
  unfold wpY_variants
  dsimp only
  refine gc_ygB hg ?_
  refine gc_ywW hg hC hE hK fun rn' cd' kn' hA hW => ?_
  exact gc_yva hg hA ⟨by rw [gc_variants hH], gc_I_W I hW⟩
end
section
/-! alike, alikeWithoutColours -/
theorem gc_nr0 : narrow .boolean (.int 0) = .int 0 := by rfl
theorem gc_nr1 : narrow .boolean (.int 1) = .int 1 := by rfl
theorem i_vc_alike {k : Nat} {u : SX} {v : SY} (I : i_Rel k u v) (hk : k + 5 ≤ 2560) : wpX_alike (fun r => wpY_alike (fun r' v' => r' = r ∧ i_Rel (k + 5) u v') v) u := by
  obtain ⟨ac, ar⟩ := u
  obtain ⟨cl, ed, rn, cd, kn⟩ := v
  replace I : gc_I ac ar cl ed cd kn := I
  obtain ⟨hH, hC, hE, hK⟩ := I.2 0 (by omega)
  obtain ⟨hH1, hC1, hE1, hK1⟩ := I.2 1 (by omega)
  unfold wpX_alike
  dsimp only
  refine gc_xsm I.1 ?_
  refine gc_xsm I.1 ?_
  have hal : (∃ p, p < 720 ∧ gc_aa p (ac 0) &&& 134217727 = ac 1 &&& 134217727) ↔ gc_mn (ac 0) 720 = gc_mn (ac 1) 720 := by
    rw [gc_alike hH hH1, gc_H_mask hH1]
    constructor
    · rintro ⟨p, hp, e⟩; rw [gc_H_mask (gc_aa_H hp _)] at e; exact ⟨p, hp, e⟩
    · rintro ⟨p, hp, e⟩; exact ⟨p, hp, by rw [gc_H_mask (gc_aa_H hp _)]; exact e⟩
  unfold wpY_alike wpY_comes
  dsimp only
  refine br_c (fun c => ?_) (fun c => ?_)
  · refine gc_ywW (g := 0) (by omega) hC hE hK fun rn' cd' kn' hA hW => ?_
    refine gc_yco (g := 1) (by omega) hH1 hC1 hE1 fun rn2 => ?_
    refine nm_e ?_
    exact gc_ycm hA (fun _ => ⟨gc_nr1, rfl, gc_I_W I hW⟩) (fun z => absurd (hal.mpr c) z)
  · refine gc_ywW (g := 0) (by omega) hC hE hK fun rn' cd' kn' hA hW => ?_
    refine gc_yco (g := 1) (by omega) hH1 hC1 hE1 fun rn2 => ?_
    refine nm_e ?_
    exact gc_ycm hA (fun z => absurd (hal.mp z) c) (fun _ => ⟨gc_nr0, rfl, gc_I_W I hW⟩)
theorem i_vc_alikeWithoutColours {k : Nat} {u : SX} {v : SY} (I : i_Rel k u v) (hk : k + 5 ≤ 2560) : wpX_alikeWithoutColours (fun r => wpY_alikeWithoutColours (fun r' v' => r' = r ∧ i_Rel (k + 5) u v') v) u := by
  obtain ⟨ac, ar⟩ := u
  obtain ⟨cl, ed, rn, cd, kn⟩ := v
  replace I : gc_I ac ar cl ed cd kn := I
  obtain ⟨hH, hC, hE, hK⟩ := I.2 0 (by omega)
  obtain ⟨hH1, hC1, hE1, hK1⟩ := I.2 1 (by omega)
  unfold wpX_alikeWithoutColours
  dsimp only
  refine gc_xsm I.1 ?_
  refine gc_xsm I.1 ?_
  have hal : (∃ p, p < 720 ∧ gc_aa p (ac 0) &&& 32767 = ac 1 &&& 32767) ↔ gc_mn (ac 0 &&& 32767) 720 = gc_mn (ac 1 &&& 32767) 720 := by
    rw [gc_alike (gc_H_and _ hH) (gc_H_and _ hH1)]
    constructor
    · rintro ⟨p, hp, e⟩; exact ⟨p, hp, by unfold gc_aa at e ⊢; rw [gc_act_mask (gc_pm_P hp)]; exact e⟩
    · rintro ⟨p, hp, e⟩; exact ⟨p, hp, by unfold gc_aa at e ⊢; rw [gc_act_mask (gc_pm_P hp)] at e; exact e⟩
  unfold wpY_alikeWithoutColours wpY_comes
  dsimp only
  refine br_c (fun c => ?_) (fun c => ?_)
  · refine gc_ywW (g := 0) (by omega) hC hE hK fun rn' cd' kn' hA hW => ?_
    refine gc_yco (g := 1) (by omega) hH1 hC1 hE1 fun rn2 => ?_
    refine nm_e ?_
    exact gc_ycm hA (fun _ => ⟨gc_nr1, rfl, gc_I_W I hW⟩) (fun z => absurd (hal.mpr c) z)
  · refine gc_ywW (g := 0) (by omega) hC hE hK fun rn' cd' kn' hA hW => ?_
    refine gc_yco (g := 1) (by omega) hH1 hC1 hE1 fun rn2 => ?_
    refine nm_e ?_
    exact gc_ycm hA (fun z => absurd (hal.mp z) c) (fun _ => ⟨gc_nr0, rfl, gc_I_W I hW⟩)
end
