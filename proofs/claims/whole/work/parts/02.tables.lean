/-! the places of the fields in a code: colour of v at gc_cb v (two bits), pair at gc_pb -/
def gc_cb (v : Nat) : Nat := 25 - 2 * v
def gc_pb (a b : Nat) : Nat := if a < b then 14 - (a * (11 - a) / 2 + (b - a - 1)) else 14 - (b * (11 - b) / 2 + (a - b - 1))
def gc_du (s : Nat) : Nat := if 10 ≤ s then 0 else if 6 ≤ s then 1 else if 3 ≤ s then 2 else if 1 ≤ s then 3 else 4
def gc_dv (s : Nat) : Nat := if 10 ≤ s then 15 - s else if 6 ≤ s then 11 - s else if 3 ≤ s then 8 - s else if 1 ≤ s then 6 - s else 5
def gc_bp (f : Nat → Nat) (s : Nat) : Nat := if s < 15 then gc_pb (f (gc_du s)) (f (gc_dv s)) else 25 - 2 * f ((26 - s) / 2) + (s + 1) % 2
def gc_P (f : Nat → Nat) : Prop := (∀ v, v < 6 → f v < 6) ∧ ∀ v, v < 6 → ∀ w, w < 6 → f v = f w → v = w
theorem gc_pb_comm (a b : Nat) : gc_pb a b = gc_pb b a := by
  unfold gc_pb
  rcases Nat.lt_trichotomy a b with h | h | h
  · rw [if_pos h, if_neg (by omega)]
  · subst h; rfl
  · rw [if_neg (by omega), if_pos h]
theorem gc_pbF : ∀ a, a < 6 → ∀ b, b < 6 → a ≠ b → gc_pb a b < 15 ∧ (gc_du (gc_pb a b) = a ∧ gc_dv (gc_pb a b) = b ∨ gc_du (gc_pb a b) = b ∧ gc_dv (gc_pb a b) = a) := by decide +kernel
theorem gc_dF : ∀ s, s < 15 → gc_du s < gc_dv s ∧ gc_dv s < 6 ∧ gc_pb (gc_du s) (gc_dv s) = s := by decide +kernel
theorem gc_bp_lo {f : Nat → Nat} (hf : gc_P f) {s : Nat} (h : s < 15) : gc_bp f s < 15 := by
  have hd := gc_dF s h
  unfold gc_bp
  rw [if_pos h]
  refine (gc_pbF _ (hf.1 _ (by omega)) _ (hf.1 _ (by omega)) fun e => ?_).1
  have := hf.2 _ (by omega) _ (by omega) e
  omega
theorem gc_bp_hi {f : Nat → Nat} (hf : gc_P f) {s : Nat} (h : 15 ≤ s) (h2 : s < 27) : 15 ≤ gc_bp f s ∧ gc_bp f s < 27 := by
  unfold gc_bp
  rw [if_neg (by omega)]
  have := hf.1 ((26 - s) / 2) (by omega)
  omega
theorem gc_bp_lt {f : Nat → Nat} (hf : gc_P f) {s : Nat} (h : s < 27) : gc_bp f s < 27 := by
  rcases Nat.lt_or_ge s 15 with h1 | h1
  · have := gc_bp_lo hf h1; omega
  · exact (gc_bp_hi hf h1 h).2
theorem gc_bp_iff {f : Nat → Nat} (hf : gc_P f) {s : Nat} (h : s < 27) : gc_bp f s < 15 ↔ s < 15 := by
  rcases Nat.lt_or_ge s 15 with h1 | h1
  · have := gc_bp_lo hf h1; omega
  · have := (gc_bp_hi hf h1 h).1; omega
theorem gc_bp_pb {f : Nat → Nat} {a b : Nat} (ha : a < 6) (hb : b < 6) (hn : a ≠ b) : gc_bp f (gc_pb a b) = gc_pb (f a) (f b) := by
  obtain ⟨h1, h2⟩ := gc_pbF a ha b hb hn
  unfold gc_bp
  rw [if_pos h1]
  rcases h2 with ⟨e1, e2⟩ | ⟨e1, e2⟩
  · rw [e1, e2]
  · rw [e1, e2, gc_pb_comm]
theorem gc_bp_cb {f : Nat → Nat} {a j : Nat} (ha : a < 6) (hj : j < 2) : gc_bp f (gc_cb a + j) = gc_cb (f a) + j := by
  unfold gc_bp gc_cb
  rw [if_neg (by omega), show (26 - (25 - 2 * a + j)) / 2 = a by omega]
  omega
theorem gc_hi_cb {s : Nat} (h : 15 ≤ s) (h2 : s < 27) : ∃ a j, a < 6 ∧ j < 2 ∧ s = gc_cb a + j := by
  refine ⟨(26 - s) / 2, (s + 1) % 2, by omega, by omega, ?_⟩
  unfold gc_cb
  omega
theorem gc_lo_pb {s : Nat} (h : s < 15) : ∃ a b, a < b ∧ b < 6 ∧ s = gc_pb a b :=
  ⟨_, _, (gc_dF s h).1, (gc_dF s h).2.1, (gc_dF s h).2.2.symm⟩
theorem gc_bp_comp {f g : Nat → Nat} (hg : gc_P g) {s : Nat} (h : s < 27) : gc_bp f (gc_bp g s) = gc_bp (fun v => f (g v)) s := by
  rcases Nat.lt_or_ge s 15 with h1 | h1
  · obtain ⟨a, b, hab, hb, rfl⟩ := gc_lo_pb h1
    have hn : g a ≠ g b := fun e => by
      have := hg.2 a (by omega) b hb e
      omega
    rw [gc_bp_pb (by omega) hb (by omega), gc_bp_pb (by omega) hb (by omega), gc_bp_pb (hg.1 a (by omega)) (hg.1 b hb) hn]
  · obtain ⟨a, j, ha, hj, rfl⟩ := gc_hi_cb h1 h
    rw [gc_bp_cb ha hj, gc_bp_cb ha hj, gc_bp_cb (hg.1 a ha) hj]
theorem gc_bp_congr {f g : Nat → Nat} (hfg : ∀ v, v < 6 → f v = g v) {s : Nat} (h : s < 27) : gc_bp f s = gc_bp g s := by
  rcases Nat.lt_or_ge s 15 with h1 | h1
  · obtain ⟨a, b, hab, hb, rfl⟩ := gc_lo_pb h1
    rw [gc_bp_pb (by omega) hb (by omega), gc_bp_pb (by omega) hb (by omega), hfg a (by omega), hfg b hb]
  · obtain ⟨a, j, ha, hj, rfl⟩ := gc_hi_cb h1 h
    rw [gc_bp_cb ha hj, gc_bp_cb ha hj, hfg a ha]
theorem gc_bp_id {s : Nat} (h : s < 27) : gc_bp (fun v => v) s = s := by
  rcases Nat.lt_or_ge s 15 with h1 | h1
  · obtain ⟨a, b, hab, hb, rfl⟩ := gc_lo_pb h1
    rw [gc_bp_pb (by omega) hb (by omega)]
  · obtain ⟨a, j, ha, hj, rfl⟩ := gc_hi_cb h1 h
    rw [gc_bp_cb ha hj]
/-! the table of the 720 renumberings, three bits a number, eighteen bits a renumbering -/
def gc_big : Nat := 455489258773548570415595079421588856161557053054043213469649008584645070751409242507280801191456828495673009906657537972827204697958314009449814830807914924532216482633294747361628090734407432202615239852383947814539614642784055781889691104229490184632934923082895769284697580072704052080545550019943828198023679207931909046944557750825566711352730159844831897115087502732933230412689254462271988073664079600964146925425034139019964360010113265533015512077151532384925589863308119936887089641525320946072005504234725844374211031477024328569645785772299742402520547788366647475349319465248149787586911515003717388719398059647271841725393143185418020734598957685130377221418000945652283745475773784264247467702513125984183805280749385169665580126426006344197977620041642263625809491773192537970899400120641427697075686788342515808388715963805010743771454360536204767283951054825053091597357568785375441193511370657161074008190474709469467146753798374765255104758699119838011357191472811370253296142948797738409177722322066400961177702126057700422919456102678318337535694480627966052451116054819230080569518813586690918740730657367259847410862200762585941240871158574338528877871428005778358517212310608708239887983084872735988295134070566592741599291034532624209167615407766231057441649955597072787520749177608006936672180108136047123686585099755386638269964810573860325989371495141177806033860963320246747866072332630246320333851999865688269483538746554768730622453965246750354756439544300260630370911738424608722934996237928304031434101698766754896789983208589785110552671713046166125854790228403970091329001718183368695268344005449426270225029612459602225355195179673453554198303530682533696975022957110595226162721334084701650881399675593422574000919979611810622147714516838260858708106269096422624291726843630630724983910231040803801578378675914917957593873713893914531502250722450465071246192424885677032754505078699035490016975434147572050400676841193253493729053240814323608140774254335050289484183712889367746317288218842345897906217817406605796096379477433745599965096294801794575967359153479610015537583829389720268941300326957293813904784937161328803371672376176898307409834640127175166485263342744675349033046861867567131239310846030638031852762091124370170304463783284631834177859606858454575019127311335075348249680420894222506078617382771269208908474928607081593998627573605853307821102635975952804487432263369180054605264311606307054481091499122563598135659925969346412602836517106634966681628592336083838065938129311709457094928056245746732769314924073882087411892993032591185173191965993009593666335995103402169511349862529414700272505132323525177283024402307644262996572454071258319139243458549690508596129698133064008190777397277190909098671299622642512927721618431282010912898645710967664394926261693389667631971492849841921268150790934643414381635864685038274970978752750729066052703409925973537249339438377899341299138058910403157933551237163274301297017268571070545285214502999844147503036901287136597525143834035280685464838007833971980715417069666216578533919192261945451714393947188340212054682078288125482244384788480039412080844385582869084325882863985616634248751386033120383768030270422113721809841424511518795109336843331921044810407748389549950972438824274048380388520028720884887139559005006933771991444920052224070835154722577782652878104284125112121212929795756702530060696717187449587144363343738961379650516253927611333561133773268421107021475398190713507384328097163079620356048129414172995716828880524546454781001863670034630681989216173686862208644445571838235388189558249766235393492030038579519157408934870214490237670707747474573838858560262877961416226704577992163992794488226340110922095690745963190741254787627171490014665308475680646674525105129555433213605144965446224358090274311549353700389556033543874360310259094707288503990930200840432427798546056
def gc_pm (n v : Nat) : Nat := gc_big >>> (18 * n + 3 * v) % 8
def gc_lt (a b : Nat) : Nat := if a < b then 1 else 0
def gc_rk (a b c d e f : Nat) : Nat := a + 6 * ((b - gc_lt a b) + 5 * ((c - gc_lt a c - gc_lt b c) + 4 * ((d - gc_lt a d - gc_lt b d - gc_lt c d) + 3 * ((e - gc_lt a e - gc_lt b e - gc_lt c e - gc_lt d e) + 2 * (f - gc_lt a f - gc_lt b f - gc_lt c f - gc_lt d f - gc_lt e f)))))
def gc_chk (a b c d e f : Nat) : Bool :=
  decide (gc_rk a b c d e f < 720) && (gc_pm (gc_rk a b c d e f) 0 == a && (gc_pm (gc_rk a b c d e f) 1 == b && (gc_pm (gc_rk a b c d e f) 2 == c && (gc_pm (gc_rk a b c d e f) 3 == d && (gc_pm (gc_rk a b c d e f) 4 == e && gc_pm (gc_rk a b c d e f) 5 == f)))))
def gc_all6 (p : Nat → Bool) : Bool := p 0 && (p 1 && (p 2 && (p 3 && (p 4 && p 5))))
theorem gc_all6_e {p : Nat → Bool} (h : gc_all6 p = true) {v : Nat} (hv : v < 6) : p v = true := by
  unfold gc_all6 at h
  simp only [Bool.and_eq_true] at h
  obtain ⟨a, b, c, d, e, f⟩ := h
  match v, hv with
  | 0, _ => exact a
  | 1, _ => exact b
  | 2, _ => exact c
  | 3, _ => exact d
  | 4, _ => exact e
  | 5, _ => exact f
  | n + 6, h => omega
def gc_chkAll : Bool := gc_all6 fun a => gc_all6 fun b => b == a || gc_all6 fun c => (c == a || c == b) || gc_all6 fun d => (d == a || d == b || d == c) || gc_all6 fun e => (e == a || e == b || e == c || e == d) || gc_all6 fun f => (f == a || f == b || f == c || f == d || f == e) || gc_chk a b c d e f
theorem gc_chkAll_ok : gc_chkAll = true := by decide +kernel
theorem gc_rkF (a : Nat) (ha : a < 6) (b : Nat) (hb : b < 6) (b1 : ¬ b = a) (c : Nat) (hc : c < 6) (c1 : ¬ c = a) (c2 : ¬ c = b) (d : Nat) (hd : d < 6) (d1 : ¬ d = a) (d2 : ¬ d = b) (d3 : ¬ d = c) (e : Nat) (he : e < 6) (e1 : ¬ e = a) (e2 : ¬ e = b) (e3 : ¬ e = c) (e4 : ¬ e = d) (f : Nat) (hf : f < 6) (f1 : ¬ f = a) (f2 : ¬ f = b) (f3 : ¬ f = c) (f4 : ¬ f = d) (f5 : ¬ f = e) : gc_chk a b c d e f = true := by
  have h := gc_all6_e (gc_all6_e gc_chkAll_ok ha) hb
  simp only [Bool.or_eq_true, beq_iff_eq, b1, false_or] at h
  have h := gc_all6_e h hc
  simp only [Bool.or_eq_true, beq_iff_eq, c1, c2, false_or, or_false] at h
  have h := gc_all6_e h hd
  simp only [Bool.or_eq_true, beq_iff_eq, d1, d2, d3, false_or, or_false] at h
  have h := gc_all6_e h he
  simp only [Bool.or_eq_true, beq_iff_eq, e1, e2, e3, e4, false_or, or_false] at h
  have h := gc_all6_e h hf
  simp only [Bool.or_eq_true, beq_iff_eq, f1, f2, f3, f4, f5, false_or, or_false] at h
  exact h
def gc_rkp (n : Nat) : Nat := gc_rk (gc_pm n 0) (gc_pm n 1) (gc_pm n 2) (gc_pm n 3) (gc_pm n 4) (gc_pm n 5)
theorem gc_rkI : ∀ n, n < 720 → gc_rkp n = n := by decide +kernel
def gc_vf (n v : Nat) : Nat := if gc_pm n 0 = v then 0 else if gc_pm n 1 = v then 1 else if gc_pm n 2 = v then 2 else if gc_pm n 3 = v then 3 else if gc_pm n 4 = v then 4 else 5
def gc_iv (n : Nat) : Nat := gc_rk (gc_vf n 0) (gc_vf n 1) (gc_vf n 2) (gc_vf n 3) (gc_vf n 4) (gc_vf n 5)
theorem gc_iv_lt : ∀ n, n < 720 → gc_iv n < 720 := by decide +kernel
theorem gc_iv_l : ∀ n, n < 720 → ∀ v, v < 6 → gc_pm (gc_iv n) (gc_pm n v) = v := by decide +kernel
theorem gc_iv_r : ∀ n, n < 720 → ∀ v, v < 6 → gc_pm n (gc_pm (gc_iv n) v) = v := by decide +kernel
theorem gc_pm_lt : ∀ n, n < 720 → ∀ v, v < 6 → gc_pm n v < 6 := by decide +kernel
theorem gc_pm_0 : ∀ v, v < 6 → gc_pm 0 v = v := by decide +kernel
theorem gc_pm_P {n : Nat} (h : n < 720) : gc_P (gc_pm n) :=
  ⟨gc_pm_lt n h, fun v hv w hw e => by rw [← gc_iv_l n h v hv, e, gc_iv_l n h w hw]⟩
theorem gc_six {P : Nat → Prop} (h0 : P 0) (h1 : P 1) (h2 : P 2) (h3 : P 3) (h4 : P 4) (h5 : P 5) : ∀ v, v < 6 → P v := by
  intro v hv
  match v, hv with
  | 0, _ => exact h0
  | 1, _ => exact h1
  | 2, _ => exact h2
  | 3, _ => exact h3
  | 4, _ => exact h4
  | 5, _ => exact h5
  | n + 6, h => omega
theorem gc_rk_ok {f : Nat → Nat} (hf : gc_P f) : gc_rk (f 0) (f 1) (f 2) (f 3) (f 4) (f 5) < 720 ∧ ∀ v, v < 6 → gc_pm (gc_rk (f 0) (f 1) (f 2) (f 3) (f 4) (f 5)) v = f v := by
  have ne : ∀ v w, v < 6 → w < 6 → v ≠ w → ¬ f v = f w := fun v w hv hw h e => h (hf.2 v hv w hw e)
  have h := gc_rkF (f 0) (hf.1 0 (by omega)) (f 1) (hf.1 1 (by omega)) (ne 1 0 (by omega) (by omega) (by omega))
    (f 2) (hf.1 2 (by omega)) (ne 2 0 (by omega) (by omega) (by omega)) (ne 2 1 (by omega) (by omega) (by omega))
    (f 3) (hf.1 3 (by omega)) (ne 3 0 (by omega) (by omega) (by omega)) (ne 3 1 (by omega) (by omega) (by omega)) (ne 3 2 (by omega) (by omega) (by omega))
    (f 4) (hf.1 4 (by omega)) (ne 4 0 (by omega) (by omega) (by omega)) (ne 4 1 (by omega) (by omega) (by omega)) (ne 4 2 (by omega) (by omega) (by omega)) (ne 4 3 (by omega) (by omega) (by omega))
    (f 5) (hf.1 5 (by omega)) (ne 5 0 (by omega) (by omega) (by omega)) (ne 5 1 (by omega) (by omega) (by omega)) (ne 5 2 (by omega) (by omega) (by omega)) (ne 5 3 (by omega) (by omega) (by omega)) (ne 5 4 (by omega) (by omega) (by omega))
  unfold gc_chk at h
  simp only [Bool.and_eq_true, decide_eq_true_eq, beq_iff_eq] at h
  obtain ⟨h, a, b, c, d, e, g⟩ := h
  exact ⟨h, gc_six a b c d e g⟩
theorem gc_pm_inj {n m : Nat} (hn : n < 720) (hm : m < 720) (h : ∀ v, v < 6 → gc_pm n v = gc_pm m v) : n = m := by
  rw [← gc_rkI n hn, ← gc_rkI m hm]
  unfold gc_rkp
  rw [h 0 (by omega), h 1 (by omega), h 2 (by omega), h 3 (by omega), h 4 (by omega), h 5 (by omega)]
def gc_mul (n m : Nat) : Nat := gc_rk (gc_pm n (gc_pm m 0)) (gc_pm n (gc_pm m 1)) (gc_pm n (gc_pm m 2)) (gc_pm n (gc_pm m 3)) (gc_pm n (gc_pm m 4)) (gc_pm n (gc_pm m 5))
theorem gc_P_comp {f g : Nat → Nat} (hf : gc_P f) (hg : gc_P g) : gc_P (fun v => f (g v)) :=
  ⟨fun v hv => hf.1 _ (hg.1 v hv), fun v hv w hw e => hg.2 v hv w hw (hf.2 _ (hg.1 v hv) _ (hg.1 w hw) e)⟩
theorem gc_mul_ok {n m : Nat} (hn : n < 720) (hm : m < 720) : gc_mul n m < 720 ∧ ∀ v, v < 6 → gc_pm (gc_mul n m) v = gc_pm n (gc_pm m v) :=
  gc_rk_ok (f := fun v => gc_pm n (gc_pm m v)) (gc_P_comp (gc_pm_P hn) (gc_pm_P hm))
