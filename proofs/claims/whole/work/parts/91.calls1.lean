/-! ===== both: setters and questions ===== -/
theorem JC.setS {γ : Gh} {h g : Hp} (a : JC γ h) {s' : Nat → Int32} (c : sC 1 s' g) (f : Fr (cS 1) h g) : JC (γ.sS s') g ∧ CF h g := by
  obtain ⟨⟨a1, a2, a3, a4, a5, a6, a7, a8, a9, a10⟩, r1, r2, d⟩ := a
  have x2 : ∀ k, k ∈ cS 17 → k ∉ cS 1 := by decide
  have x3 : ∀ k, k ∈ lsC → k ∉ cS 1 := by decide
  have x4 : ∀ k, k ∈ rkC → k ∉ cS 1 := by decide
  refine ⟨⟨⟨c, ?_, fun y => (a3 y).fr f x2, ?_, ?_, fun n hn => ?_, ?_, fun k hk => ?_, a9.fr f x3, a10.fr f x4⟩, r1, r2, d.fr f (by decide)⟩, CF.of f (by decide)⟩
  · rw [f.1 0 (by decide)]
    exact a2
  · rw [f.2]
    exact a4
  · rw [f.2]
    exact a5
  · rw [f.1 68 (by decide)]
    exact a6 n hn
  · rw [f.1 25 (by decide)]
    exact a7
  · rw [f.1 26 (by decide)]
    exact a8 k hk
theorem JR.setS {γ : Gh} {h g : Hp} (a : JR γ h) {s' : Nat → Int32} (f : Fr [114] h g) (e : g.1 114 = s') : JR (γ.sS s') g ∧ RF h g := by
  refine ⟨?_, RF.of f (by decide)⟩
  obtain ⟨a1, a2, a3, a4, a5, a6, a7, a8, a9, a10, a11, a12, a13, a14⟩ := a
  unfold JR
  rw [f.1 113 (by decide), f.1 116 (by decide), f.1 117 (by decide), f.1 134 (by decide), f.1 129 (by decide), f.1 130 (by decide), f.1 131 (by decide), f.1 132 (by decide), f.1 133 (by decide), f.2]
  exact ⟨e, a2, a3, a4, a5, a6, a7, a8, a9, a10, a11, a12, a13, a14⟩
theorem two_set {d1 d2 : Nat} {M1 M2 : Mth} {as : List Value} {h : Hp} {w x : Int32} {γ : Gh} {s' : Nat → Int32} {A : Int32 → Hp → Prop} {B : Hp → Int32 → Hp → Prop} (hc : JC γ h) (hr : JR γ h) (hv : JV γ) (hw : isW w) (hC : CtI d1 M1 (.ref 0 :: as) h (okx w h A)) (hA : ∀ v g, w = 0 → A v g → v = x ∧ sC 1 s' g ∧ Fr (cS 1) h g) (hR : ∀ h1, h1.1 114 = γ.s → CtI d2 M2 (.ref 113 :: as) h1 (okw w h1 (B h1))) (hB : ∀ h1 v g, w = 0 → h1.1 114 = γ.s → B h1 v g → v = x ∧ Fr [114] h1 g ∧ g.1 114 = s') (hV : w = 0 → InS s') : Two d1 d2 M1 M2 as h :=
  two_ok (γ1 := γ.sS s') (x := x) hc hr hv hw hC (fun v g c q => by
    obtain ⟨q1, q2, q3⟩ := hA v g c q
    exact ⟨q1, hc.setS q2 q3⟩) (fun h1 r => hR h1 r.1) (fun h1 v g c r q => by
    obtain ⟨q1, q2, q3⟩ := hB h1 v g c r.1 q
    exact ⟨q1, r.setS q2 q3⟩) (fun c => ⟨hV c, hv.2⟩)
theorem fr1 {h : Hp} (i : Nat) (x : Int32) : Fr [114] h (ui h 114 i x) := Fr.ui (List.mem_cons_self ..)
theorem tw_hours (x : Int32) {γ : Gh} {h : Hp} (hc : JC γ h) (hr : JR γ h) (hv : JV γ) : Two 2 2 mX10_hours mX11_hours [.int x] h :=
  two_set hc hr hv (isW_wb _ _ _) (ct_hoursC x h _ hc.c hv.1) (fun v g _ q => ⟨q.1, q.2.2.1, q.2.2.2⟩) (fun h1 e => ct_hours x h1 γ.s e) (fun h1 v g _ e q => ⟨q.1, by rw [q.2]; exact fr1 _ _, by rw [q.2, ui_up, e]⟩) (fun w => InS_hours hv.1 w)
theorem tw_merit (x : Int32) {γ : Gh} {h : Hp} (hc : JC γ h) (hr : JR γ h) (hv : JV γ) : Two 1 1 mX10_merit mX11_merit [.int x] h :=
  two_set hc hr hv (by split; exact isW_0; exact isW_2) (ct_meritC x h _ hc.c) (fun v g _ q => q) (fun h1 e => ct_merit x h1 γ.s e) (fun h1 v g _ e q => ⟨q.1, by rw [q.2]; exact fr1 _ _, by rw [q.2, ui_up, e]⟩) (fun w => InS_merit hv.1 (inR_f w (by decide)))
theorem tw_step (x : Int32) {γ : Gh} {h : Hp} (hc : JC γ h) (hr : JR γ h) (hv : JV γ) : Two 1 1 mX10_step mX11_step [.int x] h :=
  two_set hc hr hv (isW_wb _ _ _) (ct_stepC x h _ hc.c) (fun v g _ q => q) (fun h1 e => ct_step x h1 γ.s e) (fun h1 v g _ e q => ⟨q.1, by rw [q.2]; exact fr1 _ _, by rw [q.2, ui_up, e]⟩) (fun w => InS_step hv.1 w)
theorem prW_isW (s : Nat → Int32) (t x : Int32) : isW (prW s t x) := by
  unfold prW
  split
  · exact isW_wb _ _ _
  · exact isW_1
theorem tw_price (t x : Int32) {γ : Gh} {h : Hp} (hc : JC γ h) (hr : JR γ h) (hv : JV γ) : Two 1 2 mX10_price mX11_price [.int t, .int x] h :=
  two_set hc hr hv (prW_isW _ _ _) (ct_priceC t x h _ hc.c hv.1) (fun v g _ q => q) (fun h1 e => ct_price t x h1 γ.s e hv.1.o) (fun h1 v g _ e q => ⟨q.1, by rw [q.2]; exact fr1 _ _, by rw [q.2, ui_up, e]⟩) (fun w => by
    have c := inR_f w (by decide)
    unfold prW at w
    rw [if_pos c] at w
    obtain ⟨u, eu, hu⟩ := isH_nI hv.1.o c
    have hH := hv.1.o.hH
    rw [eu, nI_clamp (show u < 2 ^ 31 by omega)]
    exact InS_price hv.1 (by omega) w)
theorem tw_demand (t x y : Int32) {γ : Gh} {h : Hp} (hc : JC γ h) (hr : JR γ h) (hv : JV γ) : Two 2 3 mX10_demand mX11_demand [.int t, .int x, .int y] h :=
  two_set hc hr hv (deW_isW _ _ _ _) (ct_demandC t x y h _ hc.c hv.1) (fun v g _ q => ⟨q.1, q.2.2.1, q.2.2.2⟩) (fun h1 e => ct_demand t x y h1 γ.s e hv.1.o) (fun h1 v g _ e q => ⟨q.1, by rw [q.2]; exact (fr1 _ _).tr (fr1 _ _), by rw [q.2, ui_up, ui_up, e]⟩) (fun w => (InS_demand hv.1 w).2)
theorem tw_gives (p x y : Int32) {γ : Gh} {h : Hp} (hc : JC γ h) (hr : JR γ h) (hv : JV γ) : Two 2 3 mX10_gives mX11_gives [.int p, .int x, .int y] h :=
  two_set hc hr hv (giW_isW _ _ _ _) (ct_givesC p x y h _ hc.c hv.1) (fun v g _ q => ⟨q.1, q.2.2.1, q.2.2.2⟩) (fun h1 e => ct_gives p x y h1 γ.s e hv.1.o) (fun h1 v g _ e q => ⟨q.1, by rw [q.2]; exact (fr1 _ _).tr (fr1 _ _), by rw [q.2, ui_up, ui_up, e]⟩) (fun w => (InS_gives hv.1 w).2)
theorem tw_costs (p x y z : Int32) {γ : Gh} {h : Hp} (hc : JC γ h) (hr : JR γ h) (hv : JV γ) : Two 2 3 mX10_costs mX11_costs [.int p, .int x, .int y, .int z] h :=
  two_set hc hr hv (coW_isW _ _ _ _ _) (ct_costsC p x y z h _ hc.c hv.1) (fun v g _ q => ⟨q.1, q.2.2.1, q.2.2.2⟩) (fun h1 e => ct_costs p x y z h1 γ.s e hv.1.o) (fun h1 v g _ e q => ⟨q.1, by rw [q.2]; exact ((fr1 _ _).tr (fr1 _ _)).tr (fr1 _ _), by rw [q.2, ui_up, ui_up, ui_up, e]⟩) (fun w => (InS_costs hv.1 w).2)
theorem tw_times (p x y : Int32) {γ : Gh} {h : Hp} (hc : JC γ h) (hr : JR γ h) (hv : JV γ) : Two 2 3 mX10_times mX11_times [.int p, .int x, .int y] h :=
  two_set hc hr hv (tiW_isW _ _ _ _) (ct_timesC p x y h _ hc.c hv.1) (fun v g _ q => ⟨q.1, q.2.2.1, q.2.2.2⟩) (fun h1 e => ct_times p x y h1 γ.s e hv.1.o) (fun h1 v g _ e q => ⟨q.1, by rw [q.2]; exact (fr1 _ _).tr (fr1 _ _), by rw [q.2, ui_up, ui_up, e]⟩) (fun w => (InS_times hv.1 w).2)
theorem tw_age (p x : Int32) {γ : Gh} {h : Hp} (hc : JC γ h) (hr : JR γ h) (hv : JV γ) : Two 2 3 mX10_age mX11_age [.int p, .int x] h :=
  two_set hc hr hv (agW_isW _ _ _) (ct_ageC p x h _ hc.c hv.1) (fun v g _ q => ⟨q.1, q.2.2.1, q.2.2.2⟩) (fun h1 e => ct_age p x h1 γ.s e hv.1.o) (fun h1 v g _ e q => ⟨q.1, by rw [q.2]; exact fr1 _ _, by rw [q.2, ui_up, e]⟩) (fun w => (InS_age hv.1 w).2)
theorem tw_plant (kd fg : Int32) {γ : Gh} {h : Hp} (hc : JC γ h) (hr : JR γ h) (hv : JV γ) : Two 2 2 mX10_plant mX11_plant [.int kd, .int fg] h :=
  two_set hc hr hv (plW_isW _ _ _) (ct_plantC kd fg h _ hc.c hv.1) (fun v g _ q => ⟨q.1, q.2.2.1, q.2.2.2⟩) (fun h1 e => ct_plant kd fg h1 γ.s e hv.1.o) (fun h1 v g _ e q => ⟨q.1, by rw [q.2]; exact adV_fr _ _ _ _, by rw [q.2, adV_at, e]⟩) (fun w => (InS_plant hv.1 w).2)
/-! questions -/
theorem scC_lt : ∀ k, k ∈ scC → k < 113 := by decide
theorem JC.q {γ : Gh} {h g : Hp} (a : JC γ h) (f : frC h g) : JC γ g ∧ CF h g := ⟨a.byf f, CF.of f.1 scC_lt⟩
theorem JC.qe {γ : Gh} {h g : Hp} (a : JC γ h) (e : g = h) : JC γ g ∧ CF h g := by
  rw [e]
  exact ⟨a, CF.rf'⟩
theorem JC.qf {γ : Gh} {X : List Nat} {h g : Hp} (a : JC γ h) (f : Fr X h g) (hx : ∀ k, k ∈ jK → k ∉ X) (h38 : 38 ∉ X) (hl : ∀ k, k ∈ X → k < 113) : JC γ g ∧ CF h g := ⟨a.fr f hx h38, CF.of f hl⟩
def jR : List Nat := [113, 114, 116, 117, 129, 130, 131, 132, 133, 134]
theorem JR.qf {γ : Gh} {X : List Nat} {h g : Hp} (a : JR γ h) (f : Fr X h g) (hx : ∀ k, k ∈ jR → k ∉ X) (hl : ∀ k, k ∈ X → 113 ≤ k ∧ k < 2000) : JR γ g ∧ RF h g := by
  refine ⟨?_, RF.of f hl⟩
  have e : ∀ k, k ∈ jR → g.1 k = h.1 k := fun k hk => f.1 k (hx k hk)
  unfold JR at a ⊢
  rw [e 113 (by decide), e 114 (by decide), e 116 (by decide), e 117 (by decide), e 134 (by decide), e 129 (by decide), e 130 (by decide), e 131 (by decide), e 132 (by decide), e 133 (by decide), f.2]
  exact a
theorem JR.qe {γ : Gh} {h g : Hp} (a : JR γ h) (e : g = h) : JR γ g ∧ RF h g := by
  rw [e]
  exact ⟨a, RF.rf'⟩
theorem JR.qt {γ : Gh} {X : List Nat} {h g : Hp} (a : JR γ h) (f : triI X h g) (hx : ∀ k, k ∈ [114, 116, 117, 129, 130, 131, 132, 133, 134] → k ∉ 113 :: X) (hl : ∀ k, k ∈ X → 113 ≤ k ∧ k < 2000) : JR γ g ∧ RF h g := by
  obtain ⟨f1, f2⟩ := f
  have hl2 : ∀ k, k ∈ 113 :: X → 113 ≤ k ∧ k < 2000 := fun k hk => by
    rcases List.mem_cons.mp hk with e | e
    · omega
    · exact hl k e
  refine ⟨?_, RF.of f1 hl2⟩
  have e : ∀ k, k ∈ [114, 116, 117, 129, 130, 131, 132, 133, 134] → g.1 k = h.1 k := fun k hk => f1.1 k (hx k hk)
  unfold JR at a ⊢
  rw [f2 3 (by decide), f2 26 (by decide), f2 8 (by decide), e 114 (by decide), e 116 (by decide), e 117 (by decide), e 134 (by decide), e 129 (by decide), e 130 (by decide), e 131 (by decide), e 132 (by decide), e 133 (by decide), f1.2]
  exact a
theorem JR.ab {γ : Gh} {h : Hp} (a : JR γ h) : h.1 113 8 = 0 := a.2.2.2.2.2.2.2.2.2.2.2.2.2
theorem JR.scr {γ : Gh} {h g : Hp} (a : JR γ h) (f : triI scr h g) : JR γ g ∧ RF h g := a.qt f (by decide) (by decide)
theorem two_q {d1 d2 : Nat} {M1 M2 : Mth} {as : List Value} {h : Hp} {w x : Int32} {γ : Gh} {A : Int32 → Hp → Prop} {B : Hp → Int32 → Hp → Prop} (hc : JC γ h) (hr : JR γ h) (hv : JV γ) (hw : isW w) (hC : CtI d1 M1 (.ref 0 :: as) h (okx w h A)) (hA : ∀ v g, w = 0 → A v g → v = x ∧ JC γ g ∧ CF h g) (hR : ∀ h1, JR γ h1 → CtI d2 M2 (.ref 113 :: as) h1 (okw w h1 (B h1))) (hB : ∀ h1 v g, w = 0 → JR γ h1 → B h1 v g → v = x ∧ JR γ g ∧ RF h1 g) : Two d1 d2 M1 M2 as h := two_ok hc hr hv hw hC hA hR hB (fun _ => hv)
theorem two_qL {d1 d2 : Nat} {M1 M2 : Mth} {as : List Value} {h : Hp} {w : Int32} {x : Int64} {γ : Gh} {A : Int64 → Hp → Prop} {B : Hp → Int64 → Hp → Prop} (hc : JC γ h) (hr : JR γ h) (hv : JV γ) (hw : isW w) (hC : CtL d1 M1 (.ref 0 :: as) h (okxL w h A)) (hA : ∀ v g, w = 0 → A v g → v = x ∧ JC γ g ∧ CF h g) (hR : ∀ h1, JR γ h1 → CtL d2 M2 (.ref 113 :: as) h1 (okwL w h1 (B h1))) (hB : ∀ h1 v g, w = 0 → JR γ h1 → B h1 v g → v = x ∧ JR γ g ∧ RF h1 g) : TwoL d1 d2 M1 M2 as h := two_okL hc hr hv hw hC hA hR hB (fun _ => hv)
theorem sxW_isW (s : Nat → Int32) (p r : Int32) : isW (sxW s p r) := by
  unfold sxW
  split
  · exact isW_wb _ _ _
  · exact isW_1
theorem ofW_isW (s : Nat → Int32) (p w : Int32) : isW (ofW s p w) := by
  unfold ofW
  split
  · split
    · exact isW_0
    · exact isW_2
  · exact isW_1
theorem roW_isW (s : Nat → Int32) (p i : Int32) : isW (roW s p i) := by
  unfold roW
  split
  · split
    · exact isW_0
    · exact isW_3
  · exact isW_1
theorem hoW_isW (s : Nat → Int32) (t w : Int32) : isW (hoW s t w) := by
  unfold hoW
  split
  · split
    · exact isW_0
    · exact isW_2
  · exact isW_1
theorem tw_of (p w : Int32) {γ : Gh} {h : Hp} (hc : JC γ h) (hr : JR γ h) (hv : JV γ) : Two 3 2 mX10_of mX11_of [.int p, .int w] h :=
  two_q hc hr hv (ofW_isW _ _ _) (ct_ofC p w h _ hc.c hv.1) (fun v g _ q => ⟨q.1, hc.qe q.2⟩) (fun h1 r => ct_of p w h1 γ.s r.1 hv.1.o) (fun h1 v g _ r q => ⟨q.1, r.qe q.2⟩)
theorem tw_starts (p r : Int32) {γ : Gh} {h : Hp} (hc : JC γ h) (hr : JR γ h) (hv : JV γ) : Two 3 2 mX10_starts mX11_starts [.int p, .int r] h :=
  two_q hc hr hv (sxW_isW _ _ _) (ct_startsC p r h _ hc.c hv.1) (fun v g _ q => ⟨q.1, hc.qe q.2⟩) (fun h1 e => ct_starts p r h1 γ.s e.1 hv.1.o) (fun h1 v g _ e q => ⟨q.1, e.qe q.2⟩)
theorem tw_lawful (p r : Int32) {γ : Gh} {h : Hp} (hc : JC γ h) (hr : JR γ h) (hv : JV γ) : Two 3 3 mX10_lawful mX11_lawful [.int p, .int r] h :=
  two_q hc hr hv (lwW_isW _ _ _) (ct_lawfulC p r h _ hc.c hv.1) (fun v g _ q => ⟨q.1, hc.qe q.2⟩) (fun h1 e => ct_lawful p r h1 γ.s e.1 hv.1.o) (fun h1 v g _ e q => ⟨q.1, e.qe q.2⟩)
theorem tw_rows (p r : Int32) {γ : Gh} {h : Hp} (hc : JC γ h) (hr : JR γ h) (hv : JV γ) : Two 3 3 mX10_rows mX11_rows [.int p, .int r] h :=
  two_q hc hr hv (roW_isW _ _ _) (ct_rowsC p r h _ hc.c hv.1) (fun v g _ q => ⟨q.1, hc.qe q.2⟩) (fun h1 e => ct_rows p r h1 γ.s e.1 hv.1.o) (fun h1 v g _ e q => ⟨q.1, e.qe q.2⟩)
theorem tw_done (t x : Int32) {γ : Gh} {h : Hp} (hc : JC γ h) (hr : JR γ h) (hv : JV γ) : Two 3 5 mX10_done mX11_done [.int t, .int x] h :=
  two_q hc hr hv (dnW_isW _ _ _) (ct_doneC t x h _ (hc.k hv)) (fun v g _ q => ⟨q.1, hc.q q.2⟩) (fun h1 e => ct_done t x h1 γ.s e.1 hv.1.o) (fun h1 v g _ e q => ⟨q.1, e.qf q.2 (by decide) (by decide)⟩)
theorem tw_given (t x p : Int32) {γ : Gh} {h : Hp} (hc : JC γ h) (hr : JR γ h) (hv : JV γ) : Two 3 5 mX10_given mX11_given [.int t, .int x, .int p] h :=
  two_q hc hr hv (gnW_isW _ _ _ _) (ct_givenC t x p h _ (hc.k hv)) (fun v g _ q => ⟨q.1, hc.q q.2⟩) (fun h1 e => ct_given t x p h1 γ.s e.1 hv.1.o) (fun h1 v g _ e q => ⟨q.1, e.qf q.2 (by decide) (by decide)⟩)
theorem tw_hour (t w : Int32) {γ : Gh} {h : Hp} (hc : JC γ h) (hr : JR γ h) (hv : JV γ) : Two 1 2 mX10_hour mX11_hour [.int t, .int w] h :=
  two_q hc hr hv (hoW_isW _ _ _) (ct_hourC t w h _ hc.c hv.1) (fun v g _ q => ⟨q.1, hc.qe q.2⟩) (fun h1 e => ct_hour t w h1 γ.s e.1 hv.1.o) (fun h1 v g _ e q => ⟨q.1, e.qe q.2⟩)
