/-! the component's walks -/
theorem kx_bit {b i : Nat} (hb : b < 2 ^ 31) (hi : i < 32) : (nI b >>> (nI i &&& 31)) &&& 1 = nI (b / 2 ^ i % 2) := by
  rw [pk_shrN hb _ i (s_l i hi), pk_andN (m := 1) (Nat.lt_of_le_of_lt (Nat.div_le_self _ _) (by omega)) 1 (by decide)]
theorem kx_26 {post : Int32 → Prop} {J : Int32 → Int32 → Prop} {a b r i : Nat} (hb : b < 128) (hi : i < 7) (h : J (nI (r ^^^ a * kz_bi b i)) (nI i + (-1))) : wX_product_26 post J (nI a) (nI b) (nI r) (nI i) := by
  have e := kx_bit (b := b) (i := i) (by omega) (by omega)
  rw [kz_bie] at h
  unfold wX_product_26
  refine pk_eq (b / 2 ^ i % 2) 1 (fun h1 => ?_) (fun h0 => ?_) e rfl (by omega) (by omega)
  · rw [h1, Nat.mul_one] at h
    exact nm_r (nx_xor r a) (nm_e h)
  · rw [show b / 2 ^ i % 2 = 0 from by omega, Nat.mul_zero, Nat.xor_zero] at h
    exact nm_e h
theorem kx_5 {post : Int32 → Prop} {a b r i n : Nat} (hb : b < 128) (hr : r < 128) (hi : i < 7) (h : wX_product_5 post (nI a) (nI b) n (nI (kz_xs a b i r)) (nI i + (-1))) : wX_product_5 post (nI a) (nI b) (n + 1) (nI r) (nI i) := by
  refine br_f (nI_pos (by omega)) ?_
  refine nm_r (e' := nI (r * 2)) (pk_shlN (n := r) ((1 : Int32) &&& 31) 1 (by decide) (by omega)) ?_
  refine pk_lt (r * 2) 128 (fun hlt => ?_) (fun hge => ?_)
  · refine kx_26 hb hi ?_
    rw [← kz_rd1 hr hlt]; exact h
  · refine nm_r (nx_xor (r * 2) 131) (kx_26 hb hi ?_)
    rw [← kz_rd2 hr hge]; exact h
theorem kx_xsl {a b i r : Nat} (ha : a < 128) (hr : r < 128) : kz_xs a b i r < 128 := by
  have h1 := kz_rd3 hr
  have h2 : a * kz_bi b i < 128 := by
    have : kz_bi b i < 2 := Nat.mod_lt _ (by decide)
    rcases (by omega : kz_bi b i = 0 ∨ kz_bi b i = 1) with z | z
    · rw [z]; omega
    · rw [z]; omega
  exact kz_xl h1 h2
theorem kx_prod {post : Int32 → Prop} {a b : Nat} (ha : a < 128) (hb : b < 128) (h : post (nI (kz_mt a b))) : wpX_product post (nI a) (nI b) := by
  rw [← kz_mxe ha hb] at h
  refine ⟨8, ?_⟩
  have h0 : (0 : Nat) < 128 := by decide
  have h6 := kx_xsl (b := b) (i := 6) ha h0
  have h5 := kx_xsl (b := b) (i := 5) ha h6
  have h4 := kx_xsl (b := b) (i := 4) ha h5
  have h3 := kx_xsl (b := b) (i := 3) ha h4
  have h2 := kx_xsl (b := b) (i := 2) ha h3
  have h1 := kx_xsl (b := b) (i := 1) ha h2
  refine kx_5 (i := 6) (r := 0) hb h0 (by decide) ?_
  rw [pk_m1 5]
  refine kx_5 (i := 5) hb h6 (by decide) ?_
  rw [pk_m1 4]
  refine kx_5 (i := 4) hb h5 (by decide) ?_
  rw [pk_m1 3]
  refine kx_5 (i := 3) hb h4 (by decide) ?_
  rw [pk_m1 2]
  refine kx_5 (i := 2) hb h3 (by decide) ?_
  rw [pk_m1 1]
  refine kx_5 (i := 1) hb h2 (by decide) ?_
  rw [pk_m1 0]
  refine kx_5 (i := 0) hb h1 (by decide) ?_
  exact br_t (by decide) h
theorem kx_pr {post : Int32 → Prop} {x y : Int32} (a b : Nat) (hx : x = nI a) (hy : y = nI b) (ha : a < 128) (hb : b < 128) (h : post (nI (kz_mt a b))) : wpX_product post x y := by
  subst hx hy
  exact kx_prod ha hb h
theorem kx_qu {post : Int32 → Prop} {x y : Int32} (a b : Nat) (hx : x = nI a) (hy : y = nI b) (ha : a < 128) (h0 : 0 < b) (hb : b < 128) (h : post (nI (kz_mt a (kz_iv b)))) : wpX_quotient post x y := by
  subst hx hy
  have ht := kz_mtl a (kz_iv b)
  have key : ∀ d c, c + d = kz_mt a (kz_iv b) → wX_quotient_2 post (nI a) (nI b) (d + 1) (nI c) := by
    intro d
    induction d with
    | zero =>
      intro c hc
      refine br_f (nI_ge (b := 128) (by omega) (by decide)) ?_
      refine kx_prod hb (by omega) ?_
      refine br_t ?_ ?_
      · rw [show c = kz_mt a (kz_iv b) from by omega, kz_q1 h0 hb ha]
      · rw [show c = kz_mt a (kz_iv b) from by omega]; exact h
    | succ d ih =>
      intro c hc
      refine br_f (nI_ge (b := 128) (by omega) (by decide)) ?_
      refine kx_prod hb (by omega) ?_
      refine br_f ?_ (nm_r (nI_1 c) (ih (c + 1) (by omega)))
      intro e
      have e' := (nI_eq (Nat.lt_trans (kz_mtl b c) (by decide)) (by omega)).mp e
      have z := kz_q2 h0 hb (c := c) (by omega)
      rw [e'] at z
      omega
  exact ⟨_, key (kz_mt a (kz_iv b)) 0 (by omega)⟩
theorem kx_xOf {post : Int32 → Prop} {p : Nat} (hp : p ≤ 16384) (h : post (nI (p / 128))) : wpX_xOf post (nI p) :=
  ⟨by decide, kz_at (P := post) (pk_div (a := p) (d := 128) (by omega) (by decide) (by decide)) h⟩
theorem kx_yOf {post : Int32 → Prop} {p : Nat} (hp : p ≤ 16384) (h : post (nI (p % 128))) : wpX_yOf post (nI p) :=
  ⟨by decide, kz_at (P := post) (pk_rem (a := p) (d := 128) (by omega) (by decide) (by decide)) h⟩
theorem kx_pO {post : Int32 → Prop} {x y : Int32} (a b : Nat) (hx : x = nI a) (hy : y = nI b) (h : post (nI (128 * a + b))) : wpX_pointOf post x y := by
  subst hx hy
  refine kz_at (P := post) ?_ h
  rw [← nI_add, ← pk_mul]; rfl
theorem kx_neg {post : Int32 → Prop} {p : Nat} (hp : p ≤ 16384) (h : post (nI (kz_ng p))) : wpX_negative post (nI p) := by
  unfold wpX_negative
  refine pk_eq p 16384 (fun e => ?_) (fun e => ?_)
  · rw [e] at h; exact h
  · rw [kz_ng1 e] at h
    exact kx_xOf hp (kx_yOf hp (kx_pO _ _ rfl (nx_xor _ _) h))
theorem kx_isP {post : Int32 → Prop} {A p : Nat} (hA : A < 2) (hp : p ≤ 16384) (h : post (if kz_pt A p = true then 1 else 0)) : wpX_isPoint post (nI A) (nI p) := by
  unfold wpX_isPoint
  refine br_f (nI_pos (by omega)) ?_
  refine br_t (nI_le (b := 16384) hp (by decide)) ?_
  refine pk_eq p 16384 (fun e => ?_) (fun e => ?_)
  · rw [e, kz_pO] at h; exact h
  · have hx : p / 128 < 128 := by omega
    have hy : p % 128 < 128 := by omega
    rw [kz_plt (by omega)] at h
    refine kx_xOf hp (kx_yOf hp ?_)
    generalize p / 128 = x at *
    generalize p % 128 = y at *
    refine kx_prod hx hx (kx_prod hy hy (kx_prod hx hy (nm_r (nx_xor _ _) ?_)))
    refine kx_prod (kz_mtl _ _) hx (kx_prod (by omega) (kz_mtl _ _) ?_)
    refine nm_r (e' := nI (kz_mt (kz_mt x x) x ^^^ A * kz_mt x x ^^^ 1)) (by rw [kz_Ax hA (kz_mtl _ _), nx_xor]; exact nx_xor _ 1) ?_
    have l1 := kz_xl (kz_mtl y y) (kz_mtl x y)
    have l2 : kz_mt (kz_mt x x) x ^^^ A * kz_mt x x ^^^ 1 < 128 := by
      rw [← kz_Ax hA (kz_mtl _ _)]
      exact kz_xl (kz_xl (kz_mtl _ _) (kz_mtl _ _)) (by decide)
    refine pk_eq (kz_mt y y ^^^ kz_mt x y) (kz_mt (kz_mt x x) x ^^^ A * kz_mt x x ^^^ 1) (fun f => ?_) (fun f => ?_)
    · have e2 : kz_on A x y = true := kz_bt f
      rw [e2] at h; exact h
    · have e2 : kz_on A x y = false := kz_bf f
      rw [e2] at h; exact h
theorem kx_isP1 {post : Int32 → Prop} {A p : Nat} (hA : A < 2) (hp : kz_pt A p = true) (h : post 1) : wpX_isPoint post (nI A) (nI p) :=
  kx_isP hA (kz_ple hp) (by rw [hp]; exact h)
theorem kx_isP0 {post : Int32 → Prop} {A p : Nat} (hA : A < 2) (hl : p ≤ 16384) (hp : kz_pt A p = false) (h : post 0) : wpX_isPoint post (nI A) (nI p) :=
  kx_isP hA hl (by rw [hp]; exact h)
theorem kx_sum {post : Int32 → Prop} {A p q : Nat} (hA : A < 2) (hp : kz_pt A p = true) (hq : kz_pt A q = true) (h : post (nI (kz_S A p q))) : wpX_sum post (nI A) (nI p) (nI q) := by
  have lp := kz_ple hp
  have lq := kz_ple hq
  have ln := kz_ngl lp
  have hA' : A < 128 := by omega
  unfold wpX_sum
  refine pk_eq p 16384 (fun e => ?_) (fun e => ?_)
  · rw [e, kz_S1] at h; exact h
  refine pk_eq q 16384 (fun f => ?_) (fun f => ?_)
  · rw [f, kz_S2 e] at h; exact h
  refine kx_neg lp ?_
  refine pk_eq q (kz_ng p) (fun g => ?_) (fun g => ?_)
  · rw [kz_S3 e f g] at h; exact h
  refine kx_xOf lp (kx_yOf lp (kx_xOf lq (kx_yOf lq ?_)))
  refine pk_eq (p / 128) (q / 128) (fun w => ?_) (fun w => ?_)
  · have hx0 := kz_dx hA hp hq g w
    rw [kz_S4 e f g w] at h
    have hx : p / 128 < 128 := by omega
    have hy : p % 128 < 128 := by omega
    generalize p / 128 = x at *
    generalize p % 128 = y at *
    refine kx_qu y x rfl rfl hy hx0 hx ?_
    refine nm_r (nx_xor _ _) ?_
    have hl := kz_xl hx (kz_mtl y (kz_iv x))
    generalize x ^^^ kz_mt y (kz_iv x) = l at *
    refine kx_prod hl hl ?_
    refine nm_r (e' := nI (kz_mt l l ^^^ l ^^^ A)) (by rw [nx_xor, nx_xor]) ?_
    have hs := kz_xl (kz_xl (kz_mtl l l) hl) hA'
    refine kx_prod hx hx ?_
    refine kx_pr (l ^^^ 1) _ (nx_xor l 1) rfl (kz_xl hl (by decide)) hs ?_
    refine nm_r (nx_xor _ _) ?_
    unfold wX_sum_159
    exact kx_pO _ _ rfl rfl h
  · rw [kz_S5 e f g w] at h
    have hx : p / 128 < 128 := by omega
    have hy : p % 128 < 128 := by omega
    have hu : q / 128 < 128 := by omega
    have hv : q % 128 < 128 := by omega
    generalize p / 128 = x at *
    generalize p % 128 = y at *
    generalize q / 128 = u at *
    generalize q % 128 = v at *
    refine kx_qu (y ^^^ v) (x ^^^ u) (nx_xor _ _) (nx_xor _ _) (kz_xl hy hv) (kz_xp w) (kz_xl hx hu) ?_
    have hl := kz_mtl (y ^^^ v) (kz_iv (x ^^^ u))
    generalize kz_mt (y ^^^ v) (kz_iv (x ^^^ u)) = l at *
    refine kx_prod hl hl ?_
    refine nm_r (e' := nI (kz_mt l l ^^^ l ^^^ x ^^^ u ^^^ A)) (by rw [nx_xor, nx_xor, nx_xor, nx_xor]) ?_
    have hs := kz_xl (kz_xl (kz_xl (kz_xl (kz_mtl l l) hl) hx) hu) hA'
    refine kx_pr l _ rfl (nx_xor x _) hl (kz_xl hx hs) ?_
    refine nm_r (e' := nI (kz_mt l (x ^^^ (kz_mt l l ^^^ l ^^^ x ^^^ u ^^^ A)) ^^^ (kz_mt l l ^^^ l ^^^ x ^^^ u ^^^ A) ^^^ y)) (by rw [nx_xor, nx_xor]) ?_
    unfold wX_sum_159
    exact kx_pO _ _ rfl rfl h
