/-! the reference's walks -/
theorem ky_33 {post : Int32 → Prop} {J : Int32 → Int32 → Int32 → Prop} {x2 z0 fa fc : Int32} {ai al : Nat → Int32} {s i : Nat} (hs : s < 128) (h : J z0 (nI (kz_rd (s * 2))) (nI (i + 1))) : wY_product_33 post J x2 (nI s) (nI i) z0 fa fc ai al := by
  unfold wY_product_33
  refine nm_r (e' := nI (s * 2)) (pk_shlN (n := s) ((1 : Int32) &&& 31) 1 (by decide) (by omega)) ?_
  refine pk_le (s * 2) 127 (fun hle => ?_) (fun hgt => ?_)
  · rw [kz_rd1 hs (by omega)] at h
    exact nm_r (nI_1 i) h
  · rw [kz_rd2 hs (by omega)] at h
    exact nm_r (nx_xor (s * 2) 131) (nm_r (nI_1 i) h)
theorem ky_8 {post : Int32 → Prop} {fa fc : Int32} {ai al : Nat → Int32} {a b i n : Nat} (hb : b < 128) (hs : kz_sh a i < 128) (hi : i < 7) (h : wY_product_8 post (nI b) fa fc ai al n (nI (kz_sm a b (i + 1))) (nI (kz_sh a (i + 1))) (nI (i + 1))) : wY_product_8 post (nI b) fa fc ai al (n + 1) (nI (kz_sm a b i)) (nI (kz_sh a i)) (nI i) := by
  have e := kx_bit (b := b) (i := i) (by omega) (by omega)
  have es : kz_sm a b (i + 1) = kz_sm a b i ^^^ kz_sh a i * kz_bi b i := rfl
  have eh : kz_sh a (i + 1) = kz_rd (kz_sh a i * 2) := rfl
  rw [es, eh, kz_bie] at h
  refine br_f (nI_ge (b := 7) hi (by decide)) ?_
  refine pk_eq (b / 2 ^ i % 2) 1 (fun h1 => ?_) (fun h0 => ?_) e rfl (by omega) (by omega)
  · rw [h1, Nat.mul_one] at h
    rw [nx_xor]
    exact ky_33 hs h
  · rw [show b / 2 ^ i % 2 = 0 from by omega, Nat.mul_zero, Nat.xor_zero] at h
    exact ky_33 hs h
theorem ky_shl {a : Nat} (ha : a < 128) : ∀ i, kz_sh a i < 128 := by
  intro i
  induction i with
  | zero => exact ha
  | succ i ih => exact kz_rd3 ih
theorem ky_pr {post : Int32 → Prop} {fa fc : Int32} {ai al : Nat → Int32} {x y : Int32} (a b : Nat) (hx : x = nI a) (hy : y = nI b) (ha : a < 128) (hb : b < 128) (h : post (nI (kz_mt a b))) : wpY_product post (fa, fc, ai, al) x y := by
  subst hx hy
  rw [← kz_sme ha hb] at h
  have key : ∀ d i, i + d = 7 → wY_product_8 post (nI b) fa fc ai al (d + 1) (nI (kz_sm a b i)) (nI (kz_sh a i)) (nI i) := by
    intro d
    induction d with
    | zero =>
      intro i hi
      rw [show i = 7 from by omega]
      exact br_t (by decide) h
    | succ d ih =>
      intro i hi
      exact ky_8 hb (ky_shl ha i) (by omega) (ih (i + 1) (by omega))
  exact ⟨8, key 7 0 rfl⟩
theorem ky_isOn {post : Int32 → Prop} {fc : Int32} {ai al : Nat → Int32} {x' y' : Int32} {A : Nat} (x y : Nat) (ex : x' = nI x) (ey : y' = nI y) (hA : A < 2) (hx : x < 128) (hy : y < 128) (h : post (if kz_on A x y = true then 1 else 0)) : wpY_isOn post (nI A, fc, ai, al) x' y' := by
  subst ex ey
  unfold wpY_isOn
  dsimp only
  refine ky_pr x x rfl rfl hx hx ?_
  refine ky_pr _ x rfl rfl (kz_mtl _ _) hx ?_
  refine ky_pr y y rfl rfl hy hy ?_
  refine ky_pr x y rfl rfl hx hy ?_
  have l1 := kz_xl (kz_mtl y y) (kz_mtl x y)
  have l2 : kz_mt (kz_mt x x) x ^^^ A * kz_mt x x ^^^ 1 < 128 := by
    rw [← kz_Ax hA (kz_mtl _ _)]
    exact kz_xl (kz_xl (kz_mtl _ _) (kz_mtl _ _)) (by decide)
  have key : ∀ z0, z0 = nI (A * kz_mt x x) → wY_isOn_43 post z0 (nI (kz_mt (kz_mt x x) x)) (nI (kz_mt y y) ^^^ nI (kz_mt x y)) (nI A) fc ai al := by
    intro z0 ez
    subst ez
    unfold wY_isOn_43
    refine pk_eq (kz_mt y y ^^^ kz_mt x y) (kz_mt (kz_mt x x) x ^^^ A * kz_mt x x ^^^ 1) (fun f => ?_) (fun f => ?_) (nx_xor _ _) (by rw [nx_xor]; exact nx_xor _ 1)
    · have e2 : kz_on A x y = true := kz_bt f
      rw [e2] at h; exact h
    · have e2 : kz_on A x y = false := kz_bf f
      rw [e2] at h; exact h
  refine pk_eq A 1 (fun e => ?_) (fun e => ?_)
  · exact key _ (by rw [e, Nat.one_mul])
  · exact key _ (by rw [show A = 0 from by omega, Nat.zero_mul]; rfl)
theorem ky_isP {post : Int32 → Prop} {fc : Int32} {ai al : Nat → Int32} {A p : Nat} (hA : A < 2) (hp : p ≤ 16384) (h : post (if kz_pt A p = true then 1 else 0)) : wpY_isPoint post (nI A, fc, ai, al) (nI p) := by
  unfold wpY_isPoint
  dsimp only
  refine pk_eq p 16384 (fun e => ?_) (fun e => ?_)
  · rw [e, kz_pO] at h; exact h
  · refine br_f (nI_pos (by omega)) ?_
    refine br_f (nI_ge (b := 16384) (by omega) (by decide)) ?_
    refine ⟨by decide, by decide, ?_⟩
    rw [kz_plt (by omega)] at h
    refine ky_isOn (p / 128) (p % 128) (pk_div (a := p) (d := 128) (by omega) (by decide) (by decide)) (pk_rem (a := p) (d := 128) (by omega) (by decide) (by decide)) hA (by omega) (by omega) ?_
    cases z : kz_on A (p / 128) (p % 128) with
    | true => rw [z] at h; exact br_f (by decide) h
    | false => rw [z] at h; exact br_t (by decide) h
theorem ky_isP1 {post : Int32 → Prop} {fc : Int32} {ai al : Nat → Int32} {A p : Nat} (hA : A < 2) (hp : kz_pt A p = true) (h : post 1) : wpY_isPoint post (nI A, fc, ai, al) (nI p) :=
  ky_isP hA (kz_ple hp) (by rw [hp]; exact h)
theorem ky_isP0 {post : Int32 → Prop} {fc : Int32} {ai al : Nat → Int32} {A p : Nat} (hA : A < 2) (hl : p ≤ 16384) (hp : kz_pt A p = false) (h : post 0) : wpY_isPoint post (nI A, fc, ai, al) (nI p) :=
  ky_isP hA hl (by rw [hp]; exact h)
theorem ky_qu {post : Int32 → Prop} {fa fc : Int32} {ai al : Nat → Int32} {x y : Int32} (hv : ∀ j, j < 128 → ai j = nI (kz_iv j)) (a b : Nat) (hx : x = nI a) (hy : y = nI b) (ha : a < 128) (hb : b < 128) (h : post (nI (kz_mt a (kz_iv b)))) : wpY_quotient post (fa, fc, ai, al) x y := by
  subst hx hy
  unfold wpY_quotient
  dsimp only
  refine ⟨vp_in_nI hb (by decide), ?_⟩
  rw [nI_clamp (by omega), hv b hb]
  exact ky_pr a (kz_iv b) rfl rfl ha (kz_ivl b) h
theorem ky_neg {post : Int32 → Prop} {fa fc : Int32} {ai al : Nat → Int32} {p : Nat} (hp : p ≤ 16384) (h : post (nI (kz_ng p))) : wpY_negative post (fa, fc, ai, al) (nI p) := by
  unfold wpY_negative
  dsimp only
  refine pk_eq p 16384 (fun e => ?_) (fun e => ?_)
  · rw [e] at h; exact h
  · rw [kz_ng1 e] at h
    refine ⟨by decide, by decide, by decide, kz_at (P := post) ?_ h⟩
    have e1 : nI p / 128 = nI (p / 128) := pk_div (a := p) (d := 128) (by omega) (by decide) (by decide)
    have e2 : nI p - nI p / 128 * 128 = nI (p % 128) := pk_rem (a := p) (d := 128) (by omega) (by decide) (by decide)
    rw [e2, e1, nx_xor, ← nI_add, ← pk_mul]; rfl
theorem ky_pO (s t : Nat) {z : Int32} (hz : z = nI t) : (128 * nI s) + z = nI (128 * s + t) := by
  subst hz
  rw [← nI_add, ← pk_mul]; rfl
theorem ky_sum {post : Int32 → Prop} {fc : Int32} {ai al : Nat → Int32} (hv : ∀ j, j < 128 → ai j = nI (kz_iv j)) {A p q : Nat} (hA : A < 2) (hp : kz_pt A p = true) (hq : kz_pt A q = true) (h : post (nI (kz_S A p q))) : wpY_sum post (nI A, fc, ai, al) (nI p) (nI q) := by
  have lp := kz_ple hp
  have lq := kz_ple hq
  have ln := kz_ngl lp
  have hA' : A < 128 := by omega
  unfold wpY_sum
  dsimp only
  refine pk_eq p 16384 (fun e => ?_) (fun e => ?_)
  · rw [e, kz_S1] at h
    exact br_t (by rw [e]; rfl) h
  refine pk_eq q 16384 (fun f => ?_) (fun f => ?_)
  · rw [f, kz_S2 e] at h
    exact pk_eq p 16384 (fun z => absurd z e) (fun _ => h)
  refine ky_neg lp ?_
  refine pk_eq q (kz_ng p) (fun g => ?_) (fun g => ?_)
  · rw [kz_S3 e f g] at h; exact h
  refine ⟨by decide, nm_r (pk_div (a := p) (d := 128) (by omega) (by decide) (by decide)) ?_⟩
  refine ⟨by decide, nm_r (pk_rem (a := p) (d := 128) (by omega) (by decide) (by decide)) ?_⟩
  refine ⟨by decide, nm_r (pk_div (a := q) (d := 128) (by omega) (by decide) (by decide)) ?_⟩
  refine ⟨by decide, nm_r (pk_rem (a := q) (d := 128) (by omega) (by decide) (by decide)) ?_⟩
  refine pk_eq (p / 128) (q / 128) (fun w => ?_) (fun w => ?_)
  · rw [kz_S4 e f g w] at h
    have hx : p / 128 < 128 := by omega
    have hy : p % 128 < 128 := by omega
    generalize p / 128 = x at *
    generalize p % 128 = y at *
    refine ky_qu hv y x rfl rfl hy hx ?_
    refine nm_r (nx_xor _ _) ?_
    have hl := kz_xl hx (kz_mtl y (kz_iv x))
    generalize x ^^^ kz_mt y (kz_iv x) = l at *
    refine ky_pr l l rfl rfl hl hl ?_
    refine nm_r (e' := nI (kz_mt l l ^^^ l ^^^ A)) (by rw [nx_xor, nx_xor]) ?_
    have hs := kz_xl (kz_xl (kz_mtl l l) hl) hA'
    refine ky_pr x x rfl rfl hx hx ?_
    refine ky_pr (l ^^^ 1) _ (nx_xor l 1) rfl (kz_xl hl (by decide)) hs ?_
    exact kz_at (P := post) (ky_pO _ _ (nx_xor _ _)) h
  · rw [kz_S5 e f g w] at h
    have hx : p / 128 < 128 := by omega
    have hy : p % 128 < 128 := by omega
    have hu : q / 128 < 128 := by omega
    have hw : q % 128 < 128 := by omega
    generalize p / 128 = x at *
    generalize p % 128 = y at *
    generalize q / 128 = u at *
    generalize q % 128 = v at *
    refine ky_qu hv (y ^^^ v) (x ^^^ u) (nx_xor _ _) (nx_xor _ _) (kz_xl hy hw) (kz_xl hx hu) ?_
    have hl := kz_mtl (y ^^^ v) (kz_iv (x ^^^ u))
    generalize kz_mt (y ^^^ v) (kz_iv (x ^^^ u)) = l at *
    refine ky_pr l l rfl rfl hl hl ?_
    refine nm_r (e' := nI (kz_mt l l ^^^ l ^^^ x ^^^ u ^^^ A)) (by rw [nx_xor, nx_xor, nx_xor, nx_xor]) ?_
    have hs := kz_xl (kz_xl (kz_xl (kz_xl (kz_mtl l l) hl) hx) hu) hA'
    refine ky_pr l _ rfl (nx_xor x _) hl (kz_xl hx hs) ?_
    exact kz_at (P := post) (ky_pO _ _ (by rw [nx_xor, nx_xor]; rfl)) h
