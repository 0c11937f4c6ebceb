/-! the reference's constructor -/
def kq_Q (b c : Nat) (ai : Nat → Int32) : Prop := (∀ j, j < b → ai j = nI (kz_iv j)) ∧ ai b = nI (if kz_iv b < c then kz_iv b else 0) ∧ (∀ j, b < j → ai j = 0)
def kq_T (A q : Nat) (al : Nat → Int32) : Prop := ∀ r, r < q → kz_pt A r = true → al (kz_rk A r) = nI r
theorem kq_Qt {b c : Nat} {ai : Nat → Int32} (h : kq_Q b c ai) (e : c = kz_iv b) : kq_Q b (c + 1) (upd ai b (nI c)) := by
  obtain ⟨h1, h2, h3⟩ := h
  refine ⟨fun j hj => ?_, ?_, fun j hj => ?_⟩
  · rw [pk_un (by omega)]; exact h1 j hj
  · rw [pk_us, if_pos (by omega), e]
  · rw [pk_un (by omega)]; exact h3 j hj
theorem kq_Qf {b c : Nat} {ai : Nat → Int32} (h : kq_Q b c ai) (e : c ≠ kz_iv b) : kq_Q b (c + 1) (upd ai b (ai b)) := by
  obtain ⟨h1, h2, h3⟩ := h
  refine ⟨fun j hj => ?_, ?_, fun j hj => ?_⟩
  · rw [pk_un (by omega)]; exact h1 j hj
  · rw [pk_us, h2]
    by_cases z : kz_iv b < c
    · rw [if_pos z, if_pos (by omega)]
    · rw [if_neg z, if_neg (by omega)]
  · rw [pk_un (by omega)]; exact h3 j hj
theorem kq_47 {post : SY → Prop} {J : Int32 → (Nat → Int32) → (Nat → Int32) → Prop} {fa fc : Int32} {al : Nat → Int32} {b : Nat} (h0 : 0 < b) (hb : b < 128) (hJ : ∀ ai, kq_Q b 128 ai → J (nI (b + 1)) ai al) : ∀ d c ai, c + d = 128 → kq_Q b c ai → wY_init_47 post J (nI b) fa fc (d + 1) (nI c) ai al := by
  intro d
  induction d with
  | zero =>
    intro c ai hc hQ
    rw [show c = 128 from by omega] at hQ ⊢
    exact br_t (by decide) (nm_r (nI_1 b) (hJ ai hQ))
  | succ d ih =>
    intro c ai hc hQ
    refine br_f (nI_ge (b := 128) (by omega) (by decide)) ?_
    refine ky_pr b c rfl rfl hb (by omega) ?_
    have hi : vp_in (nI b) 128 := vp_in_nI hb (by decide)
    have hm := kz_mtl b c
    have ec : (nI b).toNatClampNeg = b := nI_clamp (by omega)
    rw [ec]
    refine pk_eq (kz_mt b c) 1 (fun e => ?_) (fun e => ?_)
    · refine ⟨hi, nm_e (nm_r (nI_1 c) (ih (c + 1) _ (by omega) (kq_Qt hQ ?_)))⟩
      exact (kz_inv h0 hb (by omega)).mp e
    · refine ⟨hi, hi, nm_e (nm_r (nI_1 c) (ih (c + 1) _ (by omega) (kq_Qf hQ ?_)))⟩
      exact fun z => e ((kz_inv h0 hb (by omega)).mpr z)
theorem kq_Q1 {b : Nat} {ai : Nat → Int32} (h1 : ∀ j, j < b → ai j = nI (kz_iv j)) (h2 : ∀ j, b ≤ j → ai j = 0) : kq_Q b 1 ai := by
  refine ⟨h1, ?_, fun j hj => h2 j (by omega)⟩
  rw [h2 b (Nat.le_refl _)]
  by_cases z : kz_iv b < 1
  · rw [if_pos z, show kz_iv b = 0 from by omega]; rfl
  · rw [if_neg z]; rfl
theorem kq_38 {post : SY → Prop} {fa fc : Int32} {al : Nat → Int32} (h : ∀ ai, (∀ j, j < 128 → ai j = nI (kz_iv j)) → ∃ n, wY_init_94 post fa n 0 fc ai al) : ∀ d b ai, b + d = 128 → 0 < b → (∀ j, j < b → ai j = nI (kz_iv j)) → (∀ j, b ≤ j → ai j = 0) → wY_init_38 post fa fc (d + 1) (nI b) ai al := by
  intro d
  induction d with
  | zero =>
    intro b ai hb h0 h1 h2
    rw [show b = 128 from by omega] at h1 ⊢
    exact br_t (by decide) (h ai h1)
  | succ d ih =>
    intro b ai hb h0 h1 h2
    refine br_f (nI_ge (b := 128) (by omega) (by decide)) ?_
    refine ⟨128, kq_47 h0 (by omega) (fun ai' hQ => ?_) 127 1 ai rfl (kq_Q1 h1 h2)⟩
    obtain ⟨q1, q2, q3⟩ := hQ
    rw [if_pos (kz_ivl b)] at q2
    refine ih (b + 1) ai' (by omega) (by omega) (fun j hj => ?_) (fun j hj => q3 j (by omega))
    rcases Nat.lt_or_ge j b with z | z
    · exact q1 j z
    · rw [show j = b from by omega]; exact q2
theorem kq_Tt {A q : Nat} {al : Nat → Int32} (h : kq_T A q al) : kq_T A (q + 1) (upd al (kz_rk A q) (nI q)) := by
  intro r hr hp
  rcases Nat.lt_or_ge r q with z | z
  · have h1 := kz_rkm A (r + 1) (q - (r + 1))
    rw [show r + 1 + (q - (r + 1)) = q from by omega, kz_rkt hp] at h1
    rw [pk_un (by omega)]
    exact h r z hp
  · rw [show r = q from by omega, pk_us]
theorem kq_Tf {A q : Nat} {al : Nat → Int32} (h : kq_T A q al) (hq : kz_pt A q = false) : kq_T A (q + 1) al := by
  intro r hr hp
  rcases Nat.lt_or_ge r q with z | z
  · exact h r z hp
  · rw [show r = q from by omega, hq] at hp; exact absurd hp (by decide)
theorem kq_103 {post : SY → Prop} {J : Int32 → Int32 → (Nat → Int32) → (Nat → Int32) → Prop} {ai : Nat → Int32} {A x : Nat} (hA : A < 2) (hx : x < 128) (hJ : ∀ al, kq_T A (128 * x + 128) al → J (nI (x + 1)) (nI (kz_rk A (128 * x + 128))) ai al) : ∀ d y al, y + d = 128 → kq_T A (128 * x + y) al → wY_init_103 post J (nI x) (nI A) (d + 1) (nI y) (nI (kz_rk A (128 * x + y))) ai al := by
  intro d
  induction d with
  | zero =>
    intro y al hy hT
    rw [show y = 128 from by omega] at hT ⊢
    exact br_t (by decide) (nm_r (nI_1 x) (hJ al hT))
  | succ d ih =>
    intro y al hy hT
    refine br_f (nI_ge (b := 128) (by omega) (by decide)) ?_
    refine ky_isOn x y rfl rfl hA hx (by omega) ?_
    have hl := kz_rkl (q := 128 * x + y) hA (by omega)
    have ep : kz_pt A (128 * x + y) = kz_on A x y := by
      rw [kz_plt (by omega), show (128 * x + y) / 128 = x from by omega, show (128 * x + y) % 128 = y from by omega]
    cases z : kz_on A x y with
    | false =>
      rw [z] at ep
      have k := ih (y + 1) al (by omega) (kq_Tf hT ep)
      rw [← Nat.add_assoc, kz_rkf ep] at k
      exact br_t (by decide) (nm_r (nI_1 y) k)
    | true =>
      rw [z] at ep
      refine br_f (by decide) ?_
      refine br_f (nI_ge (b := 299) (by omega) (by decide)) ?_
      refine ⟨vp_in_nI (by omega) (by decide), ?_⟩
      have k := ih (y + 1) _ (by omega) (kq_Tt hT)
      rw [← Nat.add_assoc, kz_rkt ep] at k
      refine nm_r (e' := upd al (kz_rk A (128 * x + y)) (nI (128 * x + y))) ?_ (nm_r (nI_1 _) (nm_r (nI_1 y) k))
      rw [nI_clamp (by omega), ky_pO x y rfl]
theorem kq_94 {post : SY → Prop} {ai : Nat → Int32} {A : Nat} (hA : A < 2) (h : ∀ al, kq_T A 16385 al → post (nI A, nI (kz_rk A 16385), ai, al)) : ∀ d x al, x + d = 128 → kq_T A (128 * x) al → wY_init_94 post (nI A) (d + 1) (nI x) (nI (kz_rk A (128 * x))) ai al := by
  intro d
  induction d with
  | zero =>
    intro x al hx hT
    rw [show x = 128 from by omega] at hT ⊢
    have hl := kz_rkl (q := 16384) hA (Nat.le_refl _)
    refine br_t (by decide) ?_
    refine ⟨vp_in_nI (n := kz_rk A 16384) (by omega) (by decide), ?_⟩
    refine nm_r (e' := upd al (kz_rk A 16384) (nI 16384)) ?_ (nm_r (nI_1 (kz_rk A 16384)) ?_)
    · rw [show 128 * 128 = 16384 from rfl, nI_clamp (by omega)]; rfl
    · rw [← kz_rkt (kz_pO A)]
      exact h _ (kq_Tt hT)
  | succ d ih =>
    intro x al hx hT
    refine br_f (nI_ge (b := 128) (by omega) (by decide)) ?_
    exact ⟨129, kq_103 hA (by omega) (fun al' hT' => ih (x + 1) al' (by omega) hT') 128 0 al rfl hT⟩
theorem kq_init {post : SY → Prop} {A : Nat} (hA : A < 2) (h : ∀ ai al, (∀ j, j < 128 → ai j = nI (kz_iv j)) → kq_T A 16385 al → post (nI A, nI (kz_rk A 16385), ai, al)) : ∃ n, wY_init_38 post (nI A) 0 n 1 (fun _ => 0) (fun _ => 0) := by
  refine ⟨128, kq_38 (d := 127) (b := 1) (fun ai hv => ?_) _ rfl (by decide) (fun j hj => ?_) (fun _ _ => rfl)⟩
  · exact ⟨129, kq_94 (d := 128) (x := 0) hA (fun al hT => h ai al hv hT) _ rfl (fun r hr => absurd hr (Nat.not_lt_zero r))⟩
  · rw [show j = 0 from by omega, kz_iv0]; rfl
