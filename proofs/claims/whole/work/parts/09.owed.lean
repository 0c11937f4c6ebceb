/-! the relation and the owed statements -/
def i_Rel (k : Nat) (u : SX) (v : SY) : Prop := ∃ (A : Nat) (ai al : Nat → Int32), A < 2 ∧ u = nI A ∧ v = (nI A, nI (kz_rk A 16385), ai, al) ∧ (∀ j, j < 128 → ai j = nI (kz_iv j)) ∧ kq_T A 16385 al
theorem i_up {k : Nat} {u : SX} {v : SY} (h : i_Rel k u v) : i_Rel (k + 5) u v := h
theorem i_vc0 (k0 : Int32) : wpX_init (fun u => wpY_init (fun v => i_Rel 1 u v) k0) k0 := by
  have key : ∀ (A : Nat), A < 2 → ∀ u : SX, u = nI A → ∃ n, wY_init_38 (fun v => i_Rel 1 u v) (nI A) 0 n 1 (fun _ => 0) (fun _ => 0) := by
    intro A hA u hu
    exact kq_init hA (fun ai al hv hT => ⟨A, ai, al, hA, hu, rfl, hv, hT⟩)
  unfold wpX_init
  refine br_c (fun h0 => br_c (fun h1 => ?_) (fun h1 => ?_)) (fun h0 => ?_)
  · obtain ⟨j, hj, rfl⟩ := nI_of2 (M := 1) (n := 1) (by decide) (Int32.not_lt.mpr h0) h1
    rcases (by omega : j = 0 ∨ j = 1) with rfl | rfl
    · exact br_f (by decide) (key 0 (by decide) _ rfl)
    · exact br_t (by decide) (key 1 (by decide) _ rfl)
  · refine br_t ?_ (key 1 (by decide) _ rfl)
    rw [Int32.le_iff_toInt_le] at h1 ⊢
    omega
  · refine br_f ?_ (key 0 (by decide) _ rfl)
    rw [Int32.le_iff_toInt_le] at h0 ⊢
    have e0 : (0 : Int32).toInt = 0 := by decide
    have e1 : (1 : Int32).toInt = 1 := by decide
    omega
theorem i_vc_times {k : Nat} {u : SX} {v : SY} (I : i_Rel k u v) (hk : k + 5 ≤ 2561) (v1 : Int32) (v2 : Int32) : wpX_times (fun r => wpY_times (fun r' => r' = r ∧ i_Rel (k + 5) u v) v v1 v2) u v1 v2 := by
  obtain ⟨A, ai, al, hA, rfl, rfl, hv, hT⟩ := I
  have J : i_Rel (k + 5) (nI A) (nI A, nI (kz_rk A 16385), ai, al) := ⟨A, ai, al, hA, rfl, rfl, hv, hT⟩
  unfold wpX_times
  rcases kp_el (nI A) (nI (kz_rk A 16385)) ai al v1 with ⟨a, ha, rfl, gxa, gya⟩ | ⟨hX, hY⟩
  · refine gxa _ (br_f (by decide) ?_)
    rcases kp_el (nI A) (nI (kz_rk A 16385)) ai al v2 with ⟨b, hb, rfl, gxb, gyb⟩ | ⟨hX, hY⟩
    · refine gxb _ (br_f (by decide) ?_)
      refine kx_prod ha hb ?_
      unfold wpY_times
      dsimp only
      refine gya _ (br_f (by decide) ?_)
      refine gyb _ (br_f (by decide) ?_)
      exact ky_pr a b rfl rfl ha hb ⟨rfl, J⟩
    · refine hX _ (br_t (by decide) ?_)
      unfold wpY_times
      dsimp only
      refine gya _ (br_f (by decide) ?_)
      exact hY _ (br_t (by decide) ⟨rfl, J⟩)
  · refine hX _ (br_t (by decide) ?_)
    unfold wpY_times
    dsimp only
    exact hY _ (br_t (by decide) ⟨rfl, J⟩)
theorem i_vc_over {k : Nat} {u : SX} {v : SY} (I : i_Rel k u v) (hk : k + 5 ≤ 2561) (v1 : Int32) (v2 : Int32) : wpX_over (fun r => wpY_over (fun r' => r' = r ∧ i_Rel (k + 5) u v) v v1 v2) u v1 v2 := by
  obtain ⟨A, ai, al, hA, rfl, rfl, hv, hT⟩ := I
  have J : i_Rel (k + 5) (nI A) (nI A, nI (kz_rk A 16385), ai, al) := ⟨A, ai, al, hA, rfl, rfl, hv, hT⟩
  unfold wpX_over
  rcases kp_el (nI A) (nI (kz_rk A 16385)) ai al v1 with ⟨a, ha, rfl, gxa, gya⟩ | ⟨hX, hY⟩
  · refine gxa _ (br_f (by decide) ?_)
    rcases kp_el (nI A) (nI (kz_rk A 16385)) ai al v2 with ⟨b, hb, rfl, gxb, gyb⟩ | ⟨hX, hY⟩
    · refine gxb _ (br_f (by decide) ?_)
      refine pk_eq b 0 (fun z => ?_) (fun z => ?_)
      · unfold wpY_over
        dsimp only
        refine gya _ (br_f (by decide) ?_)
        refine gyb _ (br_f (by decide) ?_)
        exact br_t (by rw [z]; rfl) ⟨rfl, J⟩
      · refine kx_qu a b rfl rfl ha (by omega) hb ?_
        unfold wpY_over
        dsimp only
        refine gya _ (br_f (by decide) ?_)
        refine gyb _ (br_f (by decide) ?_)
        refine br_f (nI_ne0 (by omega) (by omega)) ?_
        exact ky_qu hv a b rfl rfl ha hb ⟨rfl, J⟩
    · refine hX _ (br_t (by decide) ?_)
      unfold wpY_over
      dsimp only
      refine gya _ (br_f (by decide) ?_)
      exact hY _ (br_t (by decide) ⟨rfl, J⟩)
  · refine hX _ (br_t (by decide) ?_)
    unfold wpY_over
    dsimp only
    exact hY _ (br_t (by decide) ⟨rfl, J⟩)
theorem i_vc_isPoint {k : Nat} {u : SX} {v : SY} (I : i_Rel k u v) (hk : k + 5 ≤ 2561) (v1 : Int32) : wpX_isPoint (fun r => wpY_isPoint (fun r' => r' = r ∧ i_Rel (k + 5) u v) v v1) u v1 := by
  obtain ⟨A, ai, al, hA, rfl, rfl, hv, hT⟩ := I
  have J : i_Rel (k + 5) (nI A) (nI A, nI (kz_rk A 16385), ai, al) := ⟨A, ai, al, hA, rfl, rfl, hv, hT⟩
  rcases kp_pt hA (nI (kz_rk A 16385)) ai al v1 with ⟨p, hp, rfl⟩ | ⟨hX, hY⟩
  · exact kx_isP1 hA hp (ky_isP1 hA hp ⟨rfl, J⟩)
  · exact hX _ (hY _ ⟨rfl, J⟩)
theorem i_vc_points {k : Nat} {u : SX} {v : SY} (I : i_Rel k u v) (hk : k + 5 ≤ 2561) : wpX_points (fun r => wpY_points (fun r' => r' = r ∧ i_Rel (k + 5) u v) v) u := by
  obtain ⟨A, ai, al, hA, rfl, rfl, hv, hT⟩ := I
  have J : i_Rel (k + 5) (nI A) (nI A, nI (kz_rk A 16385), ai, al) := ⟨A, ai, al, hA, rfl, rfl, hv, hT⟩
  exact kr_points hA ⟨rfl, J⟩
theorem i_vc_next {k : Nat} {u : SX} {v : SY} (I : i_Rel k u v) (hk : k + 5 ≤ 2561) (v1 : Int32) : wpX_next (fun r => wpY_next (fun r' => r' = r ∧ i_Rel (k + 5) u v) v v1) u v1 := by
  obtain ⟨A, ai, al, hA, rfl, rfl, hv, hT⟩ := I
  have J : i_Rel (k + 5) (nI A) (nI A, nI (kz_rk A 16385), ai, al) := ⟨A, ai, al, hA, rfl, rfl, hv, hT⟩
  have hY : ∀ (post : Int32 → Prop) (n : Nat), wY_next_2 post v1 (nI A) (nI (kz_rk A 16385)) ai al n (nI (kz_rk A 0)) → wpY_next post (nI A, nI (kz_rk A 16385), ai, al) v1 := fun post n h => ⟨n, h⟩
  unfold wpX_next
  refine br_c (fun h0 => ?_) (fun h0 => ?_)
  · obtain ⟨j, hj, rfl⟩ := nI_of (x := v1) (Int32.not_lt.mpr h0)
    rcases Nat.lt_or_ge 16384 j with z | z
    · refine ⟨1, br_t (nI_lt (a := 16384) z hj) ?_⟩
      obtain ⟨r, hX, hN⟩ := kr_next (ai := ai) (s := 16385) (v := nI j) hA hT (fun q h1 h2 => absurd h1 (by omega)) 0 16385 (Nat.le_refl _) rfl
      have e : r = -4 := (hX (fun t => t = -4 → r = -4) (fun w => w)).1 (by decide) rfl
      refine hY _ _ (kr_skip hA hT 16385 0 (Nat.le_refl _) (fun r hr => nI_lt (by omega) hj) (fun n hn => hN _ n hn ⟨e, J⟩) 16386 (by omega))
    · obtain ⟨r, hX, hN⟩ := kr_next (ai := ai) (s := j) (v := nI j) hA hT (fun q h1 h2 => nI_nlt h1 (by omega)) (16385 - j) j (Nat.le_refl _) (by omega)
      refine ⟨_, hX _ ?_⟩
      refine hY _ _ (kr_skip hA hT j (16385 - j) (by omega) (fun r hr => nI_lt (by omega) hj) (fun n hn => hN _ n hn ⟨rfl, J⟩) 16386 (by omega))
  · have hs : ∀ q, 0 ≤ q → q ≤ 16384 → ¬ nI q < v1 := by
      intro q h1 h2
      have e := nI_toInt (n := q) (by omega)
      rw [Int32.lt_iff_toInt_lt]
      rw [Int32.le_iff_toInt_le, show (0 : Int32).toInt = 0 from by decide] at h0
      omega
    obtain ⟨r, hX, hN⟩ := kr_next (ai := ai) hA hT hs 16385 0 (Nat.le_refl _) rfl
    refine ⟨_, hX _ ?_⟩
    exact hY _ 16386 (hN _ 16386 (by omega) ⟨rfl, J⟩)
theorem i_vc_add {k : Nat} {u : SX} {v : SY} (I : i_Rel k u v) (hk : k + 5 ≤ 2561) (v1 : Int32) (v2 : Int32) : wpX_add (fun r => wpY_add (fun r' => r' = r ∧ i_Rel (k + 5) u v) v v1 v2) u v1 v2 := by
  obtain ⟨A, ai, al, hA, rfl, rfl, hv, hT⟩ := I
  have J : i_Rel (k + 5) (nI A) (nI A, nI (kz_rk A 16385), ai, al) := ⟨A, ai, al, hA, rfl, rfl, hv, hT⟩
  unfold wpX_add
  rcases kp_pt hA (nI (kz_rk A 16385)) ai al v1 with ⟨p, hp, rfl⟩ | ⟨hX, hY⟩
  · refine kx_isP1 hA hp (br_f (by decide) ?_)
    rcases kp_pt hA (nI (kz_rk A 16385)) ai al v2 with ⟨q, hq, rfl⟩ | ⟨hX, hY⟩
    · refine kx_isP1 hA hq (br_f (by decide) ?_)
      refine kx_sum hA hp hq ?_
      unfold wpY_add
      dsimp only
      refine ky_isP1 hA hp (br_f (by decide) ?_)
      refine ky_isP1 hA hq (br_f (by decide) ?_)
      exact ky_sum hv hA hp hq ⟨rfl, J⟩
    · refine hX _ (br_t (by decide) ?_)
      unfold wpY_add
      dsimp only
      refine ky_isP1 hA hp (br_f (by decide) ?_)
      exact hY _ (br_t (by decide) ⟨rfl, J⟩)
  · refine hX _ (br_t (by decide) ?_)
    unfold wpY_add
    dsimp only
    exact hY _ (br_t (by decide) ⟨rfl, J⟩)
theorem i_vc_negate {k : Nat} {u : SX} {v : SY} (I : i_Rel k u v) (hk : k + 5 ≤ 2561) (v1 : Int32) : wpX_negate (fun r => wpY_negate (fun r' => r' = r ∧ i_Rel (k + 5) u v) v v1) u v1 := by
  obtain ⟨A, ai, al, hA, rfl, rfl, hv, hT⟩ := I
  have J : i_Rel (k + 5) (nI A) (nI A, nI (kz_rk A 16385), ai, al) := ⟨A, ai, al, hA, rfl, rfl, hv, hT⟩
  unfold wpX_negate
  rcases kp_pt hA (nI (kz_rk A 16385)) ai al v1 with ⟨p, hp, rfl⟩ | ⟨hX, hY⟩
  · refine kx_isP1 hA hp (br_f (by decide) ?_)
    refine kx_neg (kz_ple hp) ?_
    unfold wpY_negate
    dsimp only
    refine ky_isP1 hA hp (br_f (by decide) ?_)
    exact ky_neg (kz_ple hp) ⟨rfl, J⟩
  · refine hX _ (br_t (by decide) ?_)
    unfold wpY_negate
    dsimp only
    exact hY _ (br_t (by decide) ⟨rfl, J⟩)
theorem i_vc_multiple {k : Nat} {u : SX} {v : SY} (I : i_Rel k u v) (hk : k + 5 ≤ 2561) (v1 : Int32) (v2 : Int32) : wpX_multiple (fun r => wpY_multiple (fun r' => r' = r ∧ i_Rel (k + 5) u v) v v1 v2) u v1 v2 := by
  obtain ⟨A, ai, al, hA, rfl, rfl, hv, hT⟩ := I
  have J : i_Rel (k + 5) (nI A) (nI A, nI (kz_rk A 16385), ai, al) := ⟨A, ai, al, hA, rfl, rfl, hv, hT⟩
  unfold wpX_multiple
  rcases kp_pt hA (nI (kz_rk A 16385)) ai al v2 with ⟨p, hp, rfl⟩ | ⟨hX, hY⟩
  · refine kx_isP1 hA hp (br_f (by decide) ?_)
    rcases kp_tm (nI A) (nI (kz_rk A 16385)) ai al v1 with ⟨D, hD, eD, fD, gxD, gyD⟩ | ⟨hX, hY⟩
    · refine gxD _ (br_f (by decide) ?_)
      obtain ⟨m, d, hc⟩ := kz_cyc hA hp
      refine kx_rep hA hc hD eD fD ?_
      unfold wpY_multiple
      dsimp only
      refine ky_isP1 hA hp (br_f (by decide) ?_)
      refine gyD _ (br_f (by decide) ?_)
      exact ky_many hv hA hc hD eD fD ⟨rfl, J⟩
    · refine hX _ (br_t (by decide) ?_)
      unfold wpY_multiple
      dsimp only
      refine ky_isP1 hA hp (br_f (by decide) ?_)
      exact hY _ (br_t (by decide) ⟨rfl, J⟩)
  · refine hX _ (br_t (by decide) ?_)
    unfold wpY_multiple
    dsimp only
    exact hY _ (br_t (by decide) ⟨rfl, J⟩)
theorem i_vc_combine {k : Nat} {u : SX} {v : SY} (I : i_Rel k u v) (hk : k + 5 ≤ 2561) (v1 : Int32) (v2 : Int32) (v3 : Int32) (v4 : Int32) : wpX_combine (fun r => wpY_combine (fun r' => r' = r ∧ i_Rel (k + 5) u v) v v1 v2 v3 v4) u v1 v2 v3 v4 := by
  obtain ⟨A, ai, al, hA, rfl, rfl, hv, hT⟩ := I
  have J : i_Rel (k + 5) (nI A) (nI A, nI (kz_rk A 16385), ai, al) := ⟨A, ai, al, hA, rfl, rfl, hv, hT⟩
  unfold wpX_combine
  rcases kp_pt hA (nI (kz_rk A 16385)) ai al v2 with ⟨p, hp, rfl⟩ | ⟨hX, hY⟩
  · refine kx_isP1 hA hp (br_f (by decide) ?_)
    rcases kp_pt hA (nI (kz_rk A 16385)) ai al v4 with ⟨q, hq, rfl⟩ | ⟨hX, hY⟩
    · refine kx_isP1 hA hq (br_f (by decide) ?_)
      rcases kp_tm (nI A) (nI (kz_rk A 16385)) ai al v1 with ⟨D, hD, eD, fD, gxD, gyD⟩ | ⟨hX, hY⟩
      · refine gxD _ (br_f (by decide) ?_)
        rcases kp_tm (nI A) (nI (kz_rk A 16385)) ai al v3 with ⟨E, hE, eE, fE, gxE, gyE⟩ | ⟨hX, hY⟩
        · refine gxE _ (br_f (by decide) ?_)
          obtain ⟨m, d, hc⟩ := kz_cyc hA hp
          obtain ⟨m2, d2, hc2⟩ := kz_cyc hA hq
          have hm := kz_Vp (k := v1) hA (hc.2.2.2.2.1 D)
          have hm2 := kz_Vp (k := v3) hA (hc2.2.2.2.2.1 E)
          refine kx_rep hA hc hD eD fD (kx_rep hA hc2 hE eE fE (kx_sum hA hm hm2 ?_))
          unfold wpY_combine
          dsimp only
          refine ky_isP1 hA hp (br_f (by decide) ?_)
          refine ky_isP1 hA hq (br_f (by decide) ?_)
          refine gyD _ (br_f (by decide) ?_)
          refine gyE _ (br_f (by decide) ?_)
          exact ky_many hv hA hc hD eD fD (ky_many hv hA hc2 hE eE fE (ky_sum hv hA hm hm2 ⟨rfl, J⟩))
        · refine hX _ (br_t (by decide) ?_)
          unfold wpY_combine
          dsimp only
          refine ky_isP1 hA hp (br_f (by decide) ?_)
          refine ky_isP1 hA hq (br_f (by decide) ?_)
          refine gyD _ (br_f (by decide) ?_)
          exact hY _ (br_t (by decide) ⟨rfl, J⟩)
      · refine hX _ (br_t (by decide) ?_)
        unfold wpY_combine
        dsimp only
        refine ky_isP1 hA hp (br_f (by decide) ?_)
        refine ky_isP1 hA hq (br_f (by decide) ?_)
        exact hY _ (br_t (by decide) ⟨rfl, J⟩)
    · refine hX _ (br_t (by decide) ?_)
      unfold wpY_combine
      dsimp only
      refine ky_isP1 hA hp (br_f (by decide) ?_)
      exact hY _ (br_t (by decide) ⟨rfl, J⟩)
  · refine hX _ (br_t (by decide) ?_)
    unfold wpY_combine
    dsimp only
    exact hY _ (br_t (by decide) ⟨rfl, J⟩)
theorem i_vc_order {k : Nat} {u : SX} {v : SY} (I : i_Rel k u v) (hk : k + 5 ≤ 2561) (v1 : Int32) : wpX_order (fun r => wpY_order (fun r' => r' = r ∧ i_Rel (k + 5) u v) v v1) u v1 := by
  obtain ⟨A, ai, al, hA, rfl, rfl, hv, hT⟩ := I
  have J : i_Rel (k + 5) (nI A) (nI A, nI (kz_rk A 16385), ai, al) := ⟨A, ai, al, hA, rfl, rfl, hv, hT⟩
  unfold wpX_order
  rcases kp_pt hA (nI (kz_rk A 16385)) ai al v1 with ⟨p, hp, rfl⟩ | ⟨hX, hY⟩
  · refine kx_isP1 hA hp (br_f (by decide) ?_)
    obtain ⟨m, d, hc⟩ := kz_cyc hA hp
    refine kx_ord hA hc ?_
    unfold wpY_order
    dsimp only
    refine ky_isP1 hA hp (br_f (by decide) ?_)
    exact ky_ord hv hA hc ⟨rfl, J⟩
  · refine hX _ (br_t (by decide) ?_)
    unfold wpY_order
    dsimp only
    exact hY _ (br_t (by decide) ⟨rfl, J⟩)
theorem i_vc_half {k : Nat} {u : SX} {v : SY} (I : i_Rel k u v) (hk : k + 5 ≤ 2561) (v1 : Int32) : wpX_half (fun r => wpY_half (fun r' => r' = r ∧ i_Rel (k + 5) u v) v v1) u v1 := by
  obtain ⟨A, ai, al, hA, rfl, rfl, hv, hT⟩ := I
  have J : i_Rel (k + 5) (nI A) (nI A, nI (kz_rk A 16385), ai, al) := ⟨A, ai, al, hA, rfl, rfl, hv, hT⟩
  unfold wpX_half
  rcases kp_pt hA (nI (kz_rk A 16385)) ai al v1 with ⟨p, hp, rfl⟩ | ⟨hX, hY⟩
  · refine kx_isP1 hA hp (br_f (by decide) ?_)
    obtain ⟨r, hX, hY⟩ := kr_half hv hA (kz_ple hp) hT 16385 0 rfl
    refine ⟨_, hX _ ?_⟩
    unfold wpY_half
    dsimp only
    refine ky_isP1 hA hp (br_f (by decide) ?_)
    exact ⟨16386, hY _ 16386 (by omega) ⟨rfl, J⟩⟩
  · refine hX _ (br_t (by decide) ?_)
    unfold wpY_half
    dsimp only
    exact hY _ (br_t (by decide) ⟨rfl, J⟩)
theorem i_vc_halves {k : Nat} {u : SX} {v : SY} (I : i_Rel k u v) (hk : k + 5 ≤ 2561) (v1 : Int32) : wpX_halves (fun r => wpY_halves (fun r' => r' = r ∧ i_Rel (k + 5) u v) v v1) u v1 := by
  obtain ⟨A, ai, al, hA, rfl, rfl, hv, hT⟩ := I
  have J : i_Rel (k + 5) (nI A) (nI A, nI (kz_rk A 16385), ai, al) := ⟨A, ai, al, hA, rfl, rfl, hv, hT⟩
  unfold wpX_halves
  rcases kp_pt hA (nI (kz_rk A 16385)) ai al v1 with ⟨p, hp, rfl⟩ | ⟨hX, hY⟩
  · refine kx_isP1 hA hp (br_f (by decide) ?_)
    obtain ⟨r, hX, hY⟩ := kr_halves hv hA (kz_ple hp) hT 16385 0 0 rfl
    refine ⟨_, hX _ ?_⟩
    unfold wpY_halves
    dsimp only
    refine ky_isP1 hA hp (br_f (by decide) ?_)
    exact ⟨16386, hY _ 16386 (by omega) ⟨rfl, J⟩⟩
  · refine hX _ (br_t (by decide) ?_)
    unfold wpY_halves
    dsimp only
    exact hY _ (br_t (by decide) ⟨rfl, J⟩)
theorem i_vc_square {k : Nat} {u : SX} {v : SY} (I : i_Rel k u v) (hk : k + 5 ≤ 2561) (v1 : Int32) : wpX_square (fun r => wpY_square (fun r' => r' = r ∧ i_Rel (k + 5) u v) v v1) u v1 := by
  obtain ⟨A, ai, al, hA, rfl, rfl, hv, hT⟩ := I
  have J : i_Rel (k + 5) (nI A) (nI A, nI (kz_rk A 16385), ai, al) := ⟨A, ai, al, hA, rfl, rfl, hv, hT⟩
  unfold wpX_square
  rcases kp_pt hA (nI (kz_rk A 16385)) ai al v1 with ⟨p, hp, rfl⟩ | ⟨hX, hY⟩
  · refine kx_isP1 hA hp (br_f (by decide) ?_)
    have lp := kz_ple hp
    refine pk_eq p 16384 (fun e => ?_) (fun e => ?_)
    · unfold wpY_square
      dsimp only
      refine ky_isP1 hA hp (br_f (by decide) ?_)
      refine ⟨by decide, nm_r (pk_div (a := p) (d := 128) (by omega) (by decide) (by decide)) ?_⟩
      refine ⟨by decide, nm_r (pk_rem (a := p) (d := 128) (by omega) (by decide) (by decide)) ?_⟩
      exact br_t (by rw [e]; rfl) ⟨rfl, J⟩
    · have hx : p / 128 < 128 := by omega
      have hy : p % 128 < 128 := by omega
      refine kx_xOf lp (kx_yOf lp (kx_prod hx hx (kx_prod hy hy (kx_pO _ _ rfl rfl ?_))))
      unfold wpY_square
      dsimp only
      refine ky_isP1 hA hp (br_f (by decide) ?_)
      refine ⟨by decide, nm_r (pk_div (a := p) (d := 128) (by omega) (by decide) (by decide)) ?_⟩
      refine ⟨by decide, nm_r (pk_rem (a := p) (d := 128) (by omega) (by decide) (by decide)) ?_⟩
      refine br_f (kz_ne (b := 16384) lp (by decide) e) ?_
      refine ky_pr _ _ rfl rfl hx hx (ky_pr _ _ rfl rfl hy hy ⟨ky_pO _ _ rfl, J⟩)
  · refine hX _ (br_t (by decide) ?_)
    unfold wpY_square
    dsimp only
    exact hY _ (br_t (by decide) ⟨rfl, J⟩)
theorem i_vc_log {k : Nat} {u : SX} {v : SY} (I : i_Rel k u v) (hk : k + 5 ≤ 2561) (v1 : Int32) (v2 : Int32) : wpX_log (fun r => wpY_log (fun r' => r' = r ∧ i_Rel (k + 5) u v) v v1 v2) u v1 v2 := by
  obtain ⟨A, ai, al, hA, rfl, rfl, hv, hT⟩ := I
  have J : i_Rel (k + 5) (nI A) (nI A, nI (kz_rk A 16385), ai, al) := ⟨A, ai, al, hA, rfl, rfl, hv, hT⟩
  unfold wpX_log
  rcases kp_pt hA (nI (kz_rk A 16385)) ai al v1 with ⟨p, hp, rfl⟩ | ⟨hX, hY⟩
  · refine kx_isP1 hA hp (br_f (by decide) ?_)
    rcases kp_pt hA (nI (kz_rk A 16385)) ai al v2 with ⟨q, hq, rfl⟩ | ⟨hX, hY⟩
    · refine kx_isP1 hA hq (br_f (by decide) ?_)
      obtain ⟨m, d, hc⟩ := kz_cyc hA hp
      obtain ⟨r, hX, hY⟩ := kl_log (fc := nI (kz_rk A 16385)) (al := al) hv hA (kz_ple hq) hc
      refine hX _ ?_
      unfold wpY_log
      dsimp only
      refine ky_isP1 hA hp (br_f (by decide) ?_)
      refine ky_isP1 hA hq (br_f (by decide) ?_)
      exact ky_ord hv hA hc (hY _ ⟨rfl, J⟩)
    · refine hX _ (br_t (by decide) ?_)
      unfold wpY_log
      dsimp only
      refine ky_isP1 hA hp (br_f (by decide) ?_)
      exact hY _ (br_t (by decide) ⟨rfl, J⟩)
  · refine hX _ (br_t (by decide) ?_)
    unfold wpY_log
    dsimp only
    exact hY _ (br_t (by decide) ⟨rfl, J⟩)
