/-! the walks over all numbers, and over the list -/
theorem kr_points {post : Int32 → Prop} {A : Nat} (hA : A < 2) (h : post (nI (kz_rk A 16385))) : wpX_points post (nI A) := by
  have key : ∀ e q, q + e = 16385 → wX_points_4 post (nI A) (e + 1) (nI (kz_rk A q)) (nI q) := by
    intro e
    induction e with
    | zero =>
      intro q hq
      rw [show q = 16385 from by omega]
      exact br_t (by decide) h
    | succ e ih =>
      intro q hq
      have k := ih (q + 1) (by omega)
      refine br_f (nI_nlt (a := 16384) (by omega) (by decide)) ?_
      cases z : kz_pt A q with
      | true =>
        rw [kz_rkt z] at k
        exact kx_isP1 hA z (br_f (by decide) (nm_r (nI_1 _) (nm_r (nI_1 q) k)))
      | false =>
        rw [kz_rkf z] at k
        exact kx_isP0 hA (by omega) z (br_t (by decide) (nm_r (nI_1 q) k))
  exact ⟨_, key 16385 0 rfl⟩
theorem kr_next {ai al : Nat → Int32} {A s : Nat} {v : Int32} (hA : A < 2) (hT : kq_T A 16385 al) (hs : ∀ q, s ≤ q → q ≤ 16384 → ¬ nI q < v) : ∀ e q, s ≤ q → q + e = 16385 → ∃ r : Int32, (∀ post : Int32 → Prop, post r → wX_next_12 post (nI A) (e + 1) (nI q)) ∧ (∀ (post : Int32 → Prop) (n : Nat), e < n → post r → wY_next_2 post v (nI A) (nI (kz_rk A 16385)) ai al n (nI (kz_rk A q))) := by
  intro e
  induction e with
  | zero =>
    intro q h1 hq
    rw [show q = 16385 from by omega]
    refine ⟨-4, fun post h => br_t (by decide) h, fun post n hn h => ?_⟩
    obtain ⟨n', rfl⟩ : ∃ n', n = n' + 1 := ⟨n - 1, by omega⟩
    have := kz_rkl2 (q := 16385) hA (Nat.le_refl _)
    exact br_t (nI_le (Nat.le_refl _) (by omega)) h
  | succ e ih =>
    intro q h1 hq
    have b1 : ¬ (16384 : Int32) < nI q := nI_nlt (a := 16384) (by omega) (by decide)
    cases z : kz_pt A q with
    | true =>
      have l1 := kz_rkl2 (q := 16385) hA (Nat.le_refl _)
      have l2 := kz_rkp (by omega) z
      refine ⟨nI q, fun post h => br_f b1 (kx_isP1 hA z (br_f (by decide) h)), fun post n hn h => ?_⟩
      obtain ⟨n', rfl⟩ : ∃ n', n = n' + 1 := ⟨n - 1, by omega⟩
      refine br_f (nI_ge l2 (by omega)) ?_
      have hi : vp_in (nI (kz_rk A q)) 300 := vp_in_nI (by omega) (by decide)
      refine ⟨hi, ?_⟩
      rw [nI_clamp (by omega), hT q (by omega) z]
      exact br_f (hs q h1 (by omega)) ⟨hi, h⟩
    | false =>
      obtain ⟨r, hX, hY⟩ := ih (q + 1) (by omega) (by omega)
      rw [kz_rkf z] at hY
      refine ⟨r, fun post h => br_f b1 (kx_isP0 hA (by omega) z (br_t (by decide) (nm_r (nI_1 q) (hX post h)))), fun post n hn h => hY post n (by omega) h⟩
theorem kr_skip {post : Int32 → Prop} {ai al : Nat → Int32} {A : Nat} {v : Int32} (hA : A < 2) (hT : kq_T A 16385 al) : ∀ q N : Nat, q ≤ 16385 → (∀ r, r < q → nI r < v) → (∀ n, N < n → wY_next_2 post v (nI A) (nI (kz_rk A 16385)) ai al n (nI (kz_rk A q))) → ∀ n, N + q < n → wY_next_2 post v (nI A) (nI (kz_rk A 16385)) ai al n (nI (kz_rk A 0)) := by
  intro q
  induction q with
  | zero => intro N _ _ h n hn; exact h n (by omega)
  | succ q ih =>
    intro N hq hr h n hn
    refine ih (N + 1) (by omega) (fun r hr' => hr r (by omega)) (fun n hn => ?_) n (by omega)
    cases z : kz_pt A q with
    | true =>
      have l1 := kz_rkl2 (q := 16385) hA (Nat.le_refl _)
      have l2 := kz_rkp (by omega) z
      obtain ⟨n', rfl⟩ : ∃ n', n = n' + 1 := ⟨n - 1, by omega⟩
      have k := h n' (by omega)
      rw [kz_rkt z] at k
      refine br_f (nI_ge l2 (by omega)) ?_
      have hi : vp_in (nI (kz_rk A q)) 300 := vp_in_nI (by omega) (by decide)
      refine ⟨hi, ?_⟩
      rw [nI_clamp (by omega), hT q (by omega) z]
      exact br_t (hr q (by omega)) (nm_r (nI_1 _) k)
    | false =>
      rw [← kz_rkf z]; exact h n (by omega)
theorem kr_isH1 {post : Int32 → Prop} {A q p : Nat} (hA : A < 2) (hq : kz_pt A q = true) (e : kz_S A q q = p) (h : post 1) : wpX_isHalf post (nI A) (nI q) (nI p) := by
  unfold wpX_isHalf
  refine kx_isP1 hA hq (br_f (by decide) (kx_sum hA hq hq ?_))
  exact br_t (by rw [e]) h
theorem kr_isH0 {post : Int32 → Prop} {A q p : Nat} (hA : A < 2) (hp : p ≤ 16384) (hq : kz_pt A q = true) (e : kz_S A q q ≠ p) (h : post 0) : wpX_isHalf post (nI A) (nI q) (nI p) := by
  unfold wpX_isHalf
  refine kx_isP1 hA hq (br_f (by decide) (kx_sum hA hq hq ?_))
  exact br_f (kz_ne (kz_ple (kz_Spt hA hq hq)) hp e) h
theorem kr_isHn {post : Int32 → Prop} {A q p : Nat} (hA : A < 2) (hl : q ≤ 16384) (hq : kz_pt A q = false) (h : post 0) : wpX_isHalf post (nI A) (nI q) (nI p) := by
  unfold wpX_isHalf
  exact kx_isP0 hA hl hq (br_t (by decide) h)
theorem kr_half {ai al : Nat → Int32} (hv : ∀ j, j < 128 → ai j = nI (kz_iv j)) {A p : Nat} (hA : A < 2) (hp : p ≤ 16384) (hT : kq_T A 16385 al) : ∀ e q, q + e = 16385 → ∃ r : Int32, (∀ post : Int32 → Prop, post r → wX_half_12 post (nI p) (nI A) (e + 1) (nI q)) ∧ (∀ (post : Int32 → Prop) (n : Nat), e < n → post r → wY_half_12 post (nI p) (nI A) (nI (kz_rk A 16385)) ai al n (nI (kz_rk A q))) := by
  intro e
  induction e with
  | zero =>
    intro q hq
    rw [show q = 16385 from by omega]
    refine ⟨-4, fun post h => br_t (by decide) h, fun post n hn h => ?_⟩
    obtain ⟨n', rfl⟩ : ∃ n', n = n' + 1 := ⟨n - 1, by omega⟩
    have := kz_rkl2 (q := 16385) hA (Nat.le_refl _)
    exact br_t (nI_le (Nat.le_refl _) (by omega)) h
  | succ e ih =>
    intro q hq
    have b1 : ¬ (16384 : Int32) < nI q := nI_nlt (a := 16384) (by omega) (by decide)
    obtain ⟨r, hX, hY⟩ := ih (q + 1) (by omega)
    cases z : kz_pt A q with
    | true =>
      have l1 := kz_rkl2 (q := 16385) hA (Nat.le_refl _)
      have l2 := kz_rkp (by omega) z
      have hi : vp_in (nI (kz_rk A q)) 300 := vp_in_nI (by omega) (by decide)
      rw [kz_rkt z] at hY
      by_cases w : kz_S A q q = p
      · refine ⟨nI q, fun post h => br_f b1 (kr_isH1 hA z w (br_f (by decide) h)), fun post n hn h => ?_⟩
        obtain ⟨n', rfl⟩ : ∃ n', n = n' + 1 := ⟨n - 1, by omega⟩
        refine br_f (nI_ge l2 (by omega)) ⟨hi, hi, ?_⟩
        rw [nI_clamp (by omega), hT q (by omega) z]
        refine ky_sum hv hA z z ?_
        exact br_t (by rw [w]) ⟨hi, h⟩
      · refine ⟨r, fun post h => br_f b1 (kr_isH0 hA hp z w (br_t (by decide) (nm_r (nI_1 q) (hX post h)))), fun post n hn h => ?_⟩
        obtain ⟨n', rfl⟩ : ∃ n', n = n' + 1 := ⟨n - 1, by omega⟩
        refine br_f (nI_ge l2 (by omega)) ⟨hi, hi, ?_⟩
        rw [nI_clamp (by omega), hT q (by omega) z]
        refine ky_sum hv hA z z ?_
        exact br_f (kz_ne (kz_ple (kz_Spt hA z z)) hp w) (nm_r (nI_1 _) (hY post n' (by omega) h))
    | false =>
      rw [kz_rkf z] at hY
      exact ⟨r, fun post h => br_f b1 (kr_isHn hA (by omega) z (br_t (by decide) (nm_r (nI_1 q) (hX post h)))), fun post n hn h => hY post n (by omega) h⟩
theorem kr_halves {ai al : Nat → Int32} (hv : ∀ j, j < 128 → ai j = nI (kz_iv j)) {A p : Nat} (hA : A < 2) (hp : p ≤ 16384) (hT : kq_T A 16385 al) : ∀ (e q : Nat) (c : Int32), q + e = 16385 → ∃ r : Int32, (∀ post : Int32 → Prop, post r → wX_halves_14 post (nI p) (nI A) (e + 1) c (nI q)) ∧ (∀ (post : Int32 → Prop) (n : Nat), e < n → post r → wY_halves_14 post (nI p) (nI A) (nI (kz_rk A 16385)) ai al n c (nI (kz_rk A q))) := by
  intro e
  induction e with
  | zero =>
    intro q c hq
    rw [show q = 16385 from by omega]
    refine ⟨c, fun post h => br_t (by decide) h, fun post n hn h => ?_⟩
    obtain ⟨n', rfl⟩ : ∃ n', n = n' + 1 := ⟨n - 1, by omega⟩
    have := kz_rkl2 (q := 16385) hA (Nat.le_refl _)
    exact br_t (nI_le (Nat.le_refl _) (by omega)) h
  | succ e ih =>
    intro q c hq
    have b1 : ¬ (16384 : Int32) < nI q := nI_nlt (a := 16384) (by omega) (by decide)
    cases z : kz_pt A q with
    | true =>
      have l1 := kz_rkl2 (q := 16385) hA (Nat.le_refl _)
      have l2 := kz_rkp (by omega) z
      have hi : vp_in (nI (kz_rk A q)) 300 := vp_in_nI (by omega) (by decide)
      by_cases w : kz_S A q q = p
      · obtain ⟨r, hX, hY⟩ := ih (q + 1) (c + 1) (by omega)
        rw [kz_rkt z] at hY
        refine ⟨r, fun post h => br_f b1 (kr_isH1 hA z w (br_f (by decide) (nm_e (nm_r (nI_1 q) (hX post h))))), fun post n hn h => ?_⟩
        obtain ⟨n', rfl⟩ : ∃ n', n = n' + 1 := ⟨n - 1, by omega⟩
        refine br_f (nI_ge l2 (by omega)) ⟨hi, hi, ?_⟩
        rw [nI_clamp (by omega), hT q (by omega) z]
        refine ky_sum hv hA z z ?_
        exact br_t (by rw [w]) (nm_e (nm_r (nI_1 _) (hY post n' (by omega) h)))
      · obtain ⟨r, hX, hY⟩ := ih (q + 1) c (by omega)
        rw [kz_rkt z] at hY
        refine ⟨r, fun post h => br_f b1 (kr_isH0 hA hp z w (br_t (by decide) (nm_r (nI_1 q) (hX post h)))), fun post n hn h => ?_⟩
        obtain ⟨n', rfl⟩ : ∃ n', n = n' + 1 := ⟨n - 1, by omega⟩
        refine br_f (nI_ge l2 (by omega)) ⟨hi, hi, ?_⟩
        rw [nI_clamp (by omega), hT q (by omega) z]
        refine ky_sum hv hA z z ?_
        exact br_f (kz_ne (kz_ple (kz_Spt hA z z)) hp w) (nm_r (nI_1 _) (hY post n' (by omega) h))
    | false =>
      obtain ⟨r, hX, hY⟩ := ih (q + 1) c (by omega)
      rw [kz_rkf z] at hY
      exact ⟨r, fun post h => br_f b1 (kr_isHn hA (by omega) z (br_t (by decide) (nm_r (nI_1 q) (hX post h)))), fun post n hn h => hY post n (by omega) h⟩
/-! guards -/
theorem kp_pt {A : Nat} (hA : A < 2) (fc : Int32) (ai al : Nat → Int32) (v : Int32) : (∃ p, kz_pt A p = true ∧ v = nI p) ∨ ((∀ post : Int32 → Prop, post 0 → wpX_isPoint post (nI A) v) ∧ (∀ post : Int32 → Prop, post 0 → wpY_isPoint post (nI A, fc, ai, al) v)) := by
  by_cases h0 : v < 0
  · refine Or.inr ⟨fun post h => br_t h0 h, fun post h => br_f ?_ (br_t h0 h)⟩
    intro e; rw [e] at h0; exact absurd h0 (by decide)
  · obtain ⟨j, hj, rfl⟩ := nI_of h0
    rcases Nat.lt_or_ge 16384 j with z | z
    · refine Or.inr ⟨fun post h => br_f h0 (br_f (nI_ge (a := 16384) z (by omega)) h), fun post h => br_f ?_ (br_f h0 (br_t (nI_le (a := 16384) (by omega) (by omega)) h))⟩
      intro e
      have := (nI_eq (b := 16384) hj (by decide)).mp e
      omega
    · cases w : kz_pt A j with
      | true => exact Or.inl ⟨j, w, rfl⟩
      | false => exact Or.inr ⟨fun post h => kx_isP0 hA z w h, fun post h => ky_isP0 hA z w h⟩
theorem kp_el (fa fc : Int32) (ai al : Nat → Int32) (v : Int32) : (∃ a, a < 128 ∧ v = nI a ∧ (∀ post : Int32 → Prop, post 1 → wpX_isElement post v) ∧ (∀ post : Int32 → Prop, post 1 → wpY_isElement post (fa, fc, ai, al) v)) ∨ ((∀ post : Int32 → Prop, post 0 → wpX_isElement post v) ∧ (∀ post : Int32 → Prop, post 0 → wpY_isElement post (fa, fc, ai, al) v)) := by
  by_cases h0 : v < 0
  · exact Or.inr ⟨fun post h => br_t h0 h, fun post h => br_t h0 h⟩
  · obtain ⟨j, hj, rfl⟩ := nI_of h0
    rcases Nat.lt_or_ge j 128 with z | z
    · exact Or.inl ⟨j, z, rfl, fun post h => br_f h0 (br_f (nI_ge (b := 128) z (by decide)) h), fun post h => br_f h0 (br_f (nI_nlt (a := 127) (by omega) (by decide)) h)⟩
    · exact Or.inr ⟨fun post h => br_f h0 (br_t (nI_le (a := 128) z hj) h), fun post h => br_f h0 (br_t (nI_lt (a := 127) (by omega) hj) h)⟩
theorem kp_tm (fa fc : Int32) (ai al : Nat → Int32) (v : Int32) : (∃ D, D ≤ 1000000 ∧ (0 ≤ v → v = nI D) ∧ (¬ 0 ≤ v → -v = nI D) ∧ (∀ post : Int32 → Prop, post 1 → wpX_isTimes post v) ∧ (∀ post : Int32 → Prop, post 1 → wpY_isFactor post (fa, fc, ai, al) v)) ∨ ((∀ post : Int32 → Prop, post 0 → wpX_isTimes post v) ∧ (∀ post : Int32 → Prop, post 0 → wpY_isFactor post (fa, fc, ai, al) v)) := by
  by_cases h1 : v < (-1000000)
  · exact Or.inr ⟨fun post h => br_t h1 h, fun post h => br_t h1 h⟩
  by_cases h2 : 1000000 < v
  · exact Or.inr ⟨fun post h => br_f h1 (br_t h2 h), fun post h => br_f h1 (br_t h2 h)⟩
  refine Or.inl ?_
  have w1 : ¬ v.toInt < -1000000 := by
    intro z; exact h1 (Int32.lt_iff_toInt_lt.mpr (by rw [show (-1000000 : Int32).toInt = -1000000 from by decide]; exact z))
  have w2 : ¬ 1000000 < v.toInt := by
    intro z; exact h2 (Int32.lt_iff_toInt_lt.mpr (by rw [show (1000000 : Int32).toInt = 1000000 from by decide]; exact z))
  refine ⟨v.toInt.natAbs, by omega, fun z => ?_, fun z => ?_, fun post h => br_f h1 (br_f h2 h), fun post h => br_f h1 (br_f h2 h)⟩
  · rw [Int32.le_iff_toInt_le, show (0 : Int32).toInt = 0 from by decide] at z
    apply Int32.toInt_inj.mp
    rw [nI_toInt (by omega)]
    omega
  · rw [Int32.le_iff_toInt_le, show (0 : Int32).toInt = 0 from by decide] at z
    apply Int32.toInt_inj.mp
    rw [nI_toInt (by omega), Int32.toInt_neg, Int.bmod_eq_of_le (by omega) (by omega)]
    omega
