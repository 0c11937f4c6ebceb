/-! the loops of both sides -/
def kz_Cy (A p : Nat) (m : Nat → Nat) (d : Nat) : Prop := 1 ≤ d ∧ d ≤ 142 ∧ m 0 = 16384 ∧ m 1 = p ∧ (∀ k, kz_pt A (m k) = true) ∧ (∀ k l, kz_S A (m k) (m l) = m (k + l)) ∧ m d = 16384 ∧ (∀ k, 1 ≤ k → k < d → m k ≠ 16384) ∧ (∀ k, m (k % d) = m k)
def kz_V (k : Int32) (x : Nat) : Nat := if 0 ≤ k then x else kz_ng x
theorem kz_Vp {A x : Nat} {k : Int32} (hA : A < 2) (h : kz_pt A x = true) : kz_pt A (kz_V k x) = true := by
  unfold kz_V
  by_cases z : 0 ≤ k
  · rw [if_pos z]; exact h
  · rw [if_neg z]; exact kz_ngp hA h
theorem kz_ne {a b : Nat} (ha : a ≤ 16384) (hb : b ≤ 16384) (h : a ≠ b) : ¬ nI a = nI b := fun z => h ((nI_eq (by omega) (by omega)).mp z)
theorem kx_r22 {post : Int32 → Prop} {A D : Nat} {x1 : Int32} {m : Nat → Nat} (hA : A < 2) (hD : D < 2 ^ 20) (hp : ∀ k, kz_pt A (m k) = true) (hS : ∀ k l, kz_S A (m k) (m l) = m (k + l)) (h : post (nI (kz_V x1 (m D)))) : ∀ d i, i + d = 20 → wX_repeated_22 post x1 (nI D) (nI A) (d + 1) (nI (m (D % 2 ^ i))) (nI (m (2 ^ i))) (nI i) := by
  intro d
  induction d with
  | zero =>
    intro i hi
    rw [show i = 20 from by omega, Nat.mod_eq_of_lt hD]
    refine br_t (by decide) ?_
    unfold kz_V at h
    refine br_c (fun z => ?_) (fun z => ?_)
    · rw [if_pos z] at h; exact h
    · rw [if_neg z] at h; exact kx_neg (kz_ple (hp _)) h
  | succ d ih =>
    intro i hi
    have k := ih (i + 1) (by omega)
    rw [Nat.mod_pow_succ] at k
    have e2 : kz_S A (m (2 ^ i)) (m (2 ^ i)) = m (2 ^ (i + 1)) := by
      rw [hS, Nat.pow_succ, Nat.mul_two]
    refine br_f (nI_ge (b := 20) (by omega) (by decide)) ?_
    refine pk_eq (D / 2 ^ i % 2) 1 (fun h1 => ?_) (fun h0 => ?_) (kx_bit (by omega) (by omega)) rfl (by omega) (by omega)
    · rw [h1, Nat.mul_one, ← hS] at k
      refine kx_sum hA (hp _) (hp _) ?_
      unfold wX_repeated_49
      refine kx_sum hA (hp _) (hp _) (nm_r (nI_1 i) ?_)
      rw [e2]; exact k
    · rw [show D / 2 ^ i % 2 = 0 from by omega, Nat.mul_zero, Nat.add_zero] at k
      unfold wX_repeated_49
      refine kx_sum hA (hp _) (hp _) (nm_r (nI_1 i) ?_)
      rw [e2]; exact k
theorem kx_rep {post : Int32 → Prop} {A p d D : Nat} {k : Int32} {m : Nat → Nat} (hA : A < 2) (hc : kz_Cy A p m d) (hD : D ≤ 1000000) (e1 : 0 ≤ k → k = nI D) (e2 : ¬ 0 ≤ k → -k = nI D) (h : post (nI (kz_V k (m D)))) : wpX_repeated post (nI A) k (nI p) := by
  obtain ⟨c1, c2, c3, c4, c5, c6, c7, c8, c9⟩ := hc
  have key := kx_r22 (x1 := k) hA (by omega) c5 c6 h 20 0 rfl
  rw [Nat.pow_zero, Nat.mod_one, c3, c4] at key
  unfold wpX_repeated
  refine br_c (fun z => ?_) (fun z => ?_)
  · refine ⟨21, ?_⟩
    have w := e1 z
    rw [← w] at key
    exact key
  · refine nm_r (e2 z) ⟨21, key⟩
theorem kx_ord {post : Int32 → Prop} {A p d : Nat} {m : Nat → Nat} (hA : A < 2) (hc : kz_Cy A p m d) (h : post (nI d)) : ∃ n, wX_order_14 post (nI p) (nI A) n 1 (nI p) := by
  obtain ⟨c1, c2, c3, c4, c5, c6, c7, c8, c9⟩ := hc
  have key : ∀ e k, 1 ≤ k → k + e = d → wX_order_14 post (nI p) (nI A) (e + 1) (nI k) (nI (m k)) := by
    intro e
    induction e with
    | zero =>
      intro k h1 hk
      rw [show k = d from by omega, c7]
      exact br_t rfl h
    | succ e ih =>
      intro k h1 hk
      refine br_f (kz_ne (b := 16384) (kz_ple (c5 k)) (by decide) (c8 k h1 (by omega))) ?_
      refine br_f (nI_nlt (b := k) (a := 16384) (by omega) (by decide)) ?_
      rw [← c4]
      refine kx_sum hA (c5 k) (c5 1) (nm_r (nI_1 k) ?_)
      rw [c6, c4]
      exact ih (k + 1) (by omega) (by omega)
  have w := key (d - 1) 1 (by omega) (by omega)
  rw [c4] at w
  exact ⟨_, w⟩
theorem ky_ord {post : Int32 → Prop} {fc : Int32} {ai al : Nat → Int32} (hv : ∀ j, j < 128 → ai j = nI (kz_iv j)) {A p d : Nat} {m : Nat → Nat} (hA : A < 2) (hc : kz_Cy A p m d) (h : post (nI d)) : wpY_orderOf post (nI A, fc, ai, al) (nI p) := by
  obtain ⟨c1, c2, c3, c4, c5, c6, c7, c8, c9⟩ := hc
  have key : ∀ e k, 1 ≤ k → k + e = d → wY_orderOf_4 post (nI p) (nI A) fc ai al (e + 1) (nI k) (nI (m k)) := by
    intro e
    induction e with
    | zero =>
      intro k h1 hk
      refine br_f (nI_ge (b := 300) (by omega) (by decide)) ?_
      rw [show k = d from by omega, c7]
      exact br_t rfl h
    | succ e ih =>
      intro k h1 hk
      refine br_f (nI_ge (b := 300) (by omega) (by decide)) ?_
      refine br_f (kz_ne (b := 16384) (kz_ple (c5 k)) (by decide) (c8 k h1 (by omega))) ?_
      rw [← c4]
      refine ky_sum hv hA (c5 k) (c5 1) (nm_r (nI_1 k) ?_)
      rw [c6, c4]
      exact ih (k + 1) (by omega) (by omega)
  have w := key (d - 1) 1 (by omega) (by omega)
  rw [c4] at w
  exact ⟨_, w⟩
theorem ky_many {post : Int32 → Prop} {fc : Int32} {ai al : Nat → Int32} (hv : ∀ j, j < 128 → ai j = nI (kz_iv j)) {A p d D : Nat} {k : Int32} {m : Nat → Nat} (hA : A < 2) (hc : kz_Cy A p m d) (hD : D ≤ 1000000) (e1 : 0 ≤ k → k = nI D) (e2 : ¬ 0 ≤ k → -k = nI D) (h : post (nI (kz_V k (m D)))) : wpY_many post (nI A, fc, ai, al) k (nI p) := by
  have hc' := hc
  obtain ⟨c1, c2, c3, c4, c5, c6, c7, c8, c9⟩ := hc
  have hL : D % d < d := Nat.mod_lt _ c1
  have key : ∀ e i, i + e = D % d → wY_many_25 post k (nI p) (nI (D % d)) (nI A) fc ai al (e + 1) (nI (m i)) (nI i) := by
    intro e
    induction e with
    | zero =>
      intro i hi
      refine br_t (nI_le (by omega) (by omega)) ?_
      rw [show i = D % d from by omega, c9]
      unfold kz_V at h
      refine br_c (fun z => ?_) (fun z => ?_)
      · rw [if_pos z] at h; exact h
      · rw [if_neg z] at h; exact ky_neg (kz_ple (c5 _)) h
    | succ e ih =>
      intro i hi
      refine br_f (nI_ge (by omega) (by omega)) ?_
      rw [← c4]
      refine ky_sum hv hA (c5 i) (c5 1) (nm_r (nI_1 i) ?_)
      rw [c6, c4]
      exact ih (i + 1) (by omega)
  have w := key (D % d) 0 (by omega)
  rw [c3] at w
  have k10 : wY_many_10 post k (nI p) (nI D) (nI A) fc ai al := by
    unfold wY_many_10
    refine ky_ord hv hA hc' ?_
    refine ⟨nI_ne0 c1 (by omega), nm_r (pk_rem (a := D) (d := d) (by omega) c1 (by omega)) ⟨_, w⟩⟩
  unfold wpY_many
  dsimp only
  refine br_c (fun z => ?_) (fun z => ?_)
  · have z1 := e1 z
    rw [← z1] at k10
    exact k10
  · rw [e2 z]; exact k10
theorem kl_log {ai al : Nat → Int32} {fc : Int32} (hv : ∀ j, j < 128 → ai j = nI (kz_iv j)) {A p q d : Nat} {m : Nat → Nat} (hA : A < 2) (hq : q ≤ 16384) (hc : kz_Cy A p m d) : ∃ r : Int32, (∀ post : Int32 → Prop, post r → ∃ n, wX_log_25 post (nI p) (nI q) (nI A) n 16384 0) ∧ (∀ post : Int32 → Prop, post r → ∃ n, wY_log_32 post (nI p) (nI q) (nI d) (nI A) fc ai al n 16384 0) := by
  obtain ⟨c1, c2, c3, c4, c5, c6, c7, c8, c9⟩ := hc
  have key : ∀ e k, k + e + 1 = d → ∃ r : Int32, (∀ post : Int32 → Prop, post r → wX_log_25 post (nI p) (nI q) (nI A) (e + 1) (nI (m k)) (nI k)) ∧ (∀ post : Int32 → Prop, post r → wY_log_32 post (nI p) (nI q) (nI d) (nI A) fc ai al (e + 2) (nI (m k)) (nI k)) := by
    intro e
    induction e with
    | zero =>
      intro k hk
      have b1 : ¬ (16384 : Int32) < nI k := nI_nlt (a := 16384) (by omega) (by decide)
      have b2 : ¬ nI d ≤ nI k := nI_ge (by omega) (by omega)
      by_cases z : m k = q
      · exact ⟨nI k, fun post h => br_f b1 (br_t (by rw [z]) h), fun post h => br_f b2 (br_t (by rw [z]) h)⟩
      · have b3 := kz_ne (kz_ple (c5 k)) hq z
        refine ⟨-4, fun post h => br_f b1 (br_f b3 ?_), fun post h => br_f b2 (br_f b3 ?_)⟩
        · rw [← c4]
          refine kx_sum hA (c5 k) (c5 1) ?_
          rw [c6, show k + 1 = d from by omega, c7]
          exact br_t rfl h
        · rw [← c4]
          refine ky_sum hv hA (c5 k) (c5 1) (nm_r (nI_1 k) ?_)
          exact br_t (nI_le (by omega) (by omega)) h
    | succ e ih =>
      intro k hk
      have b1 : ¬ (16384 : Int32) < nI k := nI_nlt (a := 16384) (by omega) (by decide)
      have b2 : ¬ nI d ≤ nI k := nI_ge (by omega) (by omega)
      by_cases z : m k = q
      · exact ⟨nI k, fun post h => br_f b1 (br_t (by rw [z]) h), fun post h => br_f b2 (br_t (by rw [z]) h)⟩
      · have b3 := kz_ne (kz_ple (c5 k)) hq z
        obtain ⟨r, hX, hY⟩ := ih (k + 1) (by omega)
        refine ⟨r, fun post h => br_f b1 (br_f b3 ?_), fun post h => br_f b2 (br_f b3 ?_)⟩
        · have x := hX post h
          rw [← c4] at x ⊢
          refine kx_sum hA (c5 k) (c5 1) ?_
          rw [c6]
          exact br_f (kz_ne (b := 16384) (kz_ple (c5 _)) (by decide) (c8 (k + 1) (by omega) (by omega))) (nm_r (nI_1 k) x)
        · have y := hY post h
          rw [← c4] at y ⊢
          refine ky_sum hv hA (c5 k) (c5 1) (nm_r (nI_1 k) ?_)
          rw [c6]
          exact y
  obtain ⟨r, hX, hY⟩ := key (d - 1) 0 (by omega)
  rw [c3] at hX hY
  exact ⟨r, fun post h => ⟨_, hX post h⟩, fun post h => ⟨_, hY post h⟩⟩
