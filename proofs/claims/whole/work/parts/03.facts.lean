/-! what the checked tables give -/
theorem kz_and {a b : Bool} (h : and a b = true) : a = true ∧ b = true := by
  cases a <;> cases b <;> first | exact ⟨rfl, rfl⟩ | exact absurd h (by decide)
theorem kz_or {a b : Bool} (h : or a b = true) : a = true ∨ b = true := by
  cases a with
  | true => exact Or.inl rfl
  | false => exact Or.inr h
theorem kz_q {a b : Nat} (h : Nat.beq a b = true) : a = b := Nat.eq_of_beq_eq_true h
theorem kz_bt {a b : Nat} (h : a = b) : Nat.beq a b = true := by rw [h]; exact Nat.beq_refl b
theorem kz_bf {a b : Nat} (h : a ≠ b) : Nat.beq a b = false := by
  cases z : Nat.beq a b with
  | false => rfl
  | true => exact absurd (kz_q z) h
theorem kz_at {P : Int32 → Prop} {x y : Int32} (e : x = y) (h : P y) : P x := by rw [e]; exact h
theorem kz_xl {a b : Nat} (ha : a < 128) (hb : b < 128) : a ^^^ b < 128 := Nat.xor_lt_two_pow (n := 7) ha hb
theorem kz_mtl (a b : Nat) : kz_mt a b < 128 := by
  show (Nat.shiftRight kz_E (Nat.mul 8 (Nat.add (kz_lg a) (kz_lg b)))) &&& 127 < 128
  exact Nat.lt_of_le_of_lt Nat.and_le_right (by decide)
theorem kz_ivl (b : Nat) : kz_iv b < 128 := by
  show (Nat.shiftRight kz_I (Nat.mul 8 b)) &&& 127 < 128
  exact Nat.lt_of_le_of_lt Nat.and_le_right (by decide)
theorem kz_mxe {a b : Nat} (ha : a < 128) (hb : b < 128) : kz_mx a b = kz_mt a b :=
  kz_q (kz_and (kz_all_of (kz_all_of kz_ckm a ha) b hb)).1
theorem kz_sme {a b : Nat} (ha : a < 128) (hb : b < 128) : kz_sm a b 7 = kz_mt a b :=
  kz_q (kz_and (kz_all_of (kz_all_of kz_ckm a ha) b hb)).2
theorem kz_q1 {b c : Nat} (h0 : 0 < b) (hb : b < 128) (hc : c < 128) : kz_mt b (kz_mt c (kz_iv b)) = c := by
  rcases kz_or (kz_all_of (kz_all_of kz_ckq b hb) c hc) with z | z
  · have := kz_q z; omega
  · exact kz_q (kz_and z).1
theorem kz_q2 {b c : Nat} (h0 : 0 < b) (hb : b < 128) (hc : c < 128) : kz_mt (kz_mt b c) (kz_iv b) = c := by
  rcases kz_or (kz_all_of (kz_all_of kz_ckq b hb) c hc) with z | z
  · have := kz_q z; omega
  · exact kz_q (kz_and z).2
theorem kz_rd3 {r : Nat} (h : r < 128) : kz_rd (r * 2) < 128 :=
  Nat.le_of_ble_eq_true (kz_and (kz_all_of kz_ckr r h)).1
theorem kz_rd1 {r : Nat} (h : r < 128) (h2 : r * 2 < 128) : kz_rd (r * 2) = r * 2 := by
  have z := (kz_and (kz_all_of kz_ckr r h)).2
  have e : Nat.blt (Nat.mul r 2) 128 = true := Nat.ble_eq_true_of_le h2
  rw [e] at z
  exact kz_q z
theorem kz_rd2 {r : Nat} (h : r < 128) (h2 : 128 ≤ r * 2) : kz_rd (r * 2) = r * 2 ^^^ 131 := by
  have z := (kz_and (kz_all_of kz_ckr r h)).2
  have e : Nat.blt (Nat.mul r 2) 128 = false := by
    cases w : Nat.blt (Nat.mul r 2) 128 with
    | false => rfl
    | true =>
      have : r * 2 < 128 := Nat.le_of_ble_eq_true w
      omega
  rw [e] at z
  exact kz_q z
theorem kz_A0 {x : Nat} (h : x < 128) : kz_mt 0 x = 0 := kz_q (kz_and (kz_all_of kz_ckA x h)).1
theorem kz_A1 {x : Nat} (h : x < 128) : kz_mt 1 x = x := kz_q (kz_and (kz_all_of kz_ckA x h)).2
theorem kz_Ax {A x : Nat} (hA : A < 2) (h : x < 128) : kz_mt A x = A * x := by
  rcases (by omega : A = 0 ∨ A = 1) with rfl | rfl
  · rw [kz_A0 h, Nat.zero_mul]
  · rw [kz_A1 h, Nat.one_mul]
theorem kz_inv {b c : Nat} (h0 : 0 < b) (hb : b < 128) (hc : c < 128) : kz_mt b c = 1 ↔ c = kz_iv b := by
  constructor
  · intro h
    have z := kz_q2 h0 hb hc
    rw [h, kz_A1 (kz_ivl b)] at z
    exact z.symm
  · intro h
    have z := kz_q1 h0 hb (c := 1) (by decide)
    rw [kz_A1 (kz_ivl b)] at z
    rw [h]; exact z
theorem kz_iv0 : kz_iv 0 = 0 := by decide +kernel
theorem kz_bie (b i : Nat) : kz_bi b i = b / 2 ^ i % 2 := by
  show (b >>> i) % 2 = _
  rw [Nat.shiftRight_eq_div_pow]
/-! points -/
theorem kz_ple {A p : Nat} (h : kz_pt A p = true) : p ≤ 16384 := by
  unfold kz_pt at h
  cases z : Nat.ble 16384 p with
  | true =>
    rw [z] at h
    have : p = 16384 := kz_q h
    omega
  | false =>
    rcases Nat.lt_or_ge p 16384 with w | w
    · omega
    · rw [Nat.ble_eq_true_of_le w] at z; exact absurd z (by decide)
theorem kz_pO (A : Nat) : kz_pt A 16384 = true := rfl
theorem kz_plt {A p : Nat} (h : p < 16384) : kz_pt A p = kz_on A (p / 128) (p % 128) := by
  unfold kz_pt
  cases z : Nat.ble 16384 p with
  | true => have := Nat.le_of_ble_eq_true z; omega
  | false => rfl
theorem kz_ptA {A p : Nat} (hA : A < 2) (h : kz_pt A p = true) : ∃ i, i < kz_n A ∧ p = kz_e A i := by
  have hp := kz_ple h
  rcases (by omega : A = 0 ∨ A = 1) with rfl | rfl
  · have z := kz_all_of kz_ckc0 p (by omega)
    rw [h] at z
    obtain ⟨i, hi, e⟩ := kz_any_of (show kz_any (fun i => Nat.beq (kz_e 0 i) p) 116 = true from z)
    exact ⟨i, hi, (kz_q e).symm⟩
  · have z := kz_all_of kz_ckc1 p (by omega)
    rw [h] at z
    obtain ⟨i, hi, e⟩ := kz_any_of (show kz_any (fun i => Nat.beq (kz_e 1 i) p) 142 = true from z)
    exact ⟨i, hi, (kz_q e).symm⟩
theorem kz_n01 {A : Nat} (hA : A < 2) : 0 < kz_n A ∧ kz_n A ≤ 142 := by
  rcases (by omega : A = 0 ∨ A = 1) with rfl | rfl
  · exact ⟨by decide, by decide⟩
  · exact ⟨by decide, by decide⟩
theorem kz_Se {A i j : Nat} (hA : A < 2) (hi : i < kz_n A) (hj : j < kz_n A) : kz_S A (kz_e A i) (kz_e A j) = kz_e A ((i + j) % kz_n A) := by
  rcases (by omega : A = 0 ∨ A = 1) with rfl | rfl
  · exact kz_q (kz_all_of (kz_all_of kz_ckg0 i hi) j hj)
  · exact kz_q (kz_all_of (kz_all_of kz_ckg1 i hi) j hj)
theorem kz_ept {A i : Nat} (hA : A < 2) (hi : i < kz_n A) : kz_pt A (kz_e A i) = true := by
  rcases (by omega : A = 0 ∨ A = 1) with rfl | rfl
  · exact (kz_and (kz_all_of kz_cke0 i hi)).1
  · exact (kz_and (kz_all_of kz_cke1 i hi)).1
theorem kz_eng {A i : Nat} (hA : A < 2) (hi : i < kz_n A) : kz_pt A (kz_ng (kz_e A i)) = true := by
  rcases (by omega : A = 0 ∨ A = 1) with rfl | rfl
  · exact (kz_and (kz_and (kz_all_of kz_cke0 i hi)).2).1
  · exact (kz_and (kz_and (kz_all_of kz_cke1 i hi)).2).1
theorem kz_eO {A i : Nat} (hA : A < 2) (hi : i < kz_n A) (h : kz_e A i = 16384) : i = 0 := by
  rcases (by omega : A = 0 ∨ A = 1) with rfl | rfl
  · rcases kz_or (kz_and (kz_and (kz_all_of kz_cke0 i hi)).2).2 with z | z
    · exact kz_q z
    · rw [h] at z; exact absurd z (by decide)
  · rcases kz_or (kz_and (kz_and (kz_all_of kz_cke1 i hi)).2).2 with z | z
    · exact kz_q z
    · rw [h] at z; exact absurd z (by decide)
theorem kz_e0 {A : Nat} (hA : A < 2) : kz_e A 0 = 16384 := by
  rcases (by omega : A = 0 ∨ A = 1) with rfl | rfl
  · decide +kernel
  · decide +kernel
theorem kz_Spt {A p q : Nat} (hA : A < 2) (hp : kz_pt A p = true) (hq : kz_pt A q = true) : kz_pt A (kz_S A p q) = true := by
  obtain ⟨i, hi, rfl⟩ := kz_ptA hA hp
  obtain ⟨j, hj, rfl⟩ := kz_ptA hA hq
  rw [kz_Se hA hi hj]
  exact kz_ept hA (Nat.mod_lt _ (kz_n01 hA).1)
theorem kz_ngp {A p : Nat} (hA : A < 2) (hp : kz_pt A p = true) : kz_pt A (kz_ng p) = true := by
  obtain ⟨i, hi, rfl⟩ := kz_ptA hA hp
  exact kz_eng hA hi
theorem kz_x0 {A p : Nat} (hA : A < 2) (hp : kz_pt A p = true) (h : p < 128) : p = 1 := by
  rcases (by omega : A = 0 ∨ A = 1) with rfl | rfl
  · have z := kz_all_of kz_ckx0 p h
    rw [hp] at z; exact kz_q z
  · have z := kz_all_of kz_ckx1 p h
    rw [hp] at z; exact kz_q z
/-! the sum's cases -/
theorem kz_ng1 {p : Nat} (h : p ≠ 16384) : kz_ng p = 128 * (p / 128) + (p / 128 ^^^ p % 128) := by
  unfold kz_ng; rw [kz_bf h]; rfl
theorem kz_ngO : kz_ng 16384 = 16384 := rfl
theorem kz_ngl {p : Nat} (h : p ≤ 16384) : kz_ng p ≤ 16384 := by
  by_cases e : p = 16384
  · rw [e]; exact Nat.le_refl _
  · rw [kz_ng1 e]
    have := kz_xl (a := p / 128) (b := p % 128) (by omega) (by omega)
    omega
theorem kz_S1 (A q : Nat) : kz_S A 16384 q = q := rfl
theorem kz_S2 {A p : Nat} (h : p ≠ 16384) : kz_S A p 16384 = p := by
  unfold kz_S; rw [kz_bf h]; rfl
theorem kz_S3 {A p q : Nat} (h : p ≠ 16384) (h2 : q ≠ 16384) (h3 : q = kz_ng p) : kz_S A p q = 16384 := by
  unfold kz_S; rw [kz_bf h, kz_bf h2, kz_bt h3]; rfl
theorem kz_S4 {A p q : Nat} (h : p ≠ 16384) (h2 : q ≠ 16384) (h3 : q ≠ kz_ng p) (h4 : p / 128 = q / 128) : kz_S A p q = kz_a2 A (p / 128) (p / 128 ^^^ kz_mt (p % 128) (kz_iv (p / 128))) := by
  unfold kz_S kz_ad; rw [kz_bf h, kz_bf h2, kz_bf h3, kz_bt (a := Nat.div p 128) (b := Nat.div q 128) h4]; rfl
theorem kz_S5 {A p q : Nat} (h : p ≠ 16384) (h2 : q ≠ 16384) (h3 : q ≠ kz_ng p) (h4 : p / 128 ≠ q / 128) : kz_S A p q = kz_a1 A (p / 128) (p % 128) (q / 128) (kz_mt (p % 128 ^^^ q % 128) (kz_iv (p / 128 ^^^ q / 128))) := by
  unfold kz_S kz_ad; rw [kz_bf h, kz_bf h2, kz_bf h3, kz_bf (a := Nat.div p 128) (b := Nat.div q 128) h4]; rfl
theorem kz_dx {A p q : Nat} (hA : A < 2) (hp : kz_pt A p = true) (hq : kz_pt A q = true) (h3 : q ≠ kz_ng p) (h4 : p / 128 = q / 128) : 0 < p / 128 := by
  rcases Nat.eq_zero_or_pos (p / 128) with z | z
  · have e1 := kz_x0 hA hp (by omega)
    have e2 := kz_x0 hA hq (by omega)
    rw [e1, e2] at h3
    exact absurd (by decide +kernel) h3
  · exact z
theorem kz_xp {a b : Nat} (h : a ≠ b) : 0 < a ^^^ b := by
  rcases Nat.eq_zero_or_pos (a ^^^ b) with z | z
  · have w := congrArg (fun t => t ^^^ b) z
    rw [Nat.xor_assoc, Nat.xor_self, Nat.xor_zero, Nat.zero_xor] at w
    exact absurd w h
  · exact z
/-! ranks -/
theorem kz_rk0 (A : Nat) : kz_rk A 0 = 0 := rfl
theorem kz_rks (A q : Nat) : kz_rk A (q + 1) = kz_rk A q + cond (kz_pt A q) 1 0 := rfl
theorem kz_rkt {A q : Nat} (h : kz_pt A q = true) : kz_rk A (q + 1) = kz_rk A q + 1 := by rw [kz_rks, h]; rfl
theorem kz_rkf {A q : Nat} (h : kz_pt A q = false) : kz_rk A (q + 1) = kz_rk A q := by rw [kz_rks, h]; rfl
theorem kz_rkw (A x : Nat) : ∀ y, kz_rk A (128 * x + y) = kz_rk A (128 * x) + kz_rw A x y := by
  intro y
  induction y with
  | zero => rfl
  | succ y ih =>
    have e : kz_rw A x (y + 1) = kz_rw A x y + cond (kz_pt A (128 * x + y)) 1 0 := rfl
    rw [e, ← Nat.add_assoc, kz_rks, ih]; omega
theorem kz_rwl {A x : Nat} (hA : A < 2) (hx : x < 128) : kz_rw A x 128 ≤ 2 := by
  rcases (by omega : A = 0 ∨ A = 1) with rfl | rfl
  · exact Nat.le_of_ble_eq_true (kz_all_of kz_ckw0 x hx)
  · exact Nat.le_of_ble_eq_true (kz_all_of kz_ckw1 x hx)
theorem kz_rkx {A : Nat} (hA : A < 2) : ∀ x, x ≤ 128 → kz_rk A (128 * x) ≤ 2 * x := by
  intro x
  induction x with
  | zero => intro _; exact Nat.le_refl _
  | succ x ih =>
    intro h
    have e : 128 * (x + 1) = 128 * x + 128 := by omega
    rw [e, kz_rkw]
    have := ih (by omega)
    have := kz_rwl (x := x) hA (by omega)
    omega
theorem kz_rkm (A q : Nat) : ∀ d, kz_rk A q ≤ kz_rk A (q + d) := by
  intro d
  induction d with
  | zero => exact Nat.le_refl _
  | succ d ih => rw [← Nat.add_assoc, kz_rks]; omega
theorem kz_rkl {A q : Nat} (hA : A < 2) (h : q ≤ 16384) : kz_rk A q ≤ 256 := by
  have h1 := kz_rkm A q (16384 - q)
  have h2 := kz_rkx hA 128 (Nat.le_refl _)
  rw [show q + (16384 - q) = 128 * 128 from by omega] at h1
  omega
theorem kz_rkl2 {A q : Nat} (hA : A < 2) (h : q ≤ 16385) : kz_rk A q ≤ 257 := by
  rcases Nat.lt_or_ge 16384 q with z | z
  · rw [show q = 16384 + 1 from by omega, kz_rkt (kz_pO A)]
    have := kz_rkl (q := 16384) hA (Nat.le_refl _)
    omega
  · have := kz_rkl hA z
    omega
theorem kz_rkp {A q : Nat} (hq : q ≤ 16384) (h : kz_pt A q = true) : kz_rk A q < kz_rk A 16385 := by
  have h1 := kz_rkm A (q + 1) (16384 - q)
  rw [show q + 1 + (16384 - q) = 16385 from by omega, kz_rkt h] at h1
  omega
/-! the multiples of a point -/
theorem kz_cyc {A p : Nat} (hA : A < 2) (hp : kz_pt A p = true) : ∃ (m : Nat → Nat) (d : Nat), 1 ≤ d ∧ d ≤ 142 ∧ m 0 = 16384 ∧ m 1 = p ∧ (∀ k, kz_pt A (m k) = true) ∧ (∀ k l, kz_S A (m k) (m l) = m (k + l)) ∧ m d = 16384 ∧ (∀ k, 1 ≤ k → k < d → m k ≠ 16384) ∧ (∀ k, m (k % d) = m k) := by
  obtain ⟨i, hi, rfl⟩ := kz_ptA hA hp
  obtain ⟨hn, hn2⟩ := kz_n01 hA
  obtain ⟨d, hd, hl⟩ := pk_least (fun k => ((k + 1) * i) % kz_n A = 0) ⟨kz_n A - 1, by
    show ((kz_n A - 1 + 1) * i) % kz_n A = 0
    rw [Nat.sub_add_cancel hn, Nat.mul_mod_right]⟩
  have hdn : d < kz_n A := by
    rcases Nat.lt_or_ge d (kz_n A) with z | z
    · exact z
    · have : ((kz_n A - 1 + 1) * i) % kz_n A = 0 := by rw [Nat.sub_add_cancel hn, Nat.mul_mod_right]
      exact absurd this (hl (kz_n A - 1) (by omega))
  have hS : ∀ k l, kz_S A (kz_e A ((k * i) % kz_n A)) (kz_e A ((l * i) % kz_n A)) = kz_e A (((k + l) * i) % kz_n A) := by
    intro k l
    rw [kz_Se hA (Nat.mod_lt _ hn) (Nat.mod_lt _ hn), Nat.add_mul, ← Nat.add_mod]
  have hO : kz_e A (((d + 1) * i) % kz_n A) = 16384 := by
    have hd' : ((d + 1) * i) % kz_n A = 0 := hd
    rw [hd', kz_e0 hA]
  have hper : ∀ k, kz_e A (((d + 1 + k) * i) % kz_n A) = kz_e A ((k * i) % kz_n A) := by
    intro k
    rw [← hS, hO, kz_S1]
  refine ⟨fun k => kz_e A ((k * i) % kz_n A), d + 1, by omega, by omega, ?_, ?_, ?_, hS, hO, ?_, ?_⟩
  · show kz_e A ((0 * i) % kz_n A) = 16384
    rw [Nat.zero_mul, Nat.zero_mod, kz_e0 hA]
  · show kz_e A ((1 * i) % kz_n A) = kz_e A i
    rw [Nat.one_mul, Nat.mod_eq_of_lt hi]
  · intro k
    exact kz_ept hA (Nat.mod_lt _ hn)
  · intro k h1 h2 h3
    have z := kz_eO hA (Nat.mod_lt _ hn) h3
    have w := hl (k - 1) (by omega)
    rw [show k - 1 + 1 = k from by omega] at w
    exact w z
  · intro k
    induction k using Nat.strongRecOn with
    | ind k ih =>
      rcases Nat.lt_or_ge k (d + 1) with z | z
      · rw [Nat.mod_eq_of_lt z]
      · have e := ih (k - (d + 1)) (by omega)
        rw [Nat.mod_eq_sub_mod z, e]
        have w := hper (k - (d + 1))
        rw [show d + 1 + (k - (d + 1)) = k from by omega] at w
        exact w.symm
