section
/-! rows pasted from kit/rows -/
theorem pk_us {f : Nat → Int32} {k : Nat} {x : Int32} : upd f k x k = x := if_pos rfl
theorem pk_un {f : Nat → Int32} {k j : Nat} {x : Int32} (h : j ≠ k) : upd f k x j = f j := if_neg h
theorem pk_sub {a b : Nat} (h : b ≤ a) : nI a - nI b = nI (a - b) := by
  obtain ⟨c, rfl⟩ : ∃ c, a = c + b := ⟨a - b, by omega⟩
  rw [← nI_add, Int32.add_sub_cancel, Nat.add_sub_cancel]
theorem pk_m1 (n : Nat) : nI (n + 1) + (-1) = nI n := by
  rw [← nI_1, Int32.add_assoc, show (1 : Int32) + (-1) = 0 from rfl, Int32.add_zero]
theorem pk_mul (a b : Nat) : nI a * nI b = nI (a * b) := (Int32.ofNat_mul a b).symm
theorem pk_div {a d : Nat} (ha : a < 2 ^ 31) (h0 : 0 < d) (hd : d < 2 ^ 31) : nI a / nI d = nI (a / d) := by
  apply Int32.toInt_inj.mp
  rw [lg_idiv_nonneg (by rw [nI_toInt ha]; omega) (by rw [nI_toInt hd]; omega), nI_toInt ha, nI_toInt hd, nI_toInt (Nat.lt_of_le_of_lt (Nat.div_le_self a d) ha)]
  first | rfl | exact (Int.natCast_ediv _ _).symm
theorem pk_rem {a d : Nat} (ha : a < 2 ^ 31) (h0 : 0 < d) (hd : d < 2 ^ 31) : nI a - nI a / nI d * nI d = nI (a % d) := by
  rw [pk_div ha h0 hd, pk_mul, pk_sub (Nat.div_mul_le_self a d)]
  exact congrArg nI (by have := Nat.div_add_mod' a d; omega)
theorem pk_le {x y : Int32} {A B : Prop} (a b : Nat) (f : a ≤ b → A) (g : b < a → B) (hx : x = nI a := by rfl) (hy : y = nI b := by rfl) (ha : a < 2 ^ 31 := by omega) (hb : b < 2 ^ 31 := by omega) : (x ≤ y → A) ∧ (¬ x ≤ y → B) := by
  subst hx hy
  rw [nI_leI ha hb]
  exact ⟨f, fun z => g (by omega)⟩
theorem pk_lt {x y : Int32} {A B : Prop} (a b : Nat) (f : a < b → A) (g : b ≤ a → B) (hx : x = nI a := by rfl) (hy : y = nI b := by rfl) (ha : a < 2 ^ 31 := by omega) (hb : b < 2 ^ 31 := by omega) : (x < y → A) ∧ (¬ x < y → B) := by
  subst hx hy
  rw [nI_ltI ha hb]
  exact ⟨f, fun z => g (by omega)⟩
theorem pk_eq {x y : Int32} {A B : Prop} (a b : Nat) (f : a = b → A) (g : a ≠ b → B) (hx : x = nI a := by rfl) (hy : y = nI b := by rfl) (ha : a < 2 ^ 31 := by omega) (hb : b < 2 ^ 31 := by omega) : (x = y → A) ∧ (¬ x = y → B) := by
  subst hx hy
  rw [nI_eq ha hb]
  exact ⟨f, g⟩
theorem pk_in {x : Int32} (n N : Nat) (h : n < N) (hx : x = nI n := by rfl) (hN : N < 2 ^ 31 := by omega) : vp_in x N := by
  subst hx
  exact vp_in_nI h hN
theorem pk_cl {x : Int32} (n : Nat) (hx : x = nI n := by rfl) (h : n < 2 ^ 31 := by omega) : x.toNatClampNeg = n := by
  subst hx
  exact nI_clamp h
theorem pk_tn {n : Nat} (h : n < 2 ^ 32) : (nI n).toBitVec.toNat = n := Nat.mod_eq_of_lt h
theorem pk_and (x : Int32) {m : Int32} (k : Nat) (hm : m.toBitVec.toNat = 2 ^ k - 1) : x &&& m = nI (x.toBitVec.toNat % 2 ^ k) := by
  apply Int32.toBitVec_inj.mp
  apply BitVec.eq_of_toNat_eq
  rw [Int32.toBitVec_and, BitVec.toNat_and, hm, Nat.and_two_pow_sub_one_eq_mod]
  show _ = (BitVec.ofNat 32 _).toNat
  rw [BitVec.toNat_ofNat]
  exact (Nat.mod_eq_of_lt (Nat.lt_of_le_of_lt (Nat.mod_le _ _) x.toBitVec.isLt)).symm
theorem pk_andN {n : Nat} (h : n < 2 ^ 32) {m : Int32} (k : Nat) (hm : m.toBitVec.toNat = 2 ^ k - 1) : nI n &&& m = nI (n % 2 ^ k) := by
  rw [pk_and _ k hm, pk_tn h]
theorem pk_shl (a s : Int32) (k : Nat) (hs : (s.toBitVec.smod 32).toNat = k) : (a <<< s).toBitVec.toNat = a.toBitVec.toNat * 2 ^ k % 2 ^ 32 := by
  show (a.toBitVec <<< (s.toBitVec.smod 32).toNat).toNat = _
  rw [hs, BitVec.toNat_shiftLeft, Nat.shiftLeft_eq]
theorem pk_shlN {n : Nat} (s : Int32) (k : Nat) (hs : (s.toBitVec.smod 32).toNat = k) (h : n * 2 ^ k < 2 ^ 32) : nI n <<< s = nI (n * 2 ^ k) := by
  apply Int32.toBitVec_inj.mp
  apply BitVec.eq_of_toNat_eq
  have hn : n < 2 ^ 32 := Nat.lt_of_le_of_lt (Nat.le_mul_of_pos_right n (Nat.two_pow_pos k)) h
  rw [pk_shl _ _ k hs, pk_tn hn, pk_tn h, Nat.mod_eq_of_lt h]
theorem pk_shr (a s : Int32) (k : Nat) (hs : (s.toBitVec.smod 32).toNat = k) : (a >>> s).toInt = a.toInt >>> k := by
  show (a.toBitVec.sshiftRight (s.toBitVec.smod 32).toNat).toInt = _
  rw [hs, BitVec.toInt_sshiftRight]
  rfl
theorem pk_shrN {n : Nat} (h : n < 2 ^ 31) (s : Int32) (k : Nat) (hs : (s.toBitVec.smod 32).toNat = k) : nI n >>> s = nI (n / 2 ^ k) := by
  apply Int32.toInt_inj.mp
  have h2 : n / 2 ^ k ≤ n := Nat.div_le_self _ _
  rw [pk_shr _ _ k hs, nI_toInt h, nI_toInt (by omega), Int.shiftRight_eq_div_pow]
  rfl
theorem pk_least (P : Nat → Prop) (h : ∃ k, P k) : ∃ k, P k ∧ ∀ j, j < k → ¬ P j := by
  obtain ⟨k, hk⟩ := h
  induction k using Nat.strongRecOn with
  | ind k ih =>
    by_cases e : ∃ j, j < k ∧ P j
    · obtain ⟨j, hj, pj⟩ := e
      exact ih j hj pj
    · exact ⟨k, hk, fun j hj pj => e ⟨j, hj, pj⟩⟩
theorem sb_negT {w : Nat} (h : w < 2 ^ 31) : (-nI w).toInt = -(w : Int) := by
  rw [Int32.toInt_neg, nI_toInt h]
  exact Int.bmod_eq_of_le (by omega) (by omega)
theorem sb_nle {a b : Nat} (ha : a < 2 ^ 31) (hb : b < 2 ^ 31) : -nI a ≤ -nI b ↔ b ≤ a := by
  rw [Int32.le_iff_toInt_le, sb_negT ha, sb_negT hb]
  omega
theorem sb_nlt {a b : Nat} (ha : a < 2 ^ 31) (hb : b < 2 ^ 31) : -nI a < -nI b ↔ b < a := by
  rw [Int32.lt_iff_toInt_lt, sb_negT ha, sb_negT hb]
  omega
theorem s_l : ∀ n, n < 32 → ((nI n &&& 31).toBitVec.smod 32).toNat = n := by decide +kernel
theorem nx_xor (a b : Nat) : nI a ^^^ nI b = nI (a ^^^ b) := by
  apply Int32.toBitVec_inj.1
  show BitVec.ofNat 32 a ^^^ BitVec.ofNat 32 b = BitVec.ofNat 32 (a ^^^ b)
  apply BitVec.eq_of_getLsbD_eq
  intro i hi
  simp [hi]
end
section
/-! tables, and the pure picture: field, curve, sum -/
def kz_E : Nat := 0x416171797d7f7e3f5e2f562b542a154b6432194d6772395d6f763b5c2e174a255368341a0d476231596d777a3d5f6e375a2d576a355b6c361b4c261348241209456370381c0e0742215169757b7c3e1f4e275229556b743a1d4f6633582c160b442211496573783c1e0f46235028140a05436030180c060340201008040201416171797d7f7e3f5e2f562b542a154b6432194d6772395d6f763b5c2e174a255368341a0d476231596d777a3d5f6e375a2d576a355b6c361b4c261348241209456370381c0e0742215169757b7c3e1f4e275229556b743a1d4f6633582c160b442211496573783c1e0f46235028140a05436030180c060340201008040201
def kz_L : Nat := 0x790078007a003100320053007b0018005400650033002800190069007c003c00660050005500480029004b0034005d006a0024001a006e003d0058007d000c00510076006700630049004e00560022004c0074002a0072005e002c003500120025002e006b0045006f0060001b004200590014003e001e000d0037007e00060077003000520017006400270068003b004f0047004a005c0023006d0057000b00750062004d002100730071002b0011002d0044005f00410013001d00360005002f00160026003a0046005b006c000a006100200070001000430040001c000400150039005a0009001f000f003f000300380008000e0002000700010000012c
def kz_I : Nat := 0x4003205a2d52105d296557316f1e0813731f554259696a580f1a7628483a042b4e0c7811217c6b6875306d432c7a35320d5f461c140b3b631d4d2417546c027f0637273949623c263e0751333450745618227b53600577643d381645192e5b7d6e72474c0e66232f44250a4b70095c79671b4f5e4a151271363f2a617e410100
def kz_P0 : Nat := 0x6a8322123a2181a2a9e11431af9367b07b02f2b24fa285735e234193de0267e11e91c7f10ba310a2bdf3d5f3ba53e4413ec0d3739c00f420081394b37d633151efc2d1b14f929363ae91d332dbe13050cc30e6516f22c5b2ce6196f1df8061133a6214928891770368c2b3f0ea4143b27ae000127e114130eb92b6936e1175e28d8210b33c1061d1dc3195d2cbf2c0316df0e790cda13232de51d093a9c296414d02d411ec1337337b9393900800f5c39b30d2d13cb3e383bd23d252b883168109b1c4711ca26323d9b34713589280724b32f7507bf36171acc11612acb182a23e5324506a54000
def kz_P1 : Nat := 0x15e32bc276501d6244a03ba35711787387a2ee81e7f0f93307a02f7123805de04563e91073904d5055c08eb0a703fc21a6912aa3a6026d8163e3cbd2a0b30eb22361ff01f5a1bb803420ba2023621ea080a29d0234018a60b6819e7207225b52e220ada092a0ded1004389a252222f7155a15e437161cb43c3a098f0c1034ce1b2a31e63f442fd13b4520b6000120f73b332f8e3f3a31851b1c34a70c08099c3c421c8d377815cf157022b2256838eb10240df609380acf2e7e25fe203219d40b7e189723062983081a21a902320bb503441b8f1f641fcf2272308a2a5f3cc4161226953a14128f1a5d3fbd0a6408fa055604dc07373eec045e05d5121c02f2301a0f8c1e432eb5380a17a8351b03bd240201d5272b32d9015c4000
/-- every number below n -/
noncomputable def kz_all (f : Nat → Bool) (n : Nat) : Bool := @Nat.rec (fun _ => Bool) true (fun k ih => @Bool.rec (fun _ => Bool) false ih (f k)) n
noncomputable def kz_any (f : Nat → Bool) (n : Nat) : Bool := @Nat.rec (fun _ => Bool) false (fun k ih => @Bool.rec (fun _ => Bool) ih true (f k)) n
theorem kz_all_of {f : Nat → Bool} : ∀ {n : Nat}, kz_all f n = true → ∀ i, i < n → f i = true := by
  intro n
  induction n with
  | zero => intro _ i h; omega
  | succ n ih =>
    intro h i hi
    have e : kz_all f (n + 1) = @Bool.rec (fun _ => Bool) false (kz_all f n) (f n) := rfl
    rw [e] at h
    cases hf : f n with
    | false => rw [hf] at h; exact absurd (show false = true from h) Bool.false_ne_true
    | true =>
      rw [hf] at h
      rcases Nat.lt_or_ge i n with z | z
      · exact ih h i z
      · have : i = n := by omega
        rw [this]; exact hf
theorem kz_any_of {f : Nat → Bool} : ∀ {n : Nat}, kz_any f n = true → ∃ i, i < n ∧ f i = true := by
  intro n
  induction n with
  | zero => intro h; exact absurd (show false = true from h) Bool.false_ne_true
  | succ n ih =>
    intro h
    have e : kz_any f (n + 1) = @Bool.rec (fun _ => Bool) (kz_any f n) true (f n) := rfl
    rw [e] at h
    cases hf : f n with
    | true => exact ⟨n, by omega, hf⟩
    | false =>
      rw [hf] at h
      obtain ⟨i, hi, z⟩ := ih h
      exact ⟨i, by omega, z⟩
/-- the product by logarithms -/
def kz_lg (a : Nat) : Nat := Nat.land (Nat.shiftRight kz_L (Nat.mul 16 a)) 65535
def kz_mt (a b : Nat) : Nat := Nat.land (Nat.shiftRight kz_E (Nat.mul 8 (Nat.add (kz_lg a) (kz_lg b)))) 127
def kz_iv (b : Nat) : Nat := Nat.land (Nat.shiftRight kz_I (Nat.mul 8 b)) 127
/-- X's product, a step: digit i -/
def kz_rd (r : Nat) : Nat := Nat.xor r (Nat.mul 131 (Nat.shiftRight r 7))
def kz_bi (b i : Nat) : Nat := Nat.mod (Nat.shiftRight b i) 2
def kz_xs (a b i r : Nat) : Nat := Nat.xor (kz_rd (Nat.mul r 2)) (Nat.mul a (kz_bi b i))
def kz_mx (a b : Nat) : Nat := kz_xs a b 0 (kz_xs a b 1 (kz_xs a b 2 (kz_xs a b 3 (kz_xs a b 4 (kz_xs a b 5 (kz_xs a b 6 0))))))
/-- Y's product -/
noncomputable def kz_sh (a i : Nat) : Nat := @Nat.rec (fun _ => Nat) a (fun _ r => kz_rd (Nat.mul r 2)) i
noncomputable def kz_sm (a b i : Nat) : Nat := @Nat.rec (fun _ => Nat) 0 (fun k r => Nat.xor r (Nat.mul (kz_sh a k) (kz_bi b k))) i
theorem kz_ckm : kz_all (fun a => kz_all (fun b => and (Nat.beq (kz_mx a b) (kz_mt a b)) (Nat.beq (kz_sm a b 7) (kz_mt a b))) 128) 128 = true := by decide +kernel
theorem kz_ckq : kz_all (fun b => kz_all (fun c => or (Nat.beq b 0) (and (Nat.beq (kz_mt b (kz_mt c (kz_iv b))) c) (Nat.beq (kz_mt (kz_mt b c) (kz_iv b)) c))) 128) 128 = true := by decide +kernel
theorem kz_ckr : kz_all (fun r => and (Nat.blt (kz_rd (Nat.mul r 2)) 128) (cond (Nat.blt (Nat.mul r 2) 128) (Nat.beq (kz_rd (Nat.mul r 2)) (Nat.mul r 2)) (Nat.beq (kz_rd (Nat.mul r 2)) (Nat.xor (Nat.mul r 2) 131)))) 128 = true := by decide +kernel
theorem kz_ckA : kz_all (fun x => and (Nat.beq (kz_mt 0 x) 0) (Nat.beq (kz_mt 1 x) x)) 128 = true := by decide +kernel
/-- the curve -/
def kz_on (A x y : Nat) : Bool := Nat.beq (Nat.xor (kz_mt y y) (kz_mt x y)) (Nat.xor (Nat.xor (kz_mt (kz_mt x x) x) (Nat.mul A (kz_mt x x))) 1)
def kz_pt (A p : Nat) : Bool := cond (Nat.ble 16384 p) (Nat.beq p 16384) (kz_on A (Nat.div p 128) (Nat.mod p 128))
def kz_ng (p : Nat) : Nat := cond (Nat.beq p 16384) 16384 (Nat.add (Nat.mul 128 (Nat.div p 128)) (Nat.xor (Nat.div p 128) (Nat.mod p 128)))
def kz_b1 (x y l s : Nat) : Nat := Nat.add (Nat.mul 128 s) (Nat.xor (Nat.xor (kz_mt l (Nat.xor x s)) s) y)
def kz_a1 (A x y u l : Nat) : Nat := kz_b1 x y l (Nat.xor (Nat.xor (Nat.xor (Nat.xor (kz_mt l l) l) x) u) A)
def kz_b2 (x l s : Nat) : Nat := Nat.add (Nat.mul 128 s) (Nat.xor (kz_mt x x) (kz_mt (Nat.xor l 1) s))
def kz_a2 (A x l : Nat) : Nat := kz_b2 x l (Nat.xor (Nat.xor (kz_mt l l) l) A)
def kz_ad (A x y u v : Nat) : Nat := cond (Nat.beq x u) (kz_a2 A x (Nat.xor x (kz_mt y (kz_iv x)))) (kz_a1 A x y u (kz_mt (Nat.xor y v) (kz_iv (Nat.xor x u))))
def kz_S (A p q : Nat) : Nat := cond (Nat.beq p 16384) q (cond (Nat.beq q 16384) p (cond (Nat.beq q (kz_ng p)) 16384 (kz_ad A (Nat.div p 128) (Nat.mod p 128) (Nat.div q 128) (Nat.mod q 128))))
/-- the group: multiples of a generator -/
def kz_n (A : Nat) : Nat := cond (Nat.beq A 0) 116 142
def kz_e (A i : Nat) : Nat := Nat.land (Nat.shiftRight (cond (Nat.beq A 0) kz_P0 kz_P1) (Nat.mul 16 i)) 65535
theorem kz_ckg0 : kz_all (fun i => kz_all (fun j => Nat.beq (kz_S 0 (kz_e 0 i) (kz_e 0 j)) (kz_e 0 (Nat.mod (Nat.add i j) 116))) 116) 116 = true := by decide +kernel
theorem kz_ckg1 : kz_all (fun i => kz_all (fun j => Nat.beq (kz_S 1 (kz_e 1 i) (kz_e 1 j)) (kz_e 1 (Nat.mod (Nat.add i j) 142))) 142) 142 = true := by decide +kernel
theorem kz_cke0 : kz_all (fun i => and (kz_pt 0 (kz_e 0 i)) (and (kz_pt 0 (kz_ng (kz_e 0 i))) (or (Nat.beq i 0) (not (Nat.beq (kz_e 0 i) 16384))))) 116 = true := by decide +kernel
theorem kz_cke1 : kz_all (fun i => and (kz_pt 1 (kz_e 1 i)) (and (kz_pt 1 (kz_ng (kz_e 1 i))) (or (Nat.beq i 0) (not (Nat.beq (kz_e 1 i) 16384))))) 142 = true := by decide +kernel
theorem kz_ckc0 : kz_all (fun p => cond (kz_pt 0 p) (kz_any (fun i => Nat.beq (kz_e 0 i) p) 116) true) 16385 = true := by decide +kernel
theorem kz_ckc1 : kz_all (fun p => cond (kz_pt 1 p) (kz_any (fun i => Nat.beq (kz_e 1 i) p) 142) true) 16385 = true := by decide +kernel
theorem kz_ckx0 : kz_all (fun p => cond (kz_pt 0 p) (Nat.beq p 1) true) 128 = true := by decide +kernel
theorem kz_ckx1 : kz_all (fun p => cond (kz_pt 1 p) (Nat.beq p 1) true) 128 = true := by decide +kernel
/-- how many points are below q -/
noncomputable def kz_rk (A q : Nat) : Nat := @Nat.rec (fun _ => Nat) 0 (fun k r => Nat.add r (cond (kz_pt A k) 1 0)) q
noncomputable def kz_rw (A x y : Nat) : Nat := @Nat.rec (fun _ => Nat) 0 (fun k r => Nat.add r (cond (kz_pt A (Nat.add (Nat.mul 128 x) k)) 1 0)) y
theorem kz_ckw0 : kz_all (fun x => Nat.ble (kz_rw 0 x 128) 2) 128 = true := by decide +kernel
theorem kz_ckw1 : kz_all (fun x => Nat.ble (kz_rw 1 x 128) 2) 128 = true := by decide +kernel
end
section
/-! what the checked tables give -/
theorem kz_and {a b : Bool} (h : and a b = true) : a = true ∧ b = true := by
  cases a <;> cases b <;> first | exact ⟨rfl, rfl⟩ | exact absurd h (by decide)
theorem kz_or {a b : Bool} (h : or a b = true) : a = true ∨ b = true := by
  cases a with
  | true => exact Or.inl rfl
  | false => exact Or.inr h
theorem kz_q {a b : Nat} (h : Nat.beq a b = true) : a = b := Nat.eq_of_beq_eq_true h
theorem kz_bt {a b : Nat} (h : a = b) : Nat.beq a b = true := by rw [h]; exact Nat.beq_refl b
theorem kz_bf {a b : Nat} (h : a ≠ b) : Nat.beq a b = false := by
  cases z : Nat.beq a b with
  | false => rfl
  | true => exact absurd (kz_q z) h
theorem kz_at {P : Int32 → Prop} {x y : Int32} (e : x = y) (h : P y) : P x := by rw [e]; exact h
theorem kz_xl {a b : Nat} (ha : a < 128) (hb : b < 128) : a ^^^ b < 128 := Nat.xor_lt_two_pow (n := 7) ha hb
theorem kz_mtl (a b : Nat) : kz_mt a b < 128 := by
  show (Nat.shiftRight kz_E (Nat.mul 8 (Nat.add (kz_lg a) (kz_lg b)))) &&& 127 < 128
  exact Nat.lt_of_le_of_lt Nat.and_le_right (by decide)
theorem kz_ivl (b : Nat) : kz_iv b < 128 := by
  show (Nat.shiftRight kz_I (Nat.mul 8 b)) &&& 127 < 128
  exact Nat.lt_of_le_of_lt Nat.and_le_right (by decide)
theorem kz_mxe {a b : Nat} (ha : a < 128) (hb : b < 128) : kz_mx a b = kz_mt a b :=
  kz_q (kz_and (kz_all_of (kz_all_of kz_ckm a ha) b hb)).1
theorem kz_sme {a b : Nat} (ha : a < 128) (hb : b < 128) : kz_sm a b 7 = kz_mt a b :=
  kz_q (kz_and (kz_all_of (kz_all_of kz_ckm a ha) b hb)).2
theorem kz_q1 {b c : Nat} (h0 : 0 < b) (hb : b < 128) (hc : c < 128) : kz_mt b (kz_mt c (kz_iv b)) = c := by
  rcases kz_or (kz_all_of (kz_all_of kz_ckq b hb) c hc) with z | z
  · have := kz_q z; omega
  · exact kz_q (kz_and z).1
theorem kz_q2 {b c : Nat} (h0 : 0 < b) (hb : b < 128) (hc : c < 128) : kz_mt (kz_mt b c) (kz_iv b) = c := by
  rcases kz_or (kz_all_of (kz_all_of kz_ckq b hb) c hc) with z | z
  · have := kz_q z; omega
  · exact kz_q (kz_and z).2
theorem kz_rd3 {r : Nat} (h : r < 128) : kz_rd (r * 2) < 128 :=
  Nat.le_of_ble_eq_true (kz_and (kz_all_of kz_ckr r h)).1
theorem kz_rd1 {r : Nat} (h : r < 128) (h2 : r * 2 < 128) : kz_rd (r * 2) = r * 2 := by
  have z := (kz_and (kz_all_of kz_ckr r h)).2
  have e : Nat.blt (Nat.mul r 2) 128 = true := Nat.ble_eq_true_of_le h2
  rw [e] at z
  exact kz_q z
theorem kz_rd2 {r : Nat} (h : r < 128) (h2 : 128 ≤ r * 2) : kz_rd (r * 2) = r * 2 ^^^ 131 := by
  have z := (kz_and (kz_all_of kz_ckr r h)).2
  have e : Nat.blt (Nat.mul r 2) 128 = false := by
    cases w : Nat.blt (Nat.mul r 2) 128 with
    | false => rfl
    | true =>
      have : r * 2 < 128 := Nat.le_of_ble_eq_true w
      omega
  rw [e] at z
  exact kz_q z
theorem kz_A0 {x : Nat} (h : x < 128) : kz_mt 0 x = 0 := kz_q (kz_and (kz_all_of kz_ckA x h)).1
theorem kz_A1 {x : Nat} (h : x < 128) : kz_mt 1 x = x := kz_q (kz_and (kz_all_of kz_ckA x h)).2
theorem kz_Ax {A x : Nat} (hA : A < 2) (h : x < 128) : kz_mt A x = A * x := by
  rcases (by omega : A = 0 ∨ A = 1) with rfl | rfl
  · rw [kz_A0 h, Nat.zero_mul]
  · rw [kz_A1 h, Nat.one_mul]
theorem kz_inv {b c : Nat} (h0 : 0 < b) (hb : b < 128) (hc : c < 128) : kz_mt b c = 1 ↔ c = kz_iv b := by
  constructor
  · intro h
    have z := kz_q2 h0 hb hc
    rw [h, kz_A1 (kz_ivl b)] at z
    exact z.symm
  · intro h
    have z := kz_q1 h0 hb (c := 1) (by decide)
    rw [kz_A1 (kz_ivl b)] at z
    rw [h]; exact z
theorem kz_iv0 : kz_iv 0 = 0 := by decide +kernel
theorem kz_bie (b i : Nat) : kz_bi b i = b / 2 ^ i % 2 := by
  show (b >>> i) % 2 = _
  rw [Nat.shiftRight_eq_div_pow]
/-! points -/
theorem kz_ple {A p : Nat} (h : kz_pt A p = true) : p ≤ 16384 := by
  unfold kz_pt at h
  cases z : Nat.ble 16384 p with
  | true =>
    rw [z] at h
    have : p = 16384 := kz_q h
    omega
  | false =>
    rcases Nat.lt_or_ge p 16384 with w | w
    · omega
    · rw [Nat.ble_eq_true_of_le w] at z; exact absurd z (by decide)
theorem kz_pO (A : Nat) : kz_pt A 16384 = true := rfl
theorem kz_plt {A p : Nat} (h : p < 16384) : kz_pt A p = kz_on A (p / 128) (p % 128) := by
  unfold kz_pt
  cases z : Nat.ble 16384 p with
  | true => have := Nat.le_of_ble_eq_true z; omega
  | false => rfl
theorem kz_ptA {A p : Nat} (hA : A < 2) (h : kz_pt A p = true) : ∃ i, i < kz_n A ∧ p = kz_e A i := by
  have hp := kz_ple h
  rcases (by omega : A = 0 ∨ A = 1) with rfl | rfl
  · have z := kz_all_of kz_ckc0 p (by omega)
    rw [h] at z
    obtain ⟨i, hi, e⟩ := kz_any_of (show kz_any (fun i => Nat.beq (kz_e 0 i) p) 116 = true from z)
    exact ⟨i, hi, (kz_q e).symm⟩
  · have z := kz_all_of kz_ckc1 p (by omega)
    rw [h] at z
    obtain ⟨i, hi, e⟩ := kz_any_of (show kz_any (fun i => Nat.beq (kz_e 1 i) p) 142 = true from z)
    exact ⟨i, hi, (kz_q e).symm⟩
theorem kz_n01 {A : Nat} (hA : A < 2) : 0 < kz_n A ∧ kz_n A ≤ 142 := by
  rcases (by omega : A = 0 ∨ A = 1) with rfl | rfl
  · exact ⟨by decide, by decide⟩
  · exact ⟨by decide, by decide⟩
theorem kz_Se {A i j : Nat} (hA : A < 2) (hi : i < kz_n A) (hj : j < kz_n A) : kz_S A (kz_e A i) (kz_e A j) = kz_e A ((i + j) % kz_n A) := by
  rcases (by omega : A = 0 ∨ A = 1) with rfl | rfl
  · exact kz_q (kz_all_of (kz_all_of kz_ckg0 i hi) j hj)
  · exact kz_q (kz_all_of (kz_all_of kz_ckg1 i hi) j hj)
theorem kz_ept {A i : Nat} (hA : A < 2) (hi : i < kz_n A) : kz_pt A (kz_e A i) = true := by
  rcases (by omega : A = 0 ∨ A = 1) with rfl | rfl
  · exact (kz_and (kz_all_of kz_cke0 i hi)).1
  · exact (kz_and (kz_all_of kz_cke1 i hi)).1
theorem kz_eng {A i : Nat} (hA : A < 2) (hi : i < kz_n A) : kz_pt A (kz_ng (kz_e A i)) = true := by
  rcases (by omega : A = 0 ∨ A = 1) with rfl | rfl
  · exact (kz_and (kz_and (kz_all_of kz_cke0 i hi)).2).1
  · exact (kz_and (kz_and (kz_all_of kz_cke1 i hi)).2).1
theorem kz_eO {A i : Nat} (hA : A < 2) (hi : i < kz_n A) (h : kz_e A i = 16384) : i = 0 := by
  rcases (by omega : A = 0 ∨ A = 1) with rfl | rfl
  · rcases kz_or (kz_and (kz_and (kz_all_of kz_cke0 i hi)).2).2 with z | z
    · exact kz_q z
    · rw [h] at z; exact absurd z (by decide)
  · rcases kz_or (kz_and (kz_and (kz_all_of kz_cke1 i hi)).2).2 with z | z
    · exact kz_q z
    · rw [h] at z; exact absurd z (by decide)
theorem kz_e0 {A : Nat} (hA : A < 2) : kz_e A 0 = 16384 := by
  rcases (by omega : A = 0 ∨ A = 1) with rfl | rfl
  · decide +kernel
  · decide +kernel
theorem kz_Spt {A p q : Nat} (hA : A < 2) (hp : kz_pt A p = true) (hq : kz_pt A q = true) : kz_pt A (kz_S A p q) = true := by
  obtain ⟨i, hi, rfl⟩ := kz_ptA hA hp
  obtain ⟨j, hj, rfl⟩ := kz_ptA hA hq
  rw [kz_Se hA hi hj]
  exact kz_ept hA (Nat.mod_lt _ (kz_n01 hA).1)
theorem kz_ngp {A p : Nat} (hA : A < 2) (hp : kz_pt A p = true) : kz_pt A (kz_ng p) = true := by
  obtain ⟨i, hi, rfl⟩ := kz_ptA hA hp
  exact kz_eng hA hi
theorem kz_x0 {A p : Nat} (hA : A < 2) (hp : kz_pt A p = true) (h : p < 128) : p = 1 := by
  rcases (by omega : A = 0 ∨ A = 1) with rfl | rfl
  · have z := kz_all_of kz_ckx0 p h
    rw [hp] at z; exact kz_q z
  · have z := kz_all_of kz_ckx1 p h
    rw [hp] at z; exact kz_q z
/-! the sum's cases -/
theorem kz_ng1 {p : Nat} (h : p ≠ 16384) : kz_ng p = 128 * (p / 128) + (p / 128 ^^^ p % 128) := by
  unfold kz_ng; rw [kz_bf h]; rfl
theorem kz_ngO : kz_ng 16384 = 16384 := rfl
theorem kz_ngl {p : Nat} (h : p ≤ 16384) : kz_ng p ≤ 16384 := by
  by_cases e : p = 16384
  · rw [e]; exact Nat.le_refl _
  · rw [kz_ng1 e]
    have := kz_xl (a := p / 128) (b := p % 128) (by omega) (by omega)
    omega
theorem kz_S1 (A q : Nat) : kz_S A 16384 q = q := rfl
theorem kz_S2 {A p : Nat} (h : p ≠ 16384) : kz_S A p 16384 = p := by
  unfold kz_S; rw [kz_bf h]; rfl
theorem kz_S3 {A p q : Nat} (h : p ≠ 16384) (h2 : q ≠ 16384) (h3 : q = kz_ng p) : kz_S A p q = 16384 := by
  unfold kz_S; rw [kz_bf h, kz_bf h2, kz_bt h3]; rfl
theorem kz_S4 {A p q : Nat} (h : p ≠ 16384) (h2 : q ≠ 16384) (h3 : q ≠ kz_ng p) (h4 : p / 128 = q / 128) : kz_S A p q = kz_a2 A (p / 128) (p / 128 ^^^ kz_mt (p % 128) (kz_iv (p / 128))) := by
  unfold kz_S kz_ad; rw [kz_bf h, kz_bf h2, kz_bf h3, kz_bt (a := Nat.div p 128) (b := Nat.div q 128) h4]; rfl
theorem kz_S5 {A p q : Nat} (h : p ≠ 16384) (h2 : q ≠ 16384) (h3 : q ≠ kz_ng p) (h4 : p / 128 ≠ q / 128) : kz_S A p q = kz_a1 A (p / 128) (p % 128) (q / 128) (kz_mt (p % 128 ^^^ q % 128) (kz_iv (p / 128 ^^^ q / 128))) := by
  unfold kz_S kz_ad; rw [kz_bf h, kz_bf h2, kz_bf h3, kz_bf (a := Nat.div p 128) (b := Nat.div q 128) h4]; rfl
theorem kz_dx {A p q : Nat} (hA : A < 2) (hp : kz_pt A p = true) (hq : kz_pt A q = true) (h3 : q ≠ kz_ng p) (h4 : p / 128 = q / 128) : 0 < p / 128 := by
  rcases Nat.eq_zero_or_pos (p / 128) with z | z
  · have e1 := kz_x0 hA hp (by omega)
    have e2 := kz_x0 hA hq (by omega)
    rw [e1, e2] at h3
    exact absurd (by decide +kernel) h3
  · exact z
theorem kz_xp {a b : Nat} (h : a ≠ b) : 0 < a ^^^ b := by
  rcases Nat.eq_zero_or_pos (a ^^^ b) with z | z
  · have w := congrArg (fun t => t ^^^ b) z
    rw [Nat.xor_assoc, Nat.xor_self, Nat.xor_zero, Nat.zero_xor] at w
    exact absurd w h
  · exact z
/-! ranks -/
theorem kz_rk0 (A : Nat) : kz_rk A 0 = 0 := rfl
theorem kz_rks (A q : Nat) : kz_rk A (q + 1) = kz_rk A q + cond (kz_pt A q) 1 0 := rfl
theorem kz_rkt {A q : Nat} (h : kz_pt A q = true) : kz_rk A (q + 1) = kz_rk A q + 1 := by rw [kz_rks, h]; rfl
theorem kz_rkf {A q : Nat} (h : kz_pt A q = false) : kz_rk A (q + 1) = kz_rk A q := by rw [kz_rks, h]; rfl
theorem kz_rkw (A x : Nat) : ∀ y, kz_rk A (128 * x + y) = kz_rk A (128 * x) + kz_rw A x y := by
  intro y
  induction y with
  | zero => rfl
  | succ y ih =>
    have e : kz_rw A x (y + 1) = kz_rw A x y + cond (kz_pt A (128 * x + y)) 1 0 := rfl
    rw [e, ← Nat.add_assoc, kz_rks, ih]; omega
theorem kz_rwl {A x : Nat} (hA : A < 2) (hx : x < 128) : kz_rw A x 128 ≤ 2 := by
  rcases (by omega : A = 0 ∨ A = 1) with rfl | rfl
  · exact Nat.le_of_ble_eq_true (kz_all_of kz_ckw0 x hx)
  · exact Nat.le_of_ble_eq_true (kz_all_of kz_ckw1 x hx)
theorem kz_rkx {A : Nat} (hA : A < 2) : ∀ x, x ≤ 128 → kz_rk A (128 * x) ≤ 2 * x := by
  intro x
  induction x with
  | zero => intro _; exact Nat.le_refl _
  | succ x ih =>
    intro h
    have e : 128 * (x + 1) = 128 * x + 128 := by omega
    rw [e, kz_rkw]
    have := ih (by omega)
    have := kz_rwl (x := x) hA (by omega)
    omega
theorem kz_rkm (A q : Nat) : ∀ d, kz_rk A q ≤ kz_rk A (q + d) := by
  intro d
  induction d with
  | zero => exact Nat.le_refl _
  | succ d ih => rw [← Nat.add_assoc, kz_rks]; omega
theorem kz_rkl {A q : Nat} (hA : A < 2) (h : q ≤ 16384) : kz_rk A q ≤ 256 := by
  have h1 := kz_rkm A q (16384 - q)
  have h2 := kz_rkx hA 128 (Nat.le_refl _)
  rw [show q + (16384 - q) = 128 * 128 from by omega] at h1
  omega
theorem kz_rkl2 {A q : Nat} (hA : A < 2) (h : q ≤ 16385) : kz_rk A q ≤ 257 := by
  rcases Nat.lt_or_ge 16384 q with z | z
  · rw [show q = 16384 + 1 from by omega, kz_rkt (kz_pO A)]
    have := kz_rkl (q := 16384) hA (Nat.le_refl _)
    omega
  · have := kz_rkl hA z
    omega
theorem kz_rkp {A q : Nat} (hq : q ≤ 16384) (h : kz_pt A q = true) : kz_rk A q < kz_rk A 16385 := by
  have h1 := kz_rkm A (q + 1) (16384 - q)
  rw [show q + 1 + (16384 - q) = 16385 from by omega, kz_rkt h] at h1
  omega
/-! the multiples of a point -/
theorem kz_cyc {A p : Nat} (hA : A < 2) (hp : kz_pt A p = true) : ∃ (m : Nat → Nat) (d : Nat), 1 ≤ d ∧ d ≤ 142 ∧ m 0 = 16384 ∧ m 1 = p ∧ (∀ k, kz_pt A (m k) = true) ∧ (∀ k l, kz_S A (m k) (m l) = m (k + l)) ∧ m d = 16384 ∧ (∀ k, 1 ≤ k → k < d → m k ≠ 16384) ∧ (∀ k, m (k % d) = m k) := by
  obtain ⟨i, hi, rfl⟩ := kz_ptA hA hp
  obtain ⟨hn, hn2⟩ := kz_n01 hA
  obtain ⟨d, hd, hl⟩ := pk_least (fun k => ((k + 1) * i) % kz_n A = 0) ⟨kz_n A - 1, by
    show ((kz_n A - 1 + 1) * i) % kz_n A = 0
    rw [Nat.sub_add_cancel hn, Nat.mul_mod_right]⟩
  have hdn : d < kz_n A := by
    rcases Nat.lt_or_ge d (kz_n A) with z | z
    · exact z
    · have : ((kz_n A - 1 + 1) * i) % kz_n A = 0 := by rw [Nat.sub_add_cancel hn, Nat.mul_mod_right]
      exact absurd this (hl (kz_n A - 1) (by omega))
  have hS : ∀ k l, kz_S A (kz_e A ((k * i) % kz_n A)) (kz_e A ((l * i) % kz_n A)) = kz_e A (((k + l) * i) % kz_n A) := by
    intro k l
    rw [kz_Se hA (Nat.mod_lt _ hn) (Nat.mod_lt _ hn), Nat.add_mul, ← Nat.add_mod]
  have hO : kz_e A (((d + 1) * i) % kz_n A) = 16384 := by
    have hd' : ((d + 1) * i) % kz_n A = 0 := hd
    rw [hd', kz_e0 hA]
  have hper : ∀ k, kz_e A (((d + 1 + k) * i) % kz_n A) = kz_e A ((k * i) % kz_n A) := by
    intro k
    rw [← hS, hO, kz_S1]
  refine ⟨fun k => kz_e A ((k * i) % kz_n A), d + 1, by omega, by omega, ?_, ?_, ?_, hS, hO, ?_, ?_⟩
  · show kz_e A ((0 * i) % kz_n A) = 16384
    rw [Nat.zero_mul, Nat.zero_mod, kz_e0 hA]
  · show kz_e A ((1 * i) % kz_n A) = kz_e A i
    rw [Nat.one_mul, Nat.mod_eq_of_lt hi]
  · intro k
    exact kz_ept hA (Nat.mod_lt _ hn)
  · intro k h1 h2 h3
    have z := kz_eO hA (Nat.mod_lt _ hn) h3
    have w := hl (k - 1) (by omega)
    rw [show k - 1 + 1 = k from by omega] at w
    exact w z
  · intro k
    induction k using Nat.strongRecOn with
    | ind k ih =>
      rcases Nat.lt_or_ge k (d + 1) with z | z
      · rw [Nat.mod_eq_of_lt z]
      · have e := ih (k - (d + 1)) (by omega)
        rw [Nat.mod_eq_sub_mod z, e]
        have w := hper (k - (d + 1))
        rw [show d + 1 + (k - (d + 1)) = k from by omega] at w
        exact w.symm
end
section
/-! the component's walks -/
theorem kx_bit {b i : Nat} (hb : b < 2 ^ 31) (hi : i < 32) : (nI b >>> (nI i &&& 31)) &&& 1 = nI (b / 2 ^ i % 2) := by
  rw [pk_shrN hb _ i (s_l i hi), pk_andN (m := 1) (Nat.lt_of_le_of_lt (Nat.div_le_self _ _) (by omega)) 1 (by decide)]
theorem kx_26 {post : Int32 → Prop} {J : Int32 → Int32 → Prop} {a b r i : Nat} (hb : b < 128) (hi : i < 7) (h : J (nI (r ^^^ a * kz_bi b i)) (nI i + (-1))) : wX_product_26 post J (nI a) (nI b) (nI r) (nI i) := by
  have e := kx_bit (b := b) (i := i) (by omega) (by omega)
  rw [kz_bie] at h
  unfold wX_product_26
  refine pk_eq (b / 2 ^ i % 2) 1 (fun h1 => ?_) (fun h0 => ?_) e rfl (by omega) (by omega)
  · rw [h1, Nat.mul_one] at h
    exact nm_r (nx_xor r a) (nm_e h)
  · rw [show b / 2 ^ i % 2 = 0 from by omega, Nat.mul_zero, Nat.xor_zero] at h
    exact nm_e h
theorem kx_5 {post : Int32 → Prop} {a b r i n : Nat} (hb : b < 128) (hr : r < 128) (hi : i < 7) (h : wX_product_5 post (nI a) (nI b) n (nI (kz_xs a b i r)) (nI i + (-1))) : wX_product_5 post (nI a) (nI b) (n + 1) (nI r) (nI i) := by
  refine br_f (nI_pos (by omega)) ?_
  refine nm_r (e' := nI (r * 2)) (pk_shlN (n := r) ((1 : Int32) &&& 31) 1 (by decide) (by omega)) ?_
  refine pk_lt (r * 2) 128 (fun hlt => ?_) (fun hge => ?_)
  · refine kx_26 hb hi ?_
    rw [← kz_rd1 hr hlt]; exact h
  · refine nm_r (nx_xor (r * 2) 131) (kx_26 hb hi ?_)
    rw [← kz_rd2 hr hge]; exact h
theorem kx_xsl {a b i r : Nat} (ha : a < 128) (hr : r < 128) : kz_xs a b i r < 128 := by
  have h1 := kz_rd3 hr
  have h2 : a * kz_bi b i < 128 := by
    have : kz_bi b i < 2 := Nat.mod_lt _ (by decide)
    rcases (by omega : kz_bi b i = 0 ∨ kz_bi b i = 1) with z | z
    · rw [z]; omega
    · rw [z]; omega
  exact kz_xl h1 h2
theorem kx_prod {post : Int32 → Prop} {a b : Nat} (ha : a < 128) (hb : b < 128) (h : post (nI (kz_mt a b))) : wpX_product post (nI a) (nI b) := by
  rw [← kz_mxe ha hb] at h
  refine ⟨8, ?_⟩
  have h0 : (0 : Nat) < 128 := by decide
  have h6 := kx_xsl (b := b) (i := 6) ha h0
  have h5 := kx_xsl (b := b) (i := 5) ha h6
  have h4 := kx_xsl (b := b) (i := 4) ha h5
  have h3 := kx_xsl (b := b) (i := 3) ha h4
  have h2 := kx_xsl (b := b) (i := 2) ha h3
  have h1 := kx_xsl (b := b) (i := 1) ha h2
  refine kx_5 (i := 6) (r := 0) hb h0 (by decide) ?_
  rw [pk_m1 5]
  refine kx_5 (i := 5) hb h6 (by decide) ?_
  rw [pk_m1 4]
  refine kx_5 (i := 4) hb h5 (by decide) ?_
  rw [pk_m1 3]
  refine kx_5 (i := 3) hb h4 (by decide) ?_
  rw [pk_m1 2]
  refine kx_5 (i := 2) hb h3 (by decide) ?_
  rw [pk_m1 1]
  refine kx_5 (i := 1) hb h2 (by decide) ?_
  rw [pk_m1 0]
  refine kx_5 (i := 0) hb h1 (by decide) ?_
  exact br_t (by decide) h
theorem kx_pr {post : Int32 → Prop} {x y : Int32} (a b : Nat) (hx : x = nI a) (hy : y = nI b) (ha : a < 128) (hb : b < 128) (h : post (nI (kz_mt a b))) : wpX_product post x y := by
  subst hx hy
  exact kx_prod ha hb h
theorem kx_qu {post : Int32 → Prop} {x y : Int32} (a b : Nat) (hx : x = nI a) (hy : y = nI b) (ha : a < 128) (h0 : 0 < b) (hb : b < 128) (h : post (nI (kz_mt a (kz_iv b)))) : wpX_quotient post x y := by
  subst hx hy
  have ht := kz_mtl a (kz_iv b)
  have key : ∀ d c, c + d = kz_mt a (kz_iv b) → wX_quotient_2 post (nI a) (nI b) (d + 1) (nI c) := by
    intro d
    induction d with
    | zero =>
      intro c hc
      refine br_f (nI_ge (b := 128) (by omega) (by decide)) ?_
      refine kx_prod hb (by omega) ?_
      refine br_t ?_ ?_
      · rw [show c = kz_mt a (kz_iv b) from by omega, kz_q1 h0 hb ha]
      · rw [show c = kz_mt a (kz_iv b) from by omega]; exact h
    | succ d ih =>
      intro c hc
      refine br_f (nI_ge (b := 128) (by omega) (by decide)) ?_
      refine kx_prod hb (by omega) ?_
      refine br_f ?_ (nm_r (nI_1 c) (ih (c + 1) (by omega)))
      intro e
      have e' := (nI_eq (Nat.lt_trans (kz_mtl b c) (by decide)) (by omega)).mp e
      have z := kz_q2 h0 hb (c := c) (by omega)
      rw [e'] at z
      omega
  exact ⟨_, key (kz_mt a (kz_iv b)) 0 (by omega)⟩
theorem kx_xOf {post : Int32 → Prop} {p : Nat} (hp : p ≤ 16384) (h : post (nI (p / 128))) : wpX_xOf post (nI p) :=
  ⟨by decide, kz_at (P := post) (pk_div (a := p) (d := 128) (by omega) (by decide) (by decide)) h⟩
theorem kx_yOf {post : Int32 → Prop} {p : Nat} (hp : p ≤ 16384) (h : post (nI (p % 128))) : wpX_yOf post (nI p) :=
  ⟨by decide, kz_at (P := post) (pk_rem (a := p) (d := 128) (by omega) (by decide) (by decide)) h⟩
theorem kx_pO {post : Int32 → Prop} {x y : Int32} (a b : Nat) (hx : x = nI a) (hy : y = nI b) (h : post (nI (128 * a + b))) : wpX_pointOf post x y := by
  subst hx hy
  refine kz_at (P := post) ?_ h
  rw [← nI_add, ← pk_mul]; rfl
theorem kx_neg {post : Int32 → Prop} {p : Nat} (hp : p ≤ 16384) (h : post (nI (kz_ng p))) : wpX_negative post (nI p) := by
  unfold wpX_negative
  refine pk_eq p 16384 (fun e => ?_) (fun e => ?_)
  · rw [e] at h; exact h
  · rw [kz_ng1 e] at h
    exact kx_xOf hp (kx_yOf hp (kx_pO _ _ rfl (nx_xor _ _) h))
theorem kx_isP {post : Int32 → Prop} {A p : Nat} (hA : A < 2) (hp : p ≤ 16384) (h : post (if kz_pt A p = true then 1 else 0)) : wpX_isPoint post (nI A) (nI p) := by
  unfold wpX_isPoint
  refine br_f (nI_pos (by omega)) ?_
  refine br_t (nI_le (b := 16384) hp (by decide)) ?_
  refine pk_eq p 16384 (fun e => ?_) (fun e => ?_)
  · rw [e, kz_pO] at h; exact h
  · have hx : p / 128 < 128 := by omega
    have hy : p % 128 < 128 := by omega
    rw [kz_plt (by omega)] at h
    refine kx_xOf hp (kx_yOf hp ?_)
    generalize p / 128 = x at *
    generalize p % 128 = y at *
    refine kx_prod hx hx (kx_prod hy hy (kx_prod hx hy (nm_r (nx_xor _ _) ?_)))
    refine kx_prod (kz_mtl _ _) hx (kx_prod (by omega) (kz_mtl _ _) ?_)
    refine nm_r (e' := nI (kz_mt (kz_mt x x) x ^^^ A * kz_mt x x ^^^ 1)) (by rw [kz_Ax hA (kz_mtl _ _), nx_xor]; exact nx_xor _ 1) ?_
    have l1 := kz_xl (kz_mtl y y) (kz_mtl x y)
    have l2 : kz_mt (kz_mt x x) x ^^^ A * kz_mt x x ^^^ 1 < 128 := by
      rw [← kz_Ax hA (kz_mtl _ _)]
      exact kz_xl (kz_xl (kz_mtl _ _) (kz_mtl _ _)) (by decide)
    refine pk_eq (kz_mt y y ^^^ kz_mt x y) (kz_mt (kz_mt x x) x ^^^ A * kz_mt x x ^^^ 1) (fun f => ?_) (fun f => ?_)
    · have e2 : kz_on A x y = true := kz_bt f
      rw [e2] at h; exact h
    · have e2 : kz_on A x y = false := kz_bf f
      rw [e2] at h; exact h
theorem kx_isP1 {post : Int32 → Prop} {A p : Nat} (hA : A < 2) (hp : kz_pt A p = true) (h : post 1) : wpX_isPoint post (nI A) (nI p) :=
  kx_isP hA (kz_ple hp) (by rw [hp]; exact h)
theorem kx_isP0 {post : Int32 → Prop} {A p : Nat} (hA : A < 2) (hl : p ≤ 16384) (hp : kz_pt A p = false) (h : post 0) : wpX_isPoint post (nI A) (nI p) :=
  kx_isP hA hl (by rw [hp]; exact h)
theorem kx_sum {post : Int32 → Prop} {A p q : Nat} (hA : A < 2) (hp : kz_pt A p = true) (hq : kz_pt A q = true) (h : post (nI (kz_S A p q))) : wpX_sum post (nI A) (nI p) (nI q) := by
  have lp := kz_ple hp
  have lq := kz_ple hq
  have ln := kz_ngl lp
  have hA' : A < 128 := by omega
  unfold wpX_sum
  refine pk_eq p 16384 (fun e => ?_) (fun e => ?_)
  · rw [e, kz_S1] at h; exact h
  refine pk_eq q 16384 (fun f => ?_) (fun f => ?_)
  · rw [f, kz_S2 e] at h; exact h
  refine kx_neg lp ?_
  refine pk_eq q (kz_ng p) (fun g => ?_) (fun g => ?_)
  · rw [kz_S3 e f g] at h; exact h
  refine kx_xOf lp (kx_yOf lp (kx_xOf lq (kx_yOf lq ?_)))
  refine pk_eq (p / 128) (q / 128) (fun w => ?_) (fun w => ?_)
  · have hx0 := kz_dx hA hp hq g w
    rw [kz_S4 e f g w] at h
    have hx : p / 128 < 128 := by omega
    have hy : p % 128 < 128 := by omega
    generalize p / 128 = x at *
    generalize p % 128 = y at *
    refine kx_qu y x rfl rfl hy hx0 hx ?_
    refine nm_r (nx_xor _ _) ?_
    have hl := kz_xl hx (kz_mtl y (kz_iv x))
    generalize x ^^^ kz_mt y (kz_iv x) = l at *
    refine kx_prod hl hl ?_
    refine nm_r (e' := nI (kz_mt l l ^^^ l ^^^ A)) (by rw [nx_xor, nx_xor]) ?_
    have hs := kz_xl (kz_xl (kz_mtl l l) hl) hA'
    refine kx_prod hx hx ?_
    refine kx_pr (l ^^^ 1) _ (nx_xor l 1) rfl (kz_xl hl (by decide)) hs ?_
    refine nm_r (nx_xor _ _) ?_
    unfold wX_sum_159
    exact kx_pO _ _ rfl rfl h
  · rw [kz_S5 e f g w] at h
    have hx : p / 128 < 128 := by omega
    have hy : p % 128 < 128 := by omega
    have hu : q / 128 < 128 := by omega
    have hv : q % 128 < 128 := by omega
    generalize p / 128 = x at *
    generalize p % 128 = y at *
    generalize q / 128 = u at *
    generalize q % 128 = v at *
    refine kx_qu (y ^^^ v) (x ^^^ u) (nx_xor _ _) (nx_xor _ _) (kz_xl hy hv) (kz_xp w) (kz_xl hx hu) ?_
    have hl := kz_mtl (y ^^^ v) (kz_iv (x ^^^ u))
    generalize kz_mt (y ^^^ v) (kz_iv (x ^^^ u)) = l at *
    refine kx_prod hl hl ?_
    refine nm_r (e' := nI (kz_mt l l ^^^ l ^^^ x ^^^ u ^^^ A)) (by rw [nx_xor, nx_xor, nx_xor, nx_xor]) ?_
    have hs := kz_xl (kz_xl (kz_xl (kz_xl (kz_mtl l l) hl) hx) hu) hA'
    refine kx_pr l _ rfl (nx_xor x _) hl (kz_xl hx hs) ?_
    refine nm_r (e' := nI (kz_mt l (x ^^^ (kz_mt l l ^^^ l ^^^ x ^^^ u ^^^ A)) ^^^ (kz_mt l l ^^^ l ^^^ x ^^^ u ^^^ A) ^^^ y)) (by rw [nx_xor, nx_xor]) ?_
    unfold wX_sum_159
    exact kx_pO _ _ rfl rfl h
end
section
/-! the reference's walks -/
theorem ky_33 {post : Int32 → Prop} {J : Int32 → Int32 → Int32 → Prop} {x2 z0 fa fc : Int32} {ai al : Nat → Int32} {s i : Nat} (hs : s < 128) (h : J z0 (nI (kz_rd (s * 2))) (nI (i + 1))) : wY_product_33 post J x2 (nI s) (nI i) z0 fa fc ai al := by
  unfold wY_product_33
  refine nm_r (e' := nI (s * 2)) (pk_shlN (n := s) ((1 : Int32) &&& 31) 1 (by decide) (by omega)) ?_
  refine pk_le (s * 2) 127 (fun hle => ?_) (fun hgt => ?_)
  · rw [kz_rd1 hs (by omega)] at h
    exact nm_r (nI_1 i) h
  · rw [kz_rd2 hs (by omega)] at h
    exact nm_r (nx_xor (s * 2) 131) (nm_r (nI_1 i) h)
theorem ky_8 {post : Int32 → Prop} {fa fc : Int32} {ai al : Nat → Int32} {a b i n : Nat} (hb : b < 128) (hs : kz_sh a i < 128) (hi : i < 7) (h : wY_product_8 post (nI b) fa fc ai al n (nI (kz_sm a b (i + 1))) (nI (kz_sh a (i + 1))) (nI (i + 1))) : wY_product_8 post (nI b) fa fc ai al (n + 1) (nI (kz_sm a b i)) (nI (kz_sh a i)) (nI i) := by
  have e := kx_bit (b := b) (i := i) (by omega) (by omega)
  have es : kz_sm a b (i + 1) = kz_sm a b i ^^^ kz_sh a i * kz_bi b i := rfl
  have eh : kz_sh a (i + 1) = kz_rd (kz_sh a i * 2) := rfl
  rw [es, eh, kz_bie] at h
  refine br_f (nI_ge (b := 7) hi (by decide)) ?_
  refine pk_eq (b / 2 ^ i % 2) 1 (fun h1 => ?_) (fun h0 => ?_) e rfl (by omega) (by omega)
  · rw [h1, Nat.mul_one] at h
    rw [nx_xor]
    exact ky_33 hs h
  · rw [show b / 2 ^ i % 2 = 0 from by omega, Nat.mul_zero, Nat.xor_zero] at h
    exact ky_33 hs h
theorem ky_shl {a : Nat} (ha : a < 128) : ∀ i, kz_sh a i < 128 := by
  intro i
  induction i with
  | zero => exact ha
  | succ i ih => exact kz_rd3 ih
theorem ky_pr {post : Int32 → Prop} {fa fc : Int32} {ai al : Nat → Int32} {x y : Int32} (a b : Nat) (hx : x = nI a) (hy : y = nI b) (ha : a < 128) (hb : b < 128) (h : post (nI (kz_mt a b))) : wpY_product post (fa, fc, ai, al) x y := by
  subst hx hy
  rw [← kz_sme ha hb] at h
  have key : ∀ d i, i + d = 7 → wY_product_8 post (nI b) fa fc ai al (d + 1) (nI (kz_sm a b i)) (nI (kz_sh a i)) (nI i) := by
    intro d
    induction d with
    | zero =>
      intro i hi
      rw [show i = 7 from by omega]
      exact br_t (by decide) h
    | succ d ih =>
      intro i hi
      exact ky_8 hb (ky_shl ha i) (by omega) (ih (i + 1) (by omega))
  exact ⟨8, key 7 0 rfl⟩
theorem ky_isOn {post : Int32 → Prop} {fc : Int32} {ai al : Nat → Int32} {x' y' : Int32} {A : Nat} (x y : Nat) (ex : x' = nI x) (ey : y' = nI y) (hA : A < 2) (hx : x < 128) (hy : y < 128) (h : post (if kz_on A x y = true then 1 else 0)) : wpY_isOn post (nI A, fc, ai, al) x' y' := by
  subst ex ey
  unfold wpY_isOn
  dsimp only
  refine ky_pr x x rfl rfl hx hx ?_
  refine ky_pr _ x rfl rfl (kz_mtl _ _) hx ?_
  refine ky_pr y y rfl rfl hy hy ?_
  refine ky_pr x y rfl rfl hx hy ?_
  have l1 := kz_xl (kz_mtl y y) (kz_mtl x y)
  have l2 : kz_mt (kz_mt x x) x ^^^ A * kz_mt x x ^^^ 1 < 128 := by
    rw [← kz_Ax hA (kz_mtl _ _)]
    exact kz_xl (kz_xl (kz_mtl _ _) (kz_mtl _ _)) (by decide)
  have key : ∀ z0, z0 = nI (A * kz_mt x x) → wY_isOn_43 post z0 (nI (kz_mt (kz_mt x x) x)) (nI (kz_mt y y) ^^^ nI (kz_mt x y)) (nI A) fc ai al := by
    intro z0 ez
    subst ez
    unfold wY_isOn_43
    refine pk_eq (kz_mt y y ^^^ kz_mt x y) (kz_mt (kz_mt x x) x ^^^ A * kz_mt x x ^^^ 1) (fun f => ?_) (fun f => ?_) (nx_xor _ _) (by rw [nx_xor]; exact nx_xor _ 1)
    · have e2 : kz_on A x y = true := kz_bt f
      rw [e2] at h; exact h
    · have e2 : kz_on A x y = false := kz_bf f
      rw [e2] at h; exact h
  refine pk_eq A 1 (fun e => ?_) (fun e => ?_)
  · exact key _ (by rw [e, Nat.one_mul])
  · exact key _ (by rw [show A = 0 from by omega, Nat.zero_mul]; rfl)
theorem ky_isP {post : Int32 → Prop} {fc : Int32} {ai al : Nat → Int32} {A p : Nat} (hA : A < 2) (hp : p ≤ 16384) (h : post (if kz_pt A p = true then 1 else 0)) : wpY_isPoint post (nI A, fc, ai, al) (nI p) := by
  unfold wpY_isPoint
  dsimp only
  refine pk_eq p 16384 (fun e => ?_) (fun e => ?_)
  · rw [e, kz_pO] at h; exact h
  · refine br_f (nI_pos (by omega)) ?_
    refine br_f (nI_ge (b := 16384) (by omega) (by decide)) ?_
    refine ⟨by decide, by decide, ?_⟩
    rw [kz_plt (by omega)] at h
    refine ky_isOn (p / 128) (p % 128) (pk_div (a := p) (d := 128) (by omega) (by decide) (by decide)) (pk_rem (a := p) (d := 128) (by omega) (by decide) (by decide)) hA (by omega) (by omega) ?_
    cases z : kz_on A (p / 128) (p % 128) with
    | true => rw [z] at h; exact br_f (by decide) h
    | false => rw [z] at h; exact br_t (by decide) h
theorem ky_isP1 {post : Int32 → Prop} {fc : Int32} {ai al : Nat → Int32} {A p : Nat} (hA : A < 2) (hp : kz_pt A p = true) (h : post 1) : wpY_isPoint post (nI A, fc, ai, al) (nI p) :=
  ky_isP hA (kz_ple hp) (by rw [hp]; exact h)
theorem ky_isP0 {post : Int32 → Prop} {fc : Int32} {ai al : Nat → Int32} {A p : Nat} (hA : A < 2) (hl : p ≤ 16384) (hp : kz_pt A p = false) (h : post 0) : wpY_isPoint post (nI A, fc, ai, al) (nI p) :=
  ky_isP hA hl (by rw [hp]; exact h)
theorem ky_qu {post : Int32 → Prop} {fa fc : Int32} {ai al : Nat → Int32} {x y : Int32} (hv : ∀ j, j < 128 → ai j = nI (kz_iv j)) (a b : Nat) (hx : x = nI a) (hy : y = nI b) (ha : a < 128) (hb : b < 128) (h : post (nI (kz_mt a (kz_iv b)))) : wpY_quotient post (fa, fc, ai, al) x y := by
  subst hx hy
  unfold wpY_quotient
  dsimp only
  refine ⟨vp_in_nI hb (by decide), ?_⟩
  rw [nI_clamp (by omega), hv b hb]
  exact ky_pr a (kz_iv b) rfl rfl ha (kz_ivl b) h
theorem ky_neg {post : Int32 → Prop} {fa fc : Int32} {ai al : Nat → Int32} {p : Nat} (hp : p ≤ 16384) (h : post (nI (kz_ng p))) : wpY_negative post (fa, fc, ai, al) (nI p) := by
  unfold wpY_negative
  dsimp only
  refine pk_eq p 16384 (fun e => ?_) (fun e => ?_)
  · rw [e] at h; exact h
  · rw [kz_ng1 e] at h
    refine ⟨by decide, by decide, by decide, kz_at (P := post) ?_ h⟩
    have e1 : nI p / 128 = nI (p / 128) := pk_div (a := p) (d := 128) (by omega) (by decide) (by decide)
    have e2 : nI p - nI p / 128 * 128 = nI (p % 128) := pk_rem (a := p) (d := 128) (by omega) (by decide) (by decide)
    rw [e2, e1, nx_xor, ← nI_add, ← pk_mul]; rfl
theorem ky_pO (s t : Nat) {z : Int32} (hz : z = nI t) : (128 * nI s) + z = nI (128 * s + t) := by
  subst hz
  rw [← nI_add, ← pk_mul]; rfl
theorem ky_sum {post : Int32 → Prop} {fc : Int32} {ai al : Nat → Int32} (hv : ∀ j, j < 128 → ai j = nI (kz_iv j)) {A p q : Nat} (hA : A < 2) (hp : kz_pt A p = true) (hq : kz_pt A q = true) (h : post (nI (kz_S A p q))) : wpY_sum post (nI A, fc, ai, al) (nI p) (nI q) := by
  have lp := kz_ple hp
  have lq := kz_ple hq
  have ln := kz_ngl lp
  have hA' : A < 128 := by omega
  unfold wpY_sum
  dsimp only
  refine pk_eq p 16384 (fun e => ?_) (fun e => ?_)
  · rw [e, kz_S1] at h
    exact br_t (by rw [e]; rfl) h
  refine pk_eq q 16384 (fun f => ?_) (fun f => ?_)
  · rw [f, kz_S2 e] at h
    exact pk_eq p 16384 (fun z => absurd z e) (fun _ => h)
  refine ky_neg lp ?_
  refine pk_eq q (kz_ng p) (fun g => ?_) (fun g => ?_)
  · rw [kz_S3 e f g] at h; exact h
  refine ⟨by decide, nm_r (pk_div (a := p) (d := 128) (by omega) (by decide) (by decide)) ?_⟩
  refine ⟨by decide, nm_r (pk_rem (a := p) (d := 128) (by omega) (by decide) (by decide)) ?_⟩
  refine ⟨by decide, nm_r (pk_div (a := q) (d := 128) (by omega) (by decide) (by decide)) ?_⟩
  refine ⟨by decide, nm_r (pk_rem (a := q) (d := 128) (by omega) (by decide) (by decide)) ?_⟩
  refine pk_eq (p / 128) (q / 128) (fun w => ?_) (fun w => ?_)
  · rw [kz_S4 e f g w] at h
    have hx : p / 128 < 128 := by omega
    have hy : p % 128 < 128 := by omega
    generalize p / 128 = x at *
    generalize p % 128 = y at *
    refine ky_qu hv y x rfl rfl hy hx ?_
    refine nm_r (nx_xor _ _) ?_
    have hl := kz_xl hx (kz_mtl y (kz_iv x))
    generalize x ^^^ kz_mt y (kz_iv x) = l at *
    refine ky_pr l l rfl rfl hl hl ?_
    refine nm_r (e' := nI (kz_mt l l ^^^ l ^^^ A)) (by rw [nx_xor, nx_xor]) ?_
    have hs := kz_xl (kz_xl (kz_mtl l l) hl) hA'
    refine ky_pr x x rfl rfl hx hx ?_
    refine ky_pr (l ^^^ 1) _ (nx_xor l 1) rfl (kz_xl hl (by decide)) hs ?_
    exact kz_at (P := post) (ky_pO _ _ (nx_xor _ _)) h
  · rw [kz_S5 e f g w] at h
    have hx : p / 128 < 128 := by omega
    have hy : p % 128 < 128 := by omega
    have hu : q / 128 < 128 := by omega
    have hw : q % 128 < 128 := by omega
    generalize p / 128 = x at *
    generalize p % 128 = y at *
    generalize q / 128 = u at *
    generalize q % 128 = v at *
    refine ky_qu hv (y ^^^ v) (x ^^^ u) (nx_xor _ _) (nx_xor _ _) (kz_xl hy hw) (kz_xl hx hu) ?_
    have hl := kz_mtl (y ^^^ v) (kz_iv (x ^^^ u))
    generalize kz_mt (y ^^^ v) (kz_iv (x ^^^ u)) = l at *
    refine ky_pr l l rfl rfl hl hl ?_
    refine nm_r (e' := nI (kz_mt l l ^^^ l ^^^ x ^^^ u ^^^ A)) (by rw [nx_xor, nx_xor, nx_xor, nx_xor]) ?_
    have hs := kz_xl (kz_xl (kz_xl (kz_xl (kz_mtl l l) hl) hx) hu) hA'
    refine ky_pr l _ rfl (nx_xor x _) hl (kz_xl hx hs) ?_
    exact kz_at (P := post) (ky_pO _ _ (by rw [nx_xor, nx_xor]; rfl)) h
end
section
/-! the reference's constructor -/
def kq_Q (b c : Nat) (ai : Nat → Int32) : Prop := (∀ j, j < b → ai j = nI (kz_iv j)) ∧ ai b = nI (if kz_iv b < c then kz_iv b else 0) ∧ (∀ j, b < j → ai j = 0)
def kq_T (A q : Nat) (al : Nat → Int32) : Prop := ∀ r, r < q → kz_pt A r = true → al (kz_rk A r) = nI r
theorem kq_Qt {b c : Nat} {ai : Nat → Int32} (h : kq_Q b c ai) (e : c = kz_iv b) : kq_Q b (c + 1) (upd ai b (nI c)) := by
  obtain ⟨h1, h2, h3⟩ := h
  refine ⟨fun j hj => ?_, ?_, fun j hj => ?_⟩
  · rw [pk_un (by omega)]; exact h1 j hj
  · rw [pk_us, if_pos (by omega), e]
  · rw [pk_un (by omega)]; exact h3 j hj
theorem kq_Qf {b c : Nat} {ai : Nat → Int32} (h : kq_Q b c ai) (e : c ≠ kz_iv b) : kq_Q b (c + 1) (upd ai b (ai b)) := by
  obtain ⟨h1, h2, h3⟩ := h
  refine ⟨fun j hj => ?_, ?_, fun j hj => ?_⟩
  · rw [pk_un (by omega)]; exact h1 j hj
  · rw [pk_us, h2]
    by_cases z : kz_iv b < c
    · rw [if_pos z, if_pos (by omega)]
    · rw [if_neg z, if_neg (by omega)]
  · rw [pk_un (by omega)]; exact h3 j hj
theorem kq_47 {post : SY → Prop} {J : Int32 → (Nat → Int32) → (Nat → Int32) → Prop} {fa fc : Int32} {al : Nat → Int32} {b : Nat} (h0 : 0 < b) (hb : b < 128) (hJ : ∀ ai, kq_Q b 128 ai → J (nI (b + 1)) ai al) : ∀ d c ai, c + d = 128 → kq_Q b c ai → wY_init_47 post J (nI b) fa fc (d + 1) (nI c) ai al := by
  intro d
  induction d with
  | zero =>
    intro c ai hc hQ
    rw [show c = 128 from by omega] at hQ ⊢
    exact br_t (by decide) (nm_r (nI_1 b) (hJ ai hQ))
  | succ d ih =>
    intro c ai hc hQ
    refine br_f (nI_ge (b := 128) (by omega) (by decide)) ?_
    refine ky_pr b c rfl rfl hb (by omega) ?_
    have hi : vp_in (nI b) 128 := vp_in_nI hb (by decide)
    have hm := kz_mtl b c
    have ec : (nI b).toNatClampNeg = b := nI_clamp (by omega)
    rw [ec]
    refine pk_eq (kz_mt b c) 1 (fun e => ?_) (fun e => ?_)
    · refine ⟨hi, nm_e (nm_r (nI_1 c) (ih (c + 1) _ (by omega) (kq_Qt hQ ?_)))⟩
      exact (kz_inv h0 hb (by omega)).mp e
    · refine ⟨hi, hi, nm_e (nm_r (nI_1 c) (ih (c + 1) _ (by omega) (kq_Qf hQ ?_)))⟩
      exact fun z => e ((kz_inv h0 hb (by omega)).mpr z)
theorem kq_Q1 {b : Nat} {ai : Nat → Int32} (h1 : ∀ j, j < b → ai j = nI (kz_iv j)) (h2 : ∀ j, b ≤ j → ai j = 0) : kq_Q b 1 ai := by
  refine ⟨h1, ?_, fun j hj => h2 j (by omega)⟩
  rw [h2 b (Nat.le_refl _)]
  by_cases z : kz_iv b < 1
  · rw [if_pos z, show kz_iv b = 0 from by omega]; rfl
  · rw [if_neg z]; rfl
theorem kq_38 {post : SY → Prop} {fa fc : Int32} {al : Nat → Int32} (h : ∀ ai, (∀ j, j < 128 → ai j = nI (kz_iv j)) → ∃ n, wY_init_94 post fa n 0 fc ai al) : ∀ d b ai, b + d = 128 → 0 < b → (∀ j, j < b → ai j = nI (kz_iv j)) → (∀ j, b ≤ j → ai j = 0) → wY_init_38 post fa fc (d + 1) (nI b) ai al := by
  intro d
  induction d with
  | zero =>
    intro b ai hb h0 h1 h2
    rw [show b = 128 from by omega] at h1 ⊢
    exact br_t (by decide) (h ai h1)
  | succ d ih =>
    intro b ai hb h0 h1 h2
    refine br_f (nI_ge (b := 128) (by omega) (by decide)) ?_
    refine ⟨128, kq_47 h0 (by omega) (fun ai' hQ => ?_) 127 1 ai rfl (kq_Q1 h1 h2)⟩
    obtain ⟨q1, q2, q3⟩ := hQ
    rw [if_pos (kz_ivl b)] at q2
    refine ih (b + 1) ai' (by omega) (by omega) (fun j hj => ?_) (fun j hj => q3 j (by omega))
    rcases Nat.lt_or_ge j b with z | z
    · exact q1 j z
    · rw [show j = b from by omega]; exact q2
theorem kq_Tt {A q : Nat} {al : Nat → Int32} (h : kq_T A q al) : kq_T A (q + 1) (upd al (kz_rk A q) (nI q)) := by
  intro r hr hp
  rcases Nat.lt_or_ge r q with z | z
  · have h1 := kz_rkm A (r + 1) (q - (r + 1))
    rw [show r + 1 + (q - (r + 1)) = q from by omega, kz_rkt hp] at h1
    rw [pk_un (by omega)]
    exact h r z hp
  · rw [show r = q from by omega, pk_us]
theorem kq_Tf {A q : Nat} {al : Nat → Int32} (h : kq_T A q al) (hq : kz_pt A q = false) : kq_T A (q + 1) al := by
  intro r hr hp
  rcases Nat.lt_or_ge r q with z | z
  · exact h r z hp
  · rw [show r = q from by omega, hq] at hp; exact absurd hp (by decide)
theorem kq_103 {post : SY → Prop} {J : Int32 → Int32 → (Nat → Int32) → (Nat → Int32) → Prop} {ai : Nat → Int32} {A x : Nat} (hA : A < 2) (hx : x < 128) (hJ : ∀ al, kq_T A (128 * x + 128) al → J (nI (x + 1)) (nI (kz_rk A (128 * x + 128))) ai al) : ∀ d y al, y + d = 128 → kq_T A (128 * x + y) al → wY_init_103 post J (nI x) (nI A) (d + 1) (nI y) (nI (kz_rk A (128 * x + y))) ai al := by
  intro d
  induction d with
  | zero =>
    intro y al hy hT
    rw [show y = 128 from by omega] at hT ⊢
    exact br_t (by decide) (nm_r (nI_1 x) (hJ al hT))
  | succ d ih =>
    intro y al hy hT
    refine br_f (nI_ge (b := 128) (by omega) (by decide)) ?_
    refine ky_isOn x y rfl rfl hA hx (by omega) ?_
    have hl := kz_rkl (q := 128 * x + y) hA (by omega)
    have ep : kz_pt A (128 * x + y) = kz_on A x y := by
      rw [kz_plt (by omega), show (128 * x + y) / 128 = x from by omega, show (128 * x + y) % 128 = y from by omega]
    cases z : kz_on A x y with
    | false =>
      rw [z] at ep
      have k := ih (y + 1) al (by omega) (kq_Tf hT ep)
      rw [← Nat.add_assoc, kz_rkf ep] at k
      exact br_t (by decide) (nm_r (nI_1 y) k)
    | true =>
      rw [z] at ep
      refine br_f (by decide) ?_
      refine br_f (nI_ge (b := 299) (by omega) (by decide)) ?_
      refine ⟨vp_in_nI (by omega) (by decide), ?_⟩
      have k := ih (y + 1) _ (by omega) (kq_Tt hT)
      rw [← Nat.add_assoc, kz_rkt ep] at k
      refine nm_r (e' := upd al (kz_rk A (128 * x + y)) (nI (128 * x + y))) ?_ (nm_r (nI_1 _) (nm_r (nI_1 y) k))
      rw [nI_clamp (by omega), ky_pO x y rfl]
theorem kq_94 {post : SY → Prop} {ai : Nat → Int32} {A : Nat} (hA : A < 2) (h : ∀ al, kq_T A 16385 al → post (nI A, nI (kz_rk A 16385), ai, al)) : ∀ d x al, x + d = 128 → kq_T A (128 * x) al → wY_init_94 post (nI A) (d + 1) (nI x) (nI (kz_rk A (128 * x))) ai al := by
  intro d
  induction d with
  | zero =>
    intro x al hx hT
    rw [show x = 128 from by omega] at hT ⊢
    have hl := kz_rkl (q := 16384) hA (Nat.le_refl _)
    refine br_t (by decide) ?_
    refine ⟨vp_in_nI (n := kz_rk A 16384) (by omega) (by decide), ?_⟩
    refine nm_r (e' := upd al (kz_rk A 16384) (nI 16384)) ?_ (nm_r (nI_1 (kz_rk A 16384)) ?_)
    · rw [show 128 * 128 = 16384 from rfl, nI_clamp (by omega)]; rfl
    · rw [← kz_rkt (kz_pO A)]
      exact h _ (kq_Tt hT)
  | succ d ih =>
    intro x al hx hT
    refine br_f (nI_ge (b := 128) (by omega) (by decide)) ?_
    exact ⟨129, kq_103 hA (by omega) (fun al' hT' => ih (x + 1) al' (by omega) hT') 128 0 al rfl hT⟩
theorem kq_init {post : SY → Prop} {A : Nat} (hA : A < 2) (h : ∀ ai al, (∀ j, j < 128 → ai j = nI (kz_iv j)) → kq_T A 16385 al → post (nI A, nI (kz_rk A 16385), ai, al)) : ∃ n, wY_init_38 post (nI A) 0 n 1 (fun _ => 0) (fun _ => 0) := by
  refine ⟨128, kq_38 (d := 127) (b := 1) (fun ai hv => ?_) _ rfl (by decide) (fun j hj => ?_) (fun _ _ => rfl)⟩
  · exact ⟨129, kq_94 (d := 128) (x := 0) hA (fun al hT => h ai al hv hT) _ rfl (fun r hr => absurd hr (Nat.not_lt_zero r))⟩
  · rw [show j = 0 from by omega, kz_iv0]; rfl
end
section
/-! the loops of both sides -/
def kz_Cy (A p : Nat) (m : Nat → Nat) (d : Nat) : Prop := 1 ≤ d ∧ d ≤ 142 ∧ m 0 = 16384 ∧ m 1 = p ∧ (∀ k, kz_pt A (m k) = true) ∧ (∀ k l, kz_S A (m k) (m l) = m (k + l)) ∧ m d = 16384 ∧ (∀ k, 1 ≤ k → k < d → m k ≠ 16384) ∧ (∀ k, m (k % d) = m k)
def kz_V (k : Int32) (x : Nat) : Nat := if 0 ≤ k then x else kz_ng x
theorem kz_Vp {A x : Nat} {k : Int32} (hA : A < 2) (h : kz_pt A x = true) : kz_pt A (kz_V k x) = true := by
  unfold kz_V
  by_cases z : 0 ≤ k
  · rw [if_pos z]; exact h
  · rw [if_neg z]; exact kz_ngp hA h
theorem kz_ne {a b : Nat} (ha : a ≤ 16384) (hb : b ≤ 16384) (h : a ≠ b) : ¬ nI a = nI b := fun z => h ((nI_eq (by omega) (by omega)).mp z)
theorem kx_r22 {post : Int32 → Prop} {A D : Nat} {x1 : Int32} {m : Nat → Nat} (hA : A < 2) (hD : D < 2 ^ 20) (hp : ∀ k, kz_pt A (m k) = true) (hS : ∀ k l, kz_S A (m k) (m l) = m (k + l)) (h : post (nI (kz_V x1 (m D)))) : ∀ d i, i + d = 20 → wX_repeated_22 post x1 (nI D) (nI A) (d + 1) (nI (m (D % 2 ^ i))) (nI (m (2 ^ i))) (nI i) := by
  intro d
  induction d with
  | zero =>
    intro i hi
    rw [show i = 20 from by omega, Nat.mod_eq_of_lt hD]
    refine br_t (by decide) ?_
    unfold kz_V at h
    refine br_c (fun z => ?_) (fun z => ?_)
    · rw [if_pos z] at h; exact h
    · rw [if_neg z] at h; exact kx_neg (kz_ple (hp _)) h
  | succ d ih =>
    intro i hi
    have k := ih (i + 1) (by omega)
    rw [Nat.mod_pow_succ] at k
    have e2 : kz_S A (m (2 ^ i)) (m (2 ^ i)) = m (2 ^ (i + 1)) := by
      rw [hS, Nat.pow_succ, Nat.mul_two]
    refine br_f (nI_ge (b := 20) (by omega) (by decide)) ?_
    refine pk_eq (D / 2 ^ i % 2) 1 (fun h1 => ?_) (fun h0 => ?_) (kx_bit (by omega) (by omega)) rfl (by omega) (by omega)
    · rw [h1, Nat.mul_one, ← hS] at k
      refine kx_sum hA (hp _) (hp _) ?_
      unfold wX_repeated_49
      refine kx_sum hA (hp _) (hp _) (nm_r (nI_1 i) ?_)
      rw [e2]; exact k
    · rw [show D / 2 ^ i % 2 = 0 from by omega, Nat.mul_zero, Nat.add_zero] at k
      unfold wX_repeated_49
      refine kx_sum hA (hp _) (hp _) (nm_r (nI_1 i) ?_)
      rw [e2]; exact k
theorem kx_rep {post : Int32 → Prop} {A p d D : Nat} {k : Int32} {m : Nat → Nat} (hA : A < 2) (hc : kz_Cy A p m d) (hD : D ≤ 1000000) (e1 : 0 ≤ k → k = nI D) (e2 : ¬ 0 ≤ k → -k = nI D) (h : post (nI (kz_V k (m D)))) : wpX_repeated post (nI A) k (nI p) := by
  obtain ⟨c1, c2, c3, c4, c5, c6, c7, c8, c9⟩ := hc
  have key := kx_r22 (x1 := k) hA (by omega) c5 c6 h 20 0 rfl
  rw [Nat.pow_zero, Nat.mod_one, c3, c4] at key
  unfold wpX_repeated
  refine br_c (fun z => ?_) (fun z => ?_)
  · refine ⟨21, ?_⟩
    have w := e1 z
    rw [← w] at key
    exact key
  · refine nm_r (e2 z) ⟨21, key⟩
theorem kx_ord {post : Int32 → Prop} {A p d : Nat} {m : Nat → Nat} (hA : A < 2) (hc : kz_Cy A p m d) (h : post (nI d)) : ∃ n, wX_order_14 post (nI p) (nI A) n 1 (nI p) := by
  obtain ⟨c1, c2, c3, c4, c5, c6, c7, c8, c9⟩ := hc
  have key : ∀ e k, 1 ≤ k → k + e = d → wX_order_14 post (nI p) (nI A) (e + 1) (nI k) (nI (m k)) := by
    intro e
    induction e with
    | zero =>
      intro k h1 hk
      rw [show k = d from by omega, c7]
      exact br_t rfl h
    | succ e ih =>
      intro k h1 hk
      refine br_f (kz_ne (b := 16384) (kz_ple (c5 k)) (by decide) (c8 k h1 (by omega))) ?_
      refine br_f (nI_nlt (b := k) (a := 16384) (by omega) (by decide)) ?_
      rw [← c4]
      refine kx_sum hA (c5 k) (c5 1) (nm_r (nI_1 k) ?_)
      rw [c6, c4]
      exact ih (k + 1) (by omega) (by omega)
  have w := key (d - 1) 1 (by omega) (by omega)
  rw [c4] at w
  exact ⟨_, w⟩
theorem ky_ord {post : Int32 → Prop} {fc : Int32} {ai al : Nat → Int32} (hv : ∀ j, j < 128 → ai j = nI (kz_iv j)) {A p d : Nat} {m : Nat → Nat} (hA : A < 2) (hc : kz_Cy A p m d) (h : post (nI d)) : wpY_orderOf post (nI A, fc, ai, al) (nI p) := by
  obtain ⟨c1, c2, c3, c4, c5, c6, c7, c8, c9⟩ := hc
  have key : ∀ e k, 1 ≤ k → k + e = d → wY_orderOf_4 post (nI p) (nI A) fc ai al (e + 1) (nI k) (nI (m k)) := by
    intro e
    induction e with
    | zero =>
      intro k h1 hk
      refine br_f (nI_ge (b := 300) (by omega) (by decide)) ?_
      rw [show k = d from by omega, c7]
      exact br_t rfl h
    | succ e ih =>
      intro k h1 hk
      refine br_f (nI_ge (b := 300) (by omega) (by decide)) ?_
      refine br_f (kz_ne (b := 16384) (kz_ple (c5 k)) (by decide) (c8 k h1 (by omega))) ?_
      rw [← c4]
      refine ky_sum hv hA (c5 k) (c5 1) (nm_r (nI_1 k) ?_)
      rw [c6, c4]
      exact ih (k + 1) (by omega) (by omega)
  have w := key (d - 1) 1 (by omega) (by omega)
  rw [c4] at w
  exact ⟨_, w⟩
theorem ky_many {post : Int32 → Prop} {fc : Int32} {ai al : Nat → Int32} (hv : ∀ j, j < 128 → ai j = nI (kz_iv j)) {A p d D : Nat} {k : Int32} {m : Nat → Nat} (hA : A < 2) (hc : kz_Cy A p m d) (hD : D ≤ 1000000) (e1 : 0 ≤ k → k = nI D) (e2 : ¬ 0 ≤ k → -k = nI D) (h : post (nI (kz_V k (m D)))) : wpY_many post (nI A, fc, ai, al) k (nI p) := by
  have hc' := hc
  obtain ⟨c1, c2, c3, c4, c5, c6, c7, c8, c9⟩ := hc
  have hL : D % d < d := Nat.mod_lt _ c1
  have key : ∀ e i, i + e = D % d → wY_many_25 post k (nI p) (nI (D % d)) (nI A) fc ai al (e + 1) (nI (m i)) (nI i) := by
    intro e
    induction e with
    | zero =>
      intro i hi
      refine br_t (nI_le (by omega) (by omega)) ?_
      rw [show i = D % d from by omega, c9]
      unfold kz_V at h
      refine br_c (fun z => ?_) (fun z => ?_)
      · rw [if_pos z] at h; exact h
      · rw [if_neg z] at h; exact ky_neg (kz_ple (c5 _)) h
    | succ e ih =>
      intro i hi
      refine br_f (nI_ge (by omega) (by omega)) ?_
      rw [← c4]
      refine ky_sum hv hA (c5 i) (c5 1) (nm_r (nI_1 i) ?_)
      rw [c6, c4]
      exact ih (i + 1) (by omega)
  have w := key (D % d) 0 (by omega)
  rw [c3] at w
  have k10 : wY_many_10 post k (nI p) (nI D) (nI A) fc ai al := by
    unfold wY_many_10
    refine ky_ord hv hA hc' ?_
    refine ⟨nI_ne0 c1 (by omega), nm_r (pk_rem (a := D) (d := d) (by omega) c1 (by omega)) ⟨_, w⟩⟩
  unfold wpY_many
  dsimp only
  refine br_c (fun z => ?_) (fun z => ?_)
  · have z1 := e1 z
    rw [← z1] at k10
    exact k10
  · rw [e2 z]; exact k10
theorem kl_log {ai al : Nat → Int32} {fc : Int32} (hv : ∀ j, j < 128 → ai j = nI (kz_iv j)) {A p q d : Nat} {m : Nat → Nat} (hA : A < 2) (hq : q ≤ 16384) (hc : kz_Cy A p m d) : ∃ r : Int32, (∀ post : Int32 → Prop, post r → ∃ n, wX_log_25 post (nI p) (nI q) (nI A) n 16384 0) ∧ (∀ post : Int32 → Prop, post r → ∃ n, wY_log_32 post (nI p) (nI q) (nI d) (nI A) fc ai al n 16384 0) := by
  obtain ⟨c1, c2, c3, c4, c5, c6, c7, c8, c9⟩ := hc
  have key : ∀ e k, k + e + 1 = d → ∃ r : Int32, (∀ post : Int32 → Prop, post r → wX_log_25 post (nI p) (nI q) (nI A) (e + 1) (nI (m k)) (nI k)) ∧ (∀ post : Int32 → Prop, post r → wY_log_32 post (nI p) (nI q) (nI d) (nI A) fc ai al (e + 2) (nI (m k)) (nI k)) := by
    intro e
    induction e with
    | zero =>
      intro k hk
      have b1 : ¬ (16384 : Int32) < nI k := nI_nlt (a := 16384) (by omega) (by decide)
      have b2 : ¬ nI d ≤ nI k := nI_ge (by omega) (by omega)
      by_cases z : m k = q
      · exact ⟨nI k, fun post h => br_f b1 (br_t (by rw [z]) h), fun post h => br_f b2 (br_t (by rw [z]) h)⟩
      · have b3 := kz_ne (kz_ple (c5 k)) hq z
        refine ⟨-4, fun post h => br_f b1 (br_f b3 ?_), fun post h => br_f b2 (br_f b3 ?_)⟩
        · rw [← c4]
          refine kx_sum hA (c5 k) (c5 1) ?_
          rw [c6, show k + 1 = d from by omega, c7]
          exact br_t rfl h
        · rw [← c4]
          refine ky_sum hv hA (c5 k) (c5 1) (nm_r (nI_1 k) ?_)
          exact br_t (nI_le (by omega) (by omega)) h
    | succ e ih =>
      intro k hk
      have b1 : ¬ (16384 : Int32) < nI k := nI_nlt (a := 16384) (by omega) (by decide)
      have b2 : ¬ nI d ≤ nI k := nI_ge (by omega) (by omega)
      by_cases z : m k = q
      · exact ⟨nI k, fun post h => br_f b1 (br_t (by rw [z]) h), fun post h => br_f b2 (br_t (by rw [z]) h)⟩
      · have b3 := kz_ne (kz_ple (c5 k)) hq z
        obtain ⟨r, hX, hY⟩ := ih (k + 1) (by omega)
        refine ⟨r, fun post h => br_f b1 (br_f b3 ?_), fun post h => br_f b2 (br_f b3 ?_)⟩
        · have x := hX post h
          rw [← c4] at x ⊢
          refine kx_sum hA (c5 k) (c5 1) ?_
          rw [c6]
          exact br_f (kz_ne (b := 16384) (kz_ple (c5 _)) (by decide) (c8 (k + 1) (by omega) (by omega))) (nm_r (nI_1 k) x)
        · have y := hY post h
          rw [← c4] at y ⊢
          refine ky_sum hv hA (c5 k) (c5 1) (nm_r (nI_1 k) ?_)
          rw [c6]
          exact y
  obtain ⟨r, hX, hY⟩ := key (d - 1) 0 (by omega)
  rw [c3] at hX hY
  exact ⟨r, fun post h => ⟨_, hX post h⟩, fun post h => ⟨_, hY post h⟩⟩
end
section
/-! the walks over all numbers, and over the list -/
theorem kr_points {post : Int32 → Prop} {A : Nat} (hA : A < 2) (h : post (nI (kz_rk A 16385))) : wpX_points post (nI A) := by
  have key : ∀ e q, q + e = 16385 → wX_points_4 post (nI A) (e + 1) (nI (kz_rk A q)) (nI q) := by
    intro e
    induction e with
    | zero =>
      intro q hq
      rw [show q = 16385 from by omega]
      exact br_t (by decide) h
    | succ e ih =>
      intro q hq
      have k := ih (q + 1) (by omega)
      refine br_f (nI_nlt (a := 16384) (by omega) (by decide)) ?_
      cases z : kz_pt A q with
      | true =>
        rw [kz_rkt z] at k
        exact kx_isP1 hA z (br_f (by decide) (nm_r (nI_1 _) (nm_r (nI_1 q) k)))
      | false =>
        rw [kz_rkf z] at k
        exact kx_isP0 hA (by omega) z (br_t (by decide) (nm_r (nI_1 q) k))
  exact ⟨_, key 16385 0 rfl⟩
theorem kr_next {ai al : Nat → Int32} {A s : Nat} {v : Int32} (hA : A < 2) (hT : kq_T A 16385 al) (hs : ∀ q, s ≤ q → q ≤ 16384 → ¬ nI q < v) : ∀ e q, s ≤ q → q + e = 16385 → ∃ r : Int32, (∀ post : Int32 → Prop, post r → wX_next_12 post (nI A) (e + 1) (nI q)) ∧ (∀ (post : Int32 → Prop) (n : Nat), e < n → post r → wY_next_2 post v (nI A) (nI (kz_rk A 16385)) ai al n (nI (kz_rk A q))) := by
  intro e
  induction e with
  | zero =>
    intro q h1 hq
    rw [show q = 16385 from by omega]
    refine ⟨-4, fun post h => br_t (by decide) h, fun post n hn h => ?_⟩
    obtain ⟨n', rfl⟩ : ∃ n', n = n' + 1 := ⟨n - 1, by omega⟩
    have := kz_rkl2 (q := 16385) hA (Nat.le_refl _)
    exact br_t (nI_le (Nat.le_refl _) (by omega)) h
  | succ e ih =>
    intro q h1 hq
    have b1 : ¬ (16384 : Int32) < nI q := nI_nlt (a := 16384) (by omega) (by decide)
    cases z : kz_pt A q with
    | true =>
      have l1 := kz_rkl2 (q := 16385) hA (Nat.le_refl _)
      have l2 := kz_rkp (by omega) z
      refine ⟨nI q, fun post h => br_f b1 (kx_isP1 hA z (br_f (by decide) h)), fun post n hn h => ?_⟩
      obtain ⟨n', rfl⟩ : ∃ n', n = n' + 1 := ⟨n - 1, by omega⟩
      refine br_f (nI_ge l2 (by omega)) ?_
      have hi : vp_in (nI (kz_rk A q)) 300 := vp_in_nI (by omega) (by decide)
      refine ⟨hi, ?_⟩
      rw [nI_clamp (by omega), hT q (by omega) z]
      exact br_f (hs q h1 (by omega)) ⟨hi, h⟩
    | false =>
      obtain ⟨r, hX, hY⟩ := ih (q + 1) (by omega) (by omega)
      rw [kz_rkf z] at hY
      refine ⟨r, fun post h => br_f b1 (kx_isP0 hA (by omega) z (br_t (by decide) (nm_r (nI_1 q) (hX post h)))), fun post n hn h => hY post n (by omega) h⟩
theorem kr_skip {post : Int32 → Prop} {ai al : Nat → Int32} {A : Nat} {v : Int32} (hA : A < 2) (hT : kq_T A 16385 al) : ∀ q N : Nat, q ≤ 16385 → (∀ r, r < q → nI r < v) → (∀ n, N < n → wY_next_2 post v (nI A) (nI (kz_rk A 16385)) ai al n (nI (kz_rk A q))) → ∀ n, N + q < n → wY_next_2 post v (nI A) (nI (kz_rk A 16385)) ai al n (nI (kz_rk A 0)) := by
  intro q
  induction q with
  | zero => intro N _ _ h n hn; exact h n (by omega)
  | succ q ih =>
    intro N hq hr h n hn
    refine ih (N + 1) (by omega) (fun r hr' => hr r (by omega)) (fun n hn => ?_) n (by omega)
    cases z : kz_pt A q with
    | true =>
      have l1 := kz_rkl2 (q := 16385) hA (Nat.le_refl _)
      have l2 := kz_rkp (by omega) z
      obtain ⟨n', rfl⟩ : ∃ n', n = n' + 1 := ⟨n - 1, by omega⟩
      have k := h n' (by omega)
      rw [kz_rkt z] at k
      refine br_f (nI_ge l2 (by omega)) ?_
      have hi : vp_in (nI (kz_rk A q)) 300 := vp_in_nI (by omega) (by decide)
      refine ⟨hi, ?_⟩
      rw [nI_clamp (by omega), hT q (by omega) z]
      exact br_t (hr q (by omega)) (nm_r (nI_1 _) k)
    | false =>
      rw [← kz_rkf z]; exact h n (by omega)
theorem kr_isH1 {post : Int32 → Prop} {A q p : Nat} (hA : A < 2) (hq : kz_pt A q = true) (e : kz_S A q q = p) (h : post 1) : wpX_isHalf post (nI A) (nI q) (nI p) := by
  unfold wpX_isHalf
  refine kx_isP1 hA hq (br_f (by decide) (kx_sum hA hq hq ?_))
  exact br_t (by rw [e]) h
theorem kr_isH0 {post : Int32 → Prop} {A q p : Nat} (hA : A < 2) (hp : p ≤ 16384) (hq : kz_pt A q = true) (e : kz_S A q q ≠ p) (h : post 0) : wpX_isHalf post (nI A) (nI q) (nI p) := by
  unfold wpX_isHalf
  refine kx_isP1 hA hq (br_f (by decide) (kx_sum hA hq hq ?_))
  exact br_f (kz_ne (kz_ple (kz_Spt hA hq hq)) hp e) h
theorem kr_isHn {post : Int32 → Prop} {A q p : Nat} (hA : A < 2) (hl : q ≤ 16384) (hq : kz_pt A q = false) (h : post 0) : wpX_isHalf post (nI A) (nI q) (nI p) := by
  unfold wpX_isHalf
  exact kx_isP0 hA hl hq (br_t (by decide) h)
theorem kr_half {ai al : Nat → Int32} (hv : ∀ j, j < 128 → ai j = nI (kz_iv j)) {A p : Nat} (hA : A < 2) (hp : p ≤ 16384) (hT : kq_T A 16385 al) : ∀ e q, q + e = 16385 → ∃ r : Int32, (∀ post : Int32 → Prop, post r → wX_half_12 post (nI p) (nI A) (e + 1) (nI q)) ∧ (∀ (post : Int32 → Prop) (n : Nat), e < n → post r → wY_half_12 post (nI p) (nI A) (nI (kz_rk A 16385)) ai al n (nI (kz_rk A q))) := by
  intro e
  induction e with
  | zero =>
    intro q hq
    rw [show q = 16385 from by omega]
    refine ⟨-4, fun post h => br_t (by decide) h, fun post n hn h => ?_⟩
    obtain ⟨n', rfl⟩ : ∃ n', n = n' + 1 := ⟨n - 1, by omega⟩
    have := kz_rkl2 (q := 16385) hA (Nat.le_refl _)
    exact br_t (nI_le (Nat.le_refl _) (by omega)) h
  | succ e ih =>
    intro q hq
    have b1 : ¬ (16384 : Int32) < nI q := nI_nlt (a := 16384) (by omega) (by decide)
    obtain ⟨r, hX, hY⟩ := ih (q + 1) (by omega)
    cases z : kz_pt A q with
    | true =>
      have l1 := kz_rkl2 (q := 16385) hA (Nat.le_refl _)
      have l2 := kz_rkp (by omega) z
      have hi : vp_in (nI (kz_rk A q)) 300 := vp_in_nI (by omega) (by decide)
      rw [kz_rkt z] at hY
      by_cases w : kz_S A q q = p
      · refine ⟨nI q, fun post h => br_f b1 (kr_isH1 hA z w (br_f (by decide) h)), fun post n hn h => ?_⟩
        obtain ⟨n', rfl⟩ : ∃ n', n = n' + 1 := ⟨n - 1, by omega⟩
        refine br_f (nI_ge l2 (by omega)) ⟨hi, hi, ?_⟩
        rw [nI_clamp (by omega), hT q (by omega) z]
        refine ky_sum hv hA z z ?_
        exact br_t (by rw [w]) ⟨hi, h⟩
      · refine ⟨r, fun post h => br_f b1 (kr_isH0 hA hp z w (br_t (by decide) (nm_r (nI_1 q) (hX post h)))), fun post n hn h => ?_⟩
        obtain ⟨n', rfl⟩ : ∃ n', n = n' + 1 := ⟨n - 1, by omega⟩
        refine br_f (nI_ge l2 (by omega)) ⟨hi, hi, ?_⟩
        rw [nI_clamp (by omega), hT q (by omega) z]
        refine ky_sum hv hA z z ?_
        exact br_f (kz_ne (kz_ple (kz_Spt hA z z)) hp w) (nm_r (nI_1 _) (hY post n' (by omega) h))
    | false =>
      rw [kz_rkf z] at hY
      exact ⟨r, fun post h => br_f b1 (kr_isHn hA (by omega) z (br_t (by decide) (nm_r (nI_1 q) (hX post h)))), fun post n hn h => hY post n (by omega) h⟩
theorem kr_halves {ai al : Nat → Int32} (hv : ∀ j, j < 128 → ai j = nI (kz_iv j)) {A p : Nat} (hA : A < 2) (hp : p ≤ 16384) (hT : kq_T A 16385 al) : ∀ (e q : Nat) (c : Int32), q + e = 16385 → ∃ r : Int32, (∀ post : Int32 → Prop, post r → wX_halves_14 post (nI p) (nI A) (e + 1) c (nI q)) ∧ (∀ (post : Int32 → Prop) (n : Nat), e < n → post r → wY_halves_14 post (nI p) (nI A) (nI (kz_rk A 16385)) ai al n c (nI (kz_rk A q))) := by
  intro e
  induction e with
  | zero =>
    intro q c hq
    rw [show q = 16385 from by omega]
    refine ⟨c, fun post h => br_t (by decide) h, fun post n hn h => ?_⟩
    obtain ⟨n', rfl⟩ : ∃ n', n = n' + 1 := ⟨n - 1, by omega⟩
    have := kz_rkl2 (q := 16385) hA (Nat.le_refl _)
    exact br_t (nI_le (Nat.le_refl _) (by omega)) h
  | succ e ih =>
    intro q c hq
    have b1 : ¬ (16384 : Int32) < nI q := nI_nlt (a := 16384) (by omega) (by decide)
    cases z : kz_pt A q with
    | true =>
      have l1 := kz_rkl2 (q := 16385) hA (Nat.le_refl _)
      have l2 := kz_rkp (by omega) z
      have hi : vp_in (nI (kz_rk A q)) 300 := vp_in_nI (by omega) (by decide)
      by_cases w : kz_S A q q = p
      · obtain ⟨r, hX, hY⟩ := ih (q + 1) (c + 1) (by omega)
        rw [kz_rkt z] at hY
        refine ⟨r, fun post h => br_f b1 (kr_isH1 hA z w (br_f (by decide) (nm_e (nm_r (nI_1 q) (hX post h))))), fun post n hn h => ?_⟩
        obtain ⟨n', rfl⟩ : ∃ n', n = n' + 1 := ⟨n - 1, by omega⟩
        refine br_f (nI_ge l2 (by omega)) ⟨hi, hi, ?_⟩
        rw [nI_clamp (by omega), hT q (by omega) z]
        refine ky_sum hv hA z z ?_
        exact br_t (by rw [w]) (nm_e (nm_r (nI_1 _) (hY post n' (by omega) h)))
      · obtain ⟨r, hX, hY⟩ := ih (q + 1) c (by omega)
        rw [kz_rkt z] at hY
        refine ⟨r, fun post h => br_f b1 (kr_isH0 hA hp z w (br_t (by decide) (nm_r (nI_1 q) (hX post h)))), fun post n hn h => ?_⟩
        obtain ⟨n', rfl⟩ : ∃ n', n = n' + 1 := ⟨n - 1, by omega⟩
        refine br_f (nI_ge l2 (by omega)) ⟨hi, hi, ?_⟩
        rw [nI_clamp (by omega), hT q (by omega) z]
        refine ky_sum hv hA z z ?_
        exact br_f (kz_ne (kz_ple (kz_Spt hA z z)) hp w) (nm_r (nI_1 _) (hY post n' (by omega) h))
    | false =>
      obtain ⟨r, hX, hY⟩ := ih (q + 1) c (by omega)
      rw [kz_rkf z] at hY
      exact ⟨r, fun post h => br_f b1 (kr_isHn hA (by omega) z (br_t (by decide) (nm_r (nI_1 q) (hX post h)))), fun post n hn h => hY post n (by omega) h⟩
/-! guards -/
theorem kp_pt {A : Nat} (hA : A < 2) (fc : Int32) (ai al : Nat → Int32) (v : Int32) : (∃ p, kz_pt A p = true ∧ v = nI p) ∨ ((∀ post : Int32 → Prop, post 0 → wpX_isPoint post (nI A) v) ∧ (∀ post : Int32 → Prop, post 0 → wpY_isPoint post (nI A, fc, ai, al) v)) := by
  by_cases h0 : v < 0
  · refine Or.inr ⟨fun post h => br_t h0 h, fun post h => br_f ?_ (br_t h0 h)⟩
    intro e; rw [e] at h0; exact absurd h0 (by decide)
  · obtain ⟨j, hj, rfl⟩ := nI_of h0
    rcases Nat.lt_or_ge 16384 j with z | z
    · refine Or.inr ⟨fun post h => br_f h0 (br_f (nI_ge (a := 16384) z (by omega)) h), fun post h => br_f ?_ (br_f h0 (br_t (nI_le (a := 16384) (by omega) (by omega)) h))⟩
      intro e
      have := (nI_eq (b := 16384) hj (by decide)).mp e
      omega
    · cases w : kz_pt A j with
      | true => exact Or.inl ⟨j, w, rfl⟩
      | false => exact Or.inr ⟨fun post h => kx_isP0 hA z w h, fun post h => ky_isP0 hA z w h⟩
theorem kp_el (fa fc : Int32) (ai al : Nat → Int32) (v : Int32) : (∃ a, a < 128 ∧ v = nI a ∧ (∀ post : Int32 → Prop, post 1 → wpX_isElement post v) ∧ (∀ post : Int32 → Prop, post 1 → wpY_isElement post (fa, fc, ai, al) v)) ∨ ((∀ post : Int32 → Prop, post 0 → wpX_isElement post v) ∧ (∀ post : Int32 → Prop, post 0 → wpY_isElement post (fa, fc, ai, al) v)) := by
  by_cases h0 : v < 0
  · exact Or.inr ⟨fun post h => br_t h0 h, fun post h => br_t h0 h⟩
  · obtain ⟨j, hj, rfl⟩ := nI_of h0
    rcases Nat.lt_or_ge j 128 with z | z
    · exact Or.inl ⟨j, z, rfl, fun post h => br_f h0 (br_f (nI_ge (b := 128) z (by decide)) h), fun post h => br_f h0 (br_f (nI_nlt (a := 127) (by omega) (by decide)) h)⟩
    · exact Or.inr ⟨fun post h => br_f h0 (br_t (nI_le (a := 128) z hj) h), fun post h => br_f h0 (br_t (nI_lt (a := 127) (by omega) hj) h)⟩
theorem kp_tm (fa fc : Int32) (ai al : Nat → Int32) (v : Int32) : (∃ D, D ≤ 1000000 ∧ (0 ≤ v → v = nI D) ∧ (¬ 0 ≤ v → -v = nI D) ∧ (∀ post : Int32 → Prop, post 1 → wpX_isTimes post v) ∧ (∀ post : Int32 → Prop, post 1 → wpY_isFactor post (fa, fc, ai, al) v)) ∨ ((∀ post : Int32 → Prop, post 0 → wpX_isTimes post v) ∧ (∀ post : Int32 → Prop, post 0 → wpY_isFactor post (fa, fc, ai, al) v)) := by
  by_cases h1 : v < (-1000000)
  · exact Or.inr ⟨fun post h => br_t h1 h, fun post h => br_t h1 h⟩
  by_cases h2 : 1000000 < v
  · exact Or.inr ⟨fun post h => br_f h1 (br_t h2 h), fun post h => br_f h1 (br_t h2 h)⟩
  refine Or.inl ?_
  have w1 : ¬ v.toInt < -1000000 := by
    intro z; exact h1 (Int32.lt_iff_toInt_lt.mpr (by rw [show (-1000000 : Int32).toInt = -1000000 from by decide]; exact z))
  have w2 : ¬ 1000000 < v.toInt := by
    intro z; exact h2 (Int32.lt_iff_toInt_lt.mpr (by rw [show (1000000 : Int32).toInt = 1000000 from by decide]; exact z))
  refine ⟨v.toInt.natAbs, by omega, fun z => ?_, fun z => ?_, fun post h => br_f h1 (br_f h2 h), fun post h => br_f h1 (br_f h2 h)⟩
  · rw [Int32.le_iff_toInt_le, show (0 : Int32).toInt = 0 from by decide] at z
    apply Int32.toInt_inj.mp
    rw [nI_toInt (by omega)]
    omega
  · rw [Int32.le_iff_toInt_le, show (0 : Int32).toInt = 0 from by decide] at z
    apply Int32.toInt_inj.mp
    rw [nI_toInt (by omega), Int32.toInt_neg, Int.bmod_eq_of_le (by omega) (by omega)]
    omega
end
section
/-! the relation and the owed statements -/
def i_Rel (k : Nat) (u : SX) (v : SY) : Prop := ∃ (A : Nat) (ai al : Nat → Int32), A < 2 ∧ u = nI A ∧ v = (nI A, nI (kz_rk A 16385), ai, al) ∧ (∀ j, j < 128 → ai j = nI (kz_iv j)) ∧ kq_T A 16385 al
theorem i_up {k : Nat} {u : SX} {v : SY} (h : i_Rel k u v) : i_Rel (k + 5) u v := h
theorem i_vc0 (k0 : Int32) : wpX_init (fun u => wpY_init (fun v => i_Rel 1 u v) k0) k0 := by
  have key : ∀ (A : Nat), A < 2 → ∀ u : SX, u = nI A → ∃ n, wY_init_38 (fun v => i_Rel 1 u v) (nI A) 0 n 1 (fun _ => 0) (fun _ => 0) := by
    intro A hA u hu
    exact kq_init hA (fun ai al hv hT => ⟨A, ai, al, hA, hu, rfl, hv, hT⟩)
  unfold wpX_init
  refine br_c (fun h0 => br_c (fun h1 => ?_) (fun h1 => ?_)) (fun h0 => ?_)
  · obtain ⟨j, hj, rfl⟩ := nI_of2 (M := 1) (n := 1) (by decide) (Int32.not_lt.mpr h0) h1
    rcases (by omega : j = 0 ∨ j = 1) with rfl | rfl
    · exact br_f (by decide) (key 0 (by decide) _ rfl)
    · exact br_t (by decide) (key 1 (by decide) _ rfl)
  · refine br_t ?_ (key 1 (by decide) _ rfl)
    rw [Int32.le_iff_toInt_le] at h1 ⊢
    omega
  · refine br_f ?_ (key 0 (by decide) _ rfl)
    rw [Int32.le_iff_toInt_le] at h0 ⊢
    have e0 : (0 : Int32).toInt = 0 := by decide
    have e1 : (1 : Int32).toInt = 1 := by decide
    omega
theorem i_vc_times {k : Nat} {u : SX} {v : SY} (I : i_Rel k u v) (hk : k + 5 ≤ 2561) (v1 : Int32) (v2 : Int32) : wpX_times (fun r => wpY_times (fun r' => r' = r ∧ i_Rel (k + 5) u v) v v1 v2) u v1 v2 := by
  obtain ⟨A, ai, al, hA, rfl, rfl, hv, hT⟩ := I
  have J : i_Rel (k + 5) (nI A) (nI A, nI (kz_rk A 16385), ai, al) := ⟨A, ai, al, hA, rfl, rfl, hv, hT⟩
  unfold wpX_times
  rcases kp_el (nI A) (nI (kz_rk A 16385)) ai al v1 with ⟨a, ha, rfl, gxa, gya⟩ | ⟨hX, hY⟩
  · refine gxa _ (br_f (by decide) ?_)
    rcases kp_el (nI A) (nI (kz_rk A 16385)) ai al v2 with ⟨b, hb, rfl, gxb, gyb⟩ | ⟨hX, hY⟩
    · refine gxb _ (br_f (by decide) ?_)
      refine kx_prod ha hb ?_
      unfold wpY_times
      dsimp only
      refine gya _ (br_f (by decide) ?_)
      refine gyb _ (br_f (by decide) ?_)
      exact ky_pr a b rfl rfl ha hb ⟨rfl, J⟩
    · refine hX _ (br_t (by decide) ?_)
      unfold wpY_times
      dsimp only
      refine gya _ (br_f (by decide) ?_)
      exact hY _ (br_t (by decide) ⟨rfl, J⟩)
  · refine hX _ (br_t (by decide) ?_)
    unfold wpY_times
    dsimp only
    exact hY _ (br_t (by decide) ⟨rfl, J⟩)
theorem i_vc_over {k : Nat} {u : SX} {v : SY} (I : i_Rel k u v) (hk : k + 5 ≤ 2561) (v1 : Int32) (v2 : Int32) : wpX_over (fun r => wpY_over (fun r' => r' = r ∧ i_Rel (k + 5) u v) v v1 v2) u v1 v2 := by
  obtain ⟨A, ai, al, hA, rfl, rfl, hv, hT⟩ := I
  have J : i_Rel (k + 5) (nI A) (nI A, nI (kz_rk A 16385), ai, al) := ⟨A, ai, al, hA, rfl, rfl, hv, hT⟩
  unfold wpX_over
  rcases kp_el (nI A) (nI (kz_rk A 16385)) ai al v1 with ⟨a, ha, rfl, gxa, gya⟩ | ⟨hX, hY⟩
  · refine gxa _ (br_f (by decide) ?_)
    rcases kp_el (nI A) (nI (kz_rk A 16385)) ai al v2 with ⟨b, hb, rfl, gxb, gyb⟩ | ⟨hX, hY⟩
    · refine gxb _ (br_f (by decide) ?_)
      refine pk_eq b 0 (fun z => ?_) (fun z => ?_)
      · unfold wpY_over
        dsimp only
        refine gya _ (br_f (by decide) ?_)
        refine gyb _ (br_f (by decide) ?_)
        exact br_t (by rw [z]; rfl) ⟨rfl, J⟩
      · refine kx_qu a b rfl rfl ha (by omega) hb ?_
        unfold wpY_over
        dsimp only
        refine gya _ (br_f (by decide) ?_)
        refine gyb _ (br_f (by decide) ?_)
        refine br_f (nI_ne0 (by omega) (by omega)) ?_
        exact ky_qu hv a b rfl rfl ha hb ⟨rfl, J⟩
    · refine hX _ (br_t (by decide) ?_)
      unfold wpY_over
      dsimp only
      refine gya _ (br_f (by decide) ?_)
      exact hY _ (br_t (by decide) ⟨rfl, J⟩)
  · refine hX _ (br_t (by decide) ?_)
    unfold wpY_over
    dsimp only
    exact hY _ (br_t (by decide) ⟨rfl, J⟩)
theorem i_vc_isPoint {k : Nat} {u : SX} {v : SY} (I : i_Rel k u v) (hk : k + 5 ≤ 2561) (v1 : Int32) : wpX_isPoint (fun r => wpY_isPoint (fun r' => r' = r ∧ i_Rel (k + 5) u v) v v1) u v1 := by
  obtain ⟨A, ai, al, hA, rfl, rfl, hv, hT⟩ := I
  have J : i_Rel (k + 5) (nI A) (nI A, nI (kz_rk A 16385), ai, al) := ⟨A, ai, al, hA, rfl, rfl, hv, hT⟩
  rcases kp_pt hA (nI (kz_rk A 16385)) ai al v1 with ⟨p, hp, rfl⟩ | ⟨hX, hY⟩
  · exact kx_isP1 hA hp (ky_isP1 hA hp ⟨rfl, J⟩)
  · exact hX _ (hY _ ⟨rfl, J⟩)
theorem i_vc_points {k : Nat} {u : SX} {v : SY} (I : i_Rel k u v) (hk : k + 5 ≤ 2561) : wpX_points (fun r => wpY_points (fun r' => r' = r ∧ i_Rel (k + 5) u v) v) u := by
  obtain ⟨A, ai, al, hA, rfl, rfl, hv, hT⟩ := I
  have J : i_Rel (k + 5) (nI A) (nI A, nI (kz_rk A 16385), ai, al) := ⟨A, ai, al, hA, rfl, rfl, hv, hT⟩
  exact kr_points hA ⟨rfl, J⟩
theorem i_vc_next {k : Nat} {u : SX} {v : SY} (I : i_Rel k u v) (hk : k + 5 ≤ 2561) (v1 : Int32) : wpX_next (fun r => wpY_next (fun r' => r' = r ∧ i_Rel (k + 5) u v) v v1) u v1 := by
  obtain ⟨A, ai, al, hA, rfl, rfl, hv, hT⟩ := I
  have J : i_Rel (k + 5) (nI A) (nI A, nI (kz_rk A 16385), ai, al) := ⟨A, ai, al, hA, rfl, rfl, hv, hT⟩
  have hY : ∀ (post : Int32 → Prop) (n : Nat), wY_next_2 post v1 (nI A) (nI (kz_rk A 16385)) ai al n (nI (kz_rk A 0)) → wpY_next post (nI A, nI (kz_rk A 16385), ai, al) v1 := fun post n h => ⟨n, h⟩
  unfold wpX_next
  refine br_c (fun h0 => ?_) (fun h0 => ?_)
  · obtain ⟨j, hj, rfl⟩ := nI_of (x := v1) (Int32.not_lt.mpr h0)
    rcases Nat.lt_or_ge 16384 j with z | z
    · refine ⟨1, br_t (nI_lt (a := 16384) z hj) ?_⟩
      obtain ⟨r, hX, hN⟩ := kr_next (ai := ai) (s := 16385) (v := nI j) hA hT (fun q h1 h2 => absurd h1 (by omega)) 0 16385 (Nat.le_refl _) rfl
      have e : r = -4 := (hX (fun t => t = -4 → r = -4) (fun w => w)).1 (by decide) rfl
      refine hY _ _ (kr_skip hA hT 16385 0 (Nat.le_refl _) (fun r hr => nI_lt (by omega) hj) (fun n hn => hN _ n hn ⟨e, J⟩) 16386 (by omega))
    · obtain ⟨r, hX, hN⟩ := kr_next (ai := ai) (s := j) (v := nI j) hA hT (fun q h1 h2 => nI_nlt h1 (by omega)) (16385 - j) j (Nat.le_refl _) (by omega)
      refine ⟨_, hX _ ?_⟩
      refine hY _ _ (kr_skip hA hT j (16385 - j) (by omega) (fun r hr => nI_lt (by omega) hj) (fun n hn => hN _ n hn ⟨rfl, J⟩) 16386 (by omega))
  · have hs : ∀ q, 0 ≤ q → q ≤ 16384 → ¬ nI q < v1 := by
      intro q h1 h2
      have e := nI_toInt (n := q) (by omega)
      rw [Int32.lt_iff_toInt_lt]
      rw [Int32.le_iff_toInt_le, show (0 : Int32).toInt = 0 from by decide] at h0
      omega
    obtain ⟨r, hX, hN⟩ := kr_next (ai := ai) hA hT hs 16385 0 (Nat.le_refl _) rfl
    refine ⟨_, hX _ ?_⟩
    exact hY _ 16386 (hN _ 16386 (by omega) ⟨rfl, J⟩)
theorem i_vc_add {k : Nat} {u : SX} {v : SY} (I : i_Rel k u v) (hk : k + 5 ≤ 2561) (v1 : Int32) (v2 : Int32) : wpX_add (fun r => wpY_add (fun r' => r' = r ∧ i_Rel (k + 5) u v) v v1 v2) u v1 v2 := by
  obtain ⟨A, ai, al, hA, rfl, rfl, hv, hT⟩ := I
  have J : i_Rel (k + 5) (nI A) (nI A, nI (kz_rk A 16385), ai, al) := ⟨A, ai, al, hA, rfl, rfl, hv, hT⟩
  unfold wpX_add
  rcases kp_pt hA (nI (kz_rk A 16385)) ai al v1 with ⟨p, hp, rfl⟩ | ⟨hX, hY⟩
  · refine kx_isP1 hA hp (br_f (by decide) ?_)
    rcases kp_pt hA (nI (kz_rk A 16385)) ai al v2 with ⟨q, hq, rfl⟩ | ⟨hX, hY⟩
    · refine kx_isP1 hA hq (br_f (by decide) ?_)
      refine kx_sum hA hp hq ?_
      unfold wpY_add
      dsimp only
      refine ky_isP1 hA hp (br_f (by decide) ?_)
      refine ky_isP1 hA hq (br_f (by decide) ?_)
      exact ky_sum hv hA hp hq ⟨rfl, J⟩
    · refine hX _ (br_t (by decide) ?_)
      unfold wpY_add
      dsimp only
      refine ky_isP1 hA hp (br_f (by decide) ?_)
      exact hY _ (br_t (by decide) ⟨rfl, J⟩)
  · refine hX _ (br_t (by decide) ?_)
    unfold wpY_add
    dsimp only
    exact hY _ (br_t (by decide) ⟨rfl, J⟩)
theorem i_vc_negate {k : Nat} {u : SX} {v : SY} (I : i_Rel k u v) (hk : k + 5 ≤ 2561) (v1 : Int32) : wpX_negate (fun r => wpY_negate (fun r' => r' = r ∧ i_Rel (k + 5) u v) v v1) u v1 := by
  obtain ⟨A, ai, al, hA, rfl, rfl, hv, hT⟩ := I
  have J : i_Rel (k + 5) (nI A) (nI A, nI (kz_rk A 16385), ai, al) := ⟨A, ai, al, hA, rfl, rfl, hv, hT⟩
  unfold wpX_negate
  rcases kp_pt hA (nI (kz_rk A 16385)) ai al v1 with ⟨p, hp, rfl⟩ | ⟨hX, hY⟩
  · refine kx_isP1 hA hp (br_f (by decide) ?_)
    refine kx_neg (kz_ple hp) ?_
    unfold wpY_negate
    dsimp only
    refine ky_isP1 hA hp (br_f (by decide) ?_)
    exact ky_neg (kz_ple hp) ⟨rfl, J⟩
  · refine hX _ (br_t (by decide) ?_)
    unfold wpY_negate
    dsimp only
    exact hY _ (br_t (by decide) ⟨rfl, J⟩)
theorem i_vc_multiple {k : Nat} {u : SX} {v : SY} (I : i_Rel k u v) (hk : k + 5 ≤ 2561) (v1 : Int32) (v2 : Int32) : wpX_multiple (fun r => wpY_multiple (fun r' => r' = r ∧ i_Rel (k + 5) u v) v v1 v2) u v1 v2 := by
  obtain ⟨A, ai, al, hA, rfl, rfl, hv, hT⟩ := I
  have J : i_Rel (k + 5) (nI A) (nI A, nI (kz_rk A 16385), ai, al) := ⟨A, ai, al, hA, rfl, rfl, hv, hT⟩
  unfold wpX_multiple
  rcases kp_pt hA (nI (kz_rk A 16385)) ai al v2 with ⟨p, hp, rfl⟩ | ⟨hX, hY⟩
  · refine kx_isP1 hA hp (br_f (by decide) ?_)
    rcases kp_tm (nI A) (nI (kz_rk A 16385)) ai al v1 with ⟨D, hD, eD, fD, gxD, gyD⟩ | ⟨hX, hY⟩
    · refine gxD _ (br_f (by decide) ?_)
      obtain ⟨m, d, hc⟩ := kz_cyc hA hp
      refine kx_rep hA hc hD eD fD ?_
      unfold wpY_multiple
      dsimp only
      refine ky_isP1 hA hp (br_f (by decide) ?_)
      refine gyD _ (br_f (by decide) ?_)
      exact ky_many hv hA hc hD eD fD ⟨rfl, J⟩
    · refine hX _ (br_t (by decide) ?_)
      unfold wpY_multiple
      dsimp only
      refine ky_isP1 hA hp (br_f (by decide) ?_)
      exact hY _ (br_t (by decide) ⟨rfl, J⟩)
  · refine hX _ (br_t (by decide) ?_)
    unfold wpY_multiple
    dsimp only
    exact hY _ (br_t (by decide) ⟨rfl, J⟩)
theorem i_vc_combine {k : Nat} {u : SX} {v : SY} (I : i_Rel k u v) (hk : k + 5 ≤ 2561) (v1 : Int32) (v2 : Int32) (v3 : Int32) (v4 : Int32) : wpX_combine (fun r => wpY_combine (fun r' => r' = r ∧ i_Rel (k + 5) u v) v v1 v2 v3 v4) u v1 v2 v3 v4 := by
  obtain ⟨A, ai, al, hA, rfl, rfl, hv, hT⟩ := I
  have J : i_Rel (k + 5) (nI A) (nI A, nI (kz_rk A 16385), ai, al) := ⟨A, ai, al, hA, rfl, rfl, hv, hT⟩
  unfold wpX_combine
  rcases kp_pt hA (nI (kz_rk A 16385)) ai al v2 with ⟨p, hp, rfl⟩ | ⟨hX, hY⟩
  · refine kx_isP1 hA hp (br_f (by decide) ?_)
    rcases kp_pt hA (nI (kz_rk A 16385)) ai al v4 with ⟨q, hq, rfl⟩ | ⟨hX, hY⟩
    · refine kx_isP1 hA hq (br_f (by decide) ?_)
      rcases kp_tm (nI A) (nI (kz_rk A 16385)) ai al v1 with ⟨D, hD, eD, fD, gxD, gyD⟩ | ⟨hX, hY⟩
      · refine gxD _ (br_f (by decide) ?_)
        rcases kp_tm (nI A) (nI (kz_rk A 16385)) ai al v3 with ⟨E, hE, eE, fE, gxE, gyE⟩ | ⟨hX, hY⟩
        · refine gxE _ (br_f (by decide) ?_)
          obtain ⟨m, d, hc⟩ := kz_cyc hA hp
          obtain ⟨m2, d2, hc2⟩ := kz_cyc hA hq
          have hm := kz_Vp (k := v1) hA (hc.2.2.2.2.1 D)
          have hm2 := kz_Vp (k := v3) hA (hc2.2.2.2.2.1 E)
          refine kx_rep hA hc hD eD fD (kx_rep hA hc2 hE eE fE (kx_sum hA hm hm2 ?_))
          unfold wpY_combine
          dsimp only
          refine ky_isP1 hA hp (br_f (by decide) ?_)
          refine ky_isP1 hA hq (br_f (by decide) ?_)
          refine gyD _ (br_f (by decide) ?_)
          refine gyE _ (br_f (by decide) ?_)
          exact ky_many hv hA hc hD eD fD (ky_many hv hA hc2 hE eE fE (ky_sum hv hA hm hm2 ⟨rfl, J⟩))
        · refine hX _ (br_t (by decide) ?_)
          unfold wpY_combine
          dsimp only
          refine ky_isP1 hA hp (br_f (by decide) ?_)
          refine ky_isP1 hA hq (br_f (by decide) ?_)
          refine gyD _ (br_f (by decide) ?_)
          exact hY _ (br_t (by decide) ⟨rfl, J⟩)
      · refine hX _ (br_t (by decide) ?_)
        unfold wpY_combine
        dsimp only
        refine ky_isP1 hA hp (br_f (by decide) ?_)
        refine ky_isP1 hA hq (br_f (by decide) ?_)
        exact hY _ (br_t (by decide) ⟨rfl, J⟩)
    · refine hX _ (br_t (by decide) ?_)
      unfold wpY_combine
      dsimp only
      refine ky_isP1 hA hp (br_f (by decide) ?_)
      exact hY _ (br_t (by decide) ⟨rfl, J⟩)
  · refine hX _ (br_t (by decide) ?_)
    unfold wpY_combine
    dsimp only
    exact hY _ (br_t (by decide) ⟨rfl, J⟩)
theorem i_vc_order {k : Nat} {u : SX} {v : SY} (I : i_Rel k u v) (hk : k + 5 ≤ 2561) (v1 : Int32) : wpX_order (fun r => wpY_order (fun r' => r' = r ∧ i_Rel (k + 5) u v) v v1) u v1 := by
  obtain ⟨A, ai, al, hA, rfl, rfl, hv, hT⟩ := I
  have J : i_Rel (k + 5) (nI A) (nI A, nI (kz_rk A 16385), ai, al) := ⟨A, ai, al, hA, rfl, rfl, hv, hT⟩
  unfold wpX_order
  rcases kp_pt hA (nI (kz_rk A 16385)) ai al v1 with ⟨p, hp, rfl⟩ | ⟨hX, hY⟩
  · refine kx_isP1 hA hp (br_f (by decide) ?_)
    obtain ⟨m, d, hc⟩ := kz_cyc hA hp
    refine kx_ord hA hc ?_
    unfold wpY_order
    dsimp only
    refine ky_isP1 hA hp (br_f (by decide) ?_)
    exact ky_ord hv hA hc ⟨rfl, J⟩
  · refine hX _ (br_t (by decide) ?_)
    unfold wpY_order
    dsimp only
    exact hY _ (br_t (by decide) ⟨rfl, J⟩)
theorem i_vc_half {k : Nat} {u : SX} {v : SY} (I : i_Rel k u v) (hk : k + 5 ≤ 2561) (v1 : Int32) : wpX_half (fun r => wpY_half (fun r' => r' = r ∧ i_Rel (k + 5) u v) v v1) u v1 := by
  obtain ⟨A, ai, al, hA, rfl, rfl, hv, hT⟩ := I
  have J : i_Rel (k + 5) (nI A) (nI A, nI (kz_rk A 16385), ai, al) := ⟨A, ai, al, hA, rfl, rfl, hv, hT⟩
  unfold wpX_half
  rcases kp_pt hA (nI (kz_rk A 16385)) ai al v1 with ⟨p, hp, rfl⟩ | ⟨hX, hY⟩
  · refine kx_isP1 hA hp (br_f (by decide) ?_)
    obtain ⟨r, hX, hY⟩ := kr_half hv hA (kz_ple hp) hT 16385 0 rfl
    refine ⟨_, hX _ ?_⟩
    unfold wpY_half
    dsimp only
    refine ky_isP1 hA hp (br_f (by decide) ?_)
    exact ⟨16386, hY _ 16386 (by omega) ⟨rfl, J⟩⟩
  · refine hX _ (br_t (by decide) ?_)
    unfold wpY_half
    dsimp only
    exact hY _ (br_t (by decide) ⟨rfl, J⟩)
theorem i_vc_halves {k : Nat} {u : SX} {v : SY} (I : i_Rel k u v) (hk : k + 5 ≤ 2561) (v1 : Int32) : wpX_halves (fun r => wpY_halves (fun r' => r' = r ∧ i_Rel (k + 5) u v) v v1) u v1 := by
  obtain ⟨A, ai, al, hA, rfl, rfl, hv, hT⟩ := I
  have J : i_Rel (k + 5) (nI A) (nI A, nI (kz_rk A 16385), ai, al) := ⟨A, ai, al, hA, rfl, rfl, hv, hT⟩
  unfold wpX_halves
  rcases kp_pt hA (nI (kz_rk A 16385)) ai al v1 with ⟨p, hp, rfl⟩ | ⟨hX, hY⟩
  · refine kx_isP1 hA hp (br_f (by decide) ?_)
    obtain ⟨r, hX, hY⟩ := kr_halves hv hA (kz_ple hp) hT 16385 0 0 rfl
    refine ⟨_, hX _ ?_⟩
    unfold wpY_halves
    dsimp only
    refine ky_isP1 hA hp (br_f (by decide) ?_)
    exact ⟨16386, hY _ 16386 (by omega) ⟨rfl, J⟩⟩
  · refine hX _ (br_t (by decide) ?_)
    unfold wpY_halves
    dsimp only
    exact hY _ (br_t (by decide) ⟨rfl, J⟩)
theorem i_vc_square {k : Nat} {u : SX} {v : SY} (I : i_Rel k u v) (hk : k + 5 ≤ 2561) (v1 : Int32) : wpX_square (fun r => wpY_square (fun r' => r' = r ∧ i_Rel (k + 5) u v) v v1) u v1 := by
  obtain ⟨A, ai, al, hA, rfl, rfl, hv, hT⟩ := I
  have J : i_Rel (k + 5) (nI A) (nI A, nI (kz_rk A 16385), ai, al) := ⟨A, ai, al, hA, rfl, rfl, hv, hT⟩
  unfold wpX_square
  rcases kp_pt hA (nI (kz_rk A 16385)) ai al v1 with ⟨p, hp, rfl⟩ | ⟨hX, hY⟩
  · refine kx_isP1 hA hp (br_f (by decide) ?_)
    have lp := kz_ple hp
    refine pk_eq p 16384 (fun e => ?_) (fun e => ?_)
    · unfold wpY_square
      dsimp only
      refine ky_isP1 hA hp (br_f (by decide) ?_)
      refine ⟨by decide, nm_r (pk_div (a := p) (d := 128) (by omega) (by decide) (by decide)) ?_⟩
      refine ⟨by decide, nm_r (pk_rem (a := p) (d := 128) (by omega) (by decide) (by decide)) ?_⟩
      exact br_t (by rw [e]; rfl) ⟨rfl, J⟩
    · have hx : p / 128 < 128 := by omega
      have hy : p % 128 < 128 := by omega
      refine kx_xOf lp (kx_yOf lp (kx_prod hx hx (kx_prod hy hy (kx_pO _ _ rfl rfl ?_))))
      unfold wpY_square
      dsimp only
      refine ky_isP1 hA hp (br_f (by decide) ?_)
      refine ⟨by decide, nm_r (pk_div (a := p) (d := 128) (by omega) (by decide) (by decide)) ?_⟩
      refine ⟨by decide, nm_r (pk_rem (a := p) (d := 128) (by omega) (by decide) (by decide)) ?_⟩
      refine br_f (kz_ne (b := 16384) lp (by decide) e) ?_
      refine ky_pr _ _ rfl rfl hx hx (ky_pr _ _ rfl rfl hy hy ⟨ky_pO _ _ rfl, J⟩)
  · refine hX _ (br_t (by decide) ?_)
    unfold wpY_square
    dsimp only
    exact hY _ (br_t (by decide) ⟨rfl, J⟩)
theorem i_vc_log {k : Nat} {u : SX} {v : SY} (I : i_Rel k u v) (hk : k + 5 ≤ 2561) (v1 : Int32) (v2 : Int32) : wpX_log (fun r => wpY_log (fun r' => r' = r ∧ i_Rel (k + 5) u v) v v1 v2) u v1 v2 := by
  obtain ⟨A, ai, al, hA, rfl, rfl, hv, hT⟩ := I
  have J : i_Rel (k + 5) (nI A) (nI A, nI (kz_rk A 16385), ai, al) := ⟨A, ai, al, hA, rfl, rfl, hv, hT⟩
  unfold wpX_log
  rcases kp_pt hA (nI (kz_rk A 16385)) ai al v1 with ⟨p, hp, rfl⟩ | ⟨hX, hY⟩
  · refine kx_isP1 hA hp (br_f (by decide) ?_)
    rcases kp_pt hA (nI (kz_rk A 16385)) ai al v2 with ⟨q, hq, rfl⟩ | ⟨hX, hY⟩
    · refine kx_isP1 hA hq (br_f (by decide) ?_)
      obtain ⟨m, d, hc⟩ := kz_cyc hA hp
      obtain ⟨r, hX, hY⟩ := kl_log (fc := nI (kz_rk A 16385)) (al := al) hv hA (kz_ple hq) hc
      refine hX _ ?_
      unfold wpY_log
      dsimp only
      refine ky_isP1 hA hp (br_f (by decide) ?_)
      refine ky_isP1 hA hq (br_f (by decide) ?_)
      exact ky_ord hv hA hc (hY _ ⟨rfl, J⟩)
    · refine hX _ (br_t (by decide) ?_)
      unfold wpY_log
      dsimp only
      refine ky_isP1 hA hp (br_f (by decide) ?_)
      exact hY _ (br_t (by decide) ⟨rfl, J⟩)
  · refine hX _ (br_t (by decide) ?_)
    unfold wpY_log
    dsimp only
    exact hY _ (br_t (by decide) ⟨rfl, J⟩)
end
