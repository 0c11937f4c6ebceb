/-! tables, and the pure picture: field, curve, sum -/
def kz_E : Nat := 0x416171797d7f7e3f5e2f562b542a154b6432194d6772395d6f763b5c2e174a255368341a0d476231596d777a3d5f6e375a2d576a355b6c361b4c261348241209456370381c0e0742215169757b7c3e1f4e275229556b743a1d4f6633582c160b442211496573783c1e0f46235028140a05436030180c060340201008040201416171797d7f7e3f5e2f562b542a154b6432194d6772395d6f763b5c2e174a255368341a0d476231596d777a3d5f6e375a2d576a355b6c361b4c261348241209456370381c0e0742215169757b7c3e1f4e275229556b743a1d4f6633582c160b442211496573783c1e0f46235028140a05436030180c060340201008040201
def kz_L : Nat := 0x790078007a003100320053007b0018005400650033002800190069007c003c00660050005500480029004b0034005d006a0024001a006e003d0058007d000c00510076006700630049004e00560022004c0074002a0072005e002c003500120025002e006b0045006f0060001b004200590014003e001e000d0037007e00060077003000520017006400270068003b004f0047004a005c0023006d0057000b00750062004d002100730071002b0011002d0044005f00410013001d00360005002f00160026003a0046005b006c000a006100200070001000430040001c000400150039005a0009001f000f003f000300380008000e0002000700010000012c
def kz_I : Nat := 0x4003205a2d52105d296557316f1e0813731f554259696a580f1a7628483a042b4e0c7811217c6b6875306d432c7a35320d5f461c140b3b631d4d2417546c027f0637273949623c263e0751333450745618227b53600577643d381645192e5b7d6e72474c0e66232f44250a4b70095c79671b4f5e4a151271363f2a617e410100
def kz_P0 : Nat := 0x6a8322123a2181a2a9e11431af9367b07b02f2b24fa285735e234193de0267e11e91c7f10ba310a2bdf3d5f3ba53e4413ec0d3739c00f420081394b37d633151efc2d1b14f929363ae91d332dbe13050cc30e6516f22c5b2ce6196f1df8061133a6214928891770368c2b3f0ea4143b27ae000127e114130eb92b6936e1175e28d8210b33c1061d1dc3195d2cbf2c0316df0e790cda13232de51d093a9c296414d02d411ec1337337b9393900800f5c39b30d2d13cb3e383bd23d252b883168109b1c4711ca26323d9b34713589280724b32f7507bf36171acc11612acb182a23e5324506a54000
def kz_P1 : Nat := 0x15e32bc276501d6244a03ba35711787387a2ee81e7f0f93307a02f7123805de04563e91073904d5055c08eb0a703fc21a6912aa3a6026d8163e3cbd2a0b30eb22361ff01f5a1bb803420ba2023621ea080a29d0234018a60b6819e7207225b52e220ada092a0ded1004389a252222f7155a15e437161cb43c3a098f0c1034ce1b2a31e63f442fd13b4520b6000120f73b332f8e3f3a31851b1c34a70c08099c3c421c8d377815cf157022b2256838eb10240df609380acf2e7e25fe203219d40b7e189723062983081a21a902320bb503441b8f1f641fcf2272308a2a5f3cc4161226953a14128f1a5d3fbd0a6408fa055604dc07373eec045e05d5121c02f2301a0f8c1e432eb5380a17a8351b03bd240201d5272b32d9015c4000
/-- every number below n -/
noncomputable def kz_all (f : Nat → Bool) (n : Nat) : Bool := @Nat.rec (fun _ => Bool) true (fun k ih => @Bool.rec (fun _ => Bool) false ih (f k)) n
noncomputable def kz_any (f : Nat → Bool) (n : Nat) : Bool := @Nat.rec (fun _ => Bool) false (fun k ih => @Bool.rec (fun _ => Bool) ih true (f k)) n
theorem kz_all_of {f : Nat → Bool} : ∀ {n : Nat}, kz_all f n = true → ∀ i, i < n → f i = true := by
  intro n
  induction n with
  | zero => intro _ i h; omega
  | succ n ih =>
    intro h i hi
    have e : kz_all f (n + 1) = @Bool.rec (fun _ => Bool) false (kz_all f n) (f n) := rfl
    rw [e] at h
    cases hf : f n with
    | false => rw [hf] at h; exact absurd (show false = true from h) Bool.false_ne_true
    | true =>
      rw [hf] at h
      rcases Nat.lt_or_ge i n with z | z
      · exact ih h i z
      · have : i = n := by omega
        rw [this]; exact hf
theorem kz_any_of {f : Nat → Bool} : ∀ {n : Nat}, kz_any f n = true → ∃ i, i < n ∧ f i = true := by
  intro n
  induction n with
  | zero => intro h; exact absurd (show false = true from h) Bool.false_ne_true
  | succ n ih =>
    intro h
    have e : kz_any f (n + 1) = @Bool.rec (fun _ => Bool) (kz_any f n) true (f n) := rfl
    rw [e] at h
    cases hf : f n with
    | true => exact ⟨n, by omega, hf⟩
    | false =>
      rw [hf] at h
      obtain ⟨i, hi, z⟩ := ih h
      exact ⟨i, by omega, z⟩
/-- the product by logarithms -/
def kz_lg (a : Nat) : Nat := Nat.land (Nat.shiftRight kz_L (Nat.mul 16 a)) 65535
def kz_mt (a b : Nat) : Nat := Nat.land (Nat.shiftRight kz_E (Nat.mul 8 (Nat.add (kz_lg a) (kz_lg b)))) 127
def kz_iv (b : Nat) : Nat := Nat.land (Nat.shiftRight kz_I (Nat.mul 8 b)) 127
/-- X's product, a step: digit i -/
def kz_rd (r : Nat) : Nat := Nat.xor r (Nat.mul 131 (Nat.shiftRight r 7))
def kz_bi (b i : Nat) : Nat := Nat.mod (Nat.shiftRight b i) 2
def kz_xs (a b i r : Nat) : Nat := Nat.xor (kz_rd (Nat.mul r 2)) (Nat.mul a (kz_bi b i))
def kz_mx (a b : Nat) : Nat := kz_xs a b 0 (kz_xs a b 1 (kz_xs a b 2 (kz_xs a b 3 (kz_xs a b 4 (kz_xs a b 5 (kz_xs a b 6 0))))))
/-- Y's product -/
noncomputable def kz_sh (a i : Nat) : Nat := @Nat.rec (fun _ => Nat) a (fun _ r => kz_rd (Nat.mul r 2)) i
noncomputable def kz_sm (a b i : Nat) : Nat := @Nat.rec (fun _ => Nat) 0 (fun k r => Nat.xor r (Nat.mul (kz_sh a k) (kz_bi b k))) i
theorem kz_ckm : kz_all (fun a => kz_all (fun b => and (Nat.beq (kz_mx a b) (kz_mt a b)) (Nat.beq (kz_sm a b 7) (kz_mt a b))) 128) 128 = true := by decide +kernel
theorem kz_ckq : kz_all (fun b => kz_all (fun c => or (Nat.beq b 0) (and (Nat.beq (kz_mt b (kz_mt c (kz_iv b))) c) (Nat.beq (kz_mt (kz_mt b c) (kz_iv b)) c))) 128) 128 = true := by decide +kernel
theorem kz_ckr : kz_all (fun r => and (Nat.blt (kz_rd (Nat.mul r 2)) 128) (cond (Nat.blt (Nat.mul r 2) 128) (Nat.beq (kz_rd (Nat.mul r 2)) (Nat.mul r 2)) (Nat.beq (kz_rd (Nat.mul r 2)) (Nat.xor (Nat.mul r 2) 131)))) 128 = true := by decide +kernel
theorem kz_ckA : kz_all (fun x => and (Nat.beq (kz_mt 0 x) 0) (Nat.beq (kz_mt 1 x) x)) 128 = true := by decide +kernel
/-- the curve -/
def kz_on (A x y : Nat) : Bool := Nat.beq (Nat.xor (kz_mt y y) (kz_mt x y)) (Nat.xor (Nat.xor (kz_mt (kz_mt x x) x) (Nat.mul A (kz_mt x x))) 1)
def kz_pt (A p : Nat) : Bool := cond (Nat.ble 16384 p) (Nat.beq p 16384) (kz_on A (Nat.div p 128) (Nat.mod p 128))
def kz_ng (p : Nat) : Nat := cond (Nat.beq p 16384) 16384 (Nat.add (Nat.mul 128 (Nat.div p 128)) (Nat.xor (Nat.div p 128) (Nat.mod p 128)))
def kz_b1 (x y l s : Nat) : Nat := Nat.add (Nat.mul 128 s) (Nat.xor (Nat.xor (kz_mt l (Nat.xor x s)) s) y)
def kz_a1 (A x y u l : Nat) : Nat := kz_b1 x y l (Nat.xor (Nat.xor (Nat.xor (Nat.xor (kz_mt l l) l) x) u) A)
def kz_b2 (x l s : Nat) : Nat := Nat.add (Nat.mul 128 s) (Nat.xor (kz_mt x x) (kz_mt (Nat.xor l 1) s))
def kz_a2 (A x l : Nat) : Nat := kz_b2 x l (Nat.xor (Nat.xor (kz_mt l l) l) A)
def kz_ad (A x y u v : Nat) : Nat := cond (Nat.beq x u) (kz_a2 A x (Nat.xor x (kz_mt y (kz_iv x)))) (kz_a1 A x y u (kz_mt (Nat.xor y v) (kz_iv (Nat.xor x u))))
def kz_S (A p q : Nat) : Nat := cond (Nat.beq p 16384) q (cond (Nat.beq q 16384) p (cond (Nat.beq q (kz_ng p)) 16384 (kz_ad A (Nat.div p 128) (Nat.mod p 128) (Nat.div q 128) (Nat.mod q 128))))
/-- the group: multiples of a generator -/
def kz_n (A : Nat) : Nat := cond (Nat.beq A 0) 116 142
def kz_e (A i : Nat) : Nat := Nat.land (Nat.shiftRight (cond (Nat.beq A 0) kz_P0 kz_P1) (Nat.mul 16 i)) 65535
theorem kz_ckg0 : kz_all (fun i => kz_all (fun j => Nat.beq (kz_S 0 (kz_e 0 i) (kz_e 0 j)) (kz_e 0 (Nat.mod (Nat.add i j) 116))) 116) 116 = true := by decide +kernel
theorem kz_ckg1 : kz_all (fun i => kz_all (fun j => Nat.beq (kz_S 1 (kz_e 1 i) (kz_e 1 j)) (kz_e 1 (Nat.mod (Nat.add i j) 142))) 142) 142 = true := by decide +kernel
theorem kz_cke0 : kz_all (fun i => and (kz_pt 0 (kz_e 0 i)) (and (kz_pt 0 (kz_ng (kz_e 0 i))) (or (Nat.beq i 0) (not (Nat.beq (kz_e 0 i) 16384))))) 116 = true := by decide +kernel
theorem kz_cke1 : kz_all (fun i => and (kz_pt 1 (kz_e 1 i)) (and (kz_pt 1 (kz_ng (kz_e 1 i))) (or (Nat.beq i 0) (not (Nat.beq (kz_e 1 i) 16384))))) 142 = true := by decide +kernel
theorem kz_ckc0 : kz_all (fun p => cond (kz_pt 0 p) (kz_any (fun i => Nat.beq (kz_e 0 i) p) 116) true) 16385 = true := by decide +kernel
theorem kz_ckc1 : kz_all (fun p => cond (kz_pt 1 p) (kz_any (fun i => Nat.beq (kz_e 1 i) p) 142) true) 16385 = true := by decide +kernel
theorem kz_ckx0 : kz_all (fun p => cond (kz_pt 0 p) (Nat.beq p 1) true) 128 = true := by decide +kernel
theorem kz_ckx1 : kz_all (fun p => cond (kz_pt 1 p) (Nat.beq p 1) true) 128 = true := by decide +kernel
/-- how many points are below q -/
noncomputable def kz_rk (A q : Nat) : Nat := @Nat.rec (fun _ => Nat) 0 (fun k r => Nat.add r (cond (kz_pt A k) 1 0)) q
noncomputable def kz_rw (A x y : Nat) : Nat := @Nat.rec (fun _ => Nat) 0 (fun k r => Nat.add r (cond (kz_pt A (Nat.add (Nat.mul 128 x) k)) 1 0)) y
theorem kz_ckw0 : kz_all (fun x => Nat.ble (kz_rw 0 x 128) 2) 128 = true := by decide +kernel
theorem kz_ckw1 : kz_all (fun x => Nat.ble (kz_rw 1 x 128) 2) 128 = true := by decide +kernel
