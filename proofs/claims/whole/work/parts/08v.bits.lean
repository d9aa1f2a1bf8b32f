/-! how many bits -/
theorem andI (a b : Nat) : nI a &&& nI b = nI (a &&& b) := by
  apply Int32.toBitVec_inj.mp
  show BitVec.ofNat 32 a &&& BitVec.ofNat 32 b = BitVec.ofNat 32 (a &&& b)
  apply BitVec.eq_of_toNat_eq
  rw [BitVec.toNat_and, BitVec.toNat_ofNat, BitVec.toNat_ofNat, BitVec.toNat_ofNat, Nat.and_mod_two_pow]
theorem orI (a b : Nat) : nI a ||| nI b = nI (a ||| b) := by
  apply Int32.toBitVec_inj.mp
  show BitVec.ofNat 32 a ||| BitVec.ofNat 32 b = BitVec.ofNat 32 (a ||| b)
  apply BitVec.eq_of_toNat_eq
  rw [BitVec.toNat_or, BitVec.toNat_ofNat, BitVec.toNat_ofNat, BitVec.toNat_ofNat, Nat.or_mod_two_pow]
theorem shU {x : Nat} (hx : x < 2 ^ 31) : ((nI x).toUInt32 >>> ((1 : Int32).toUInt32 &&& Int32.toUInt32 31)).toInt32 = nI (x / 2) ∧ ((nI x).toUInt32 >>> ((2 : Int32).toUInt32 &&& Int32.toUInt32 31)).toInt32 = nI (x / 4) ∧ ((nI x).toUInt32 >>> ((4 : Int32).toUInt32 &&& Int32.toUInt32 31)).toInt32 = nI (x / 16) ∧ ((nI x).toUInt32 >>> ((8 : Int32).toUInt32 &&& Int32.toUInt32 31)).toInt32 = nI (x / 256) ∧ ((nI x).toUInt32 >>> ((16 : Int32).toUInt32 &&& Int32.toUInt32 31)).toInt32 = nI (x / 65536) := by
  have h : ∀ k : Nat, k < 32 → (BitVec.ofNat 32 x >>> k) = BitVec.ofNat 32 (x / 2 ^ k) := fun k hk => by
    apply BitVec.eq_of_toNat_eq
    rw [BitVec.toNat_ushiftRight, BitVec.toNat_ofNat, BitVec.toNat_ofNat, Nat.shiftRight_eq_div_pow, Nat.mod_eq_of_lt (show x < 2 ^ 32 by omega), Nat.mod_eq_of_lt (Nat.lt_of_le_of_lt (Nat.div_le_self _ _) (by omega))]
  refine ⟨?_, ?_, ?_, ?_, ?_⟩
  · exact Int32.toBitVec_inj.mp (h 1 (by decide))
  · exact Int32.toBitVec_inj.mp (h 2 (by decide))
  · exact Int32.toBitVec_inj.mp (h 4 (by decide))
  · exact Int32.toBitVec_inj.mp (h 8 (by decide))
  · exact Int32.toBitVec_inj.mp (h 16 (by decide))
theorem and256 (a b c d : Nat) (hb : b < 256) (hd : d < 256) : (256 * a + b) &&& (256 * c + d) = 256 * (a &&& c) + (b &&& d) := by
  have h1 : ((256 * a + b) &&& (256 * c + d)) / 2 ^ 8 = a &&& c := by
    rw [Nat.and_div_two_pow, show (256 * a + b) / 2 ^ 8 = a by omega, show (256 * c + d) / 2 ^ 8 = c by omega]
  have h2 : ((256 * a + b) &&& (256 * c + d)) % 2 ^ 8 = b &&& d := by
    rw [Nat.and_mod_two_pow, show (256 * a + b) % 2 ^ 8 = b by omega, show (256 * c + d) % 2 ^ 8 = d by omega]
  omega
def S1 (x m : Nat) : Nat := x - (x / 2 &&& m)
def S2 (x m : Nat) : Nat := (x &&& m) + (x / 4 &&& m)
def S3 (x m : Nat) : Nat := (x + x / 16) &&& m
theorem by_1 : ∀ b, b < 256 → ∀ r, r < 2 → ((b / 2 + 128 * r) &&& 85) = (b / 2 &&& 85) := by decide +kernel
theorem by_2 : ∀ b, b < 256 → ∀ r, r < 4 → ((b / 4 + 64 * r) &&& 51) = (b / 4 &&& 51) := by decide +kernel
theorem by_3 : ∀ b, b < 256 → ∀ r, r < 16 → ((b + b / 16 + 16 * r) &&& 15) = ((b + b / 16) &&& 15) := by decide +kernel
theorem by_4 : ∀ b, b < 256 → S1 b 85 < 256 ∧ S2 (S1 b 85) 51 ≤ 68 ∧ S2 (S1 b 85) 51 % 16 ≤ 4 ∧ S3 (S2 (S1 b 85) 51) 15 = ctn (fun j => b.testBit j) 8 ∧ ctn (fun j => b.testBit j) 8 ≤ 8 := by decide +kernel
theorem S1_s {y b m : Nat} (hb : b < 256) : S1 (256 * y + b) (256 * m + 85) = 256 * S1 y m + S1 b 85 := by
  unfold S1
  rw [show (256 * y + b) / 2 = 256 * (y / 2) + (b / 2 + 128 * (y % 2)) by omega, and256 _ _ _ _ (by omega) (by decide), by_1 b hb _ (Nat.mod_lt _ (by decide))]
  have h1 : (y / 2 &&& m) ≤ y / 2 := Nat.and_le_left
  have h2 : (b / 2 &&& 85) ≤ b / 2 := Nat.and_le_left
  omega
theorem S2_s {y b m : Nat} (hb : b < 256) : S2 (256 * y + b) (256 * m + 51) = 256 * S2 y m + S2 b 51 := by
  unfold S2
  rw [show (256 * y + b) / 4 = 256 * (y / 4) + (b / 4 + 64 * (y % 4)) by omega, and256 y b m 51 hb (by decide), and256 _ _ _ _ (by omega) (by decide), by_2 b hb _ (Nat.mod_lt _ (by decide))]
  omega
theorem S3_s {y b m : Nat} (hb : b ≤ 68) (hy : y % 16 ≤ 4) : S3 (256 * y + b) (256 * m + 15) = 256 * S3 y m + S3 b 15 := by
  unfold S3
  rw [show 256 * y + b + (256 * y + b) / 16 = 256 * (y + y / 16) + (b + b / 16 + 16 * (y % 16)) by omega, and256 _ _ _ _ (by omega) (by decide), by_3 b (by omega) _ (Nat.mod_lt _ (by decide))]
theorem bcB {b0 b1 b2 b3 : Nat} (h0 : b0 < 256) (h1 : b1 < 256) (h2 : b2 < 256) (h3 : b3 < 256) : S1 (256 * (256 * (256 * b3 + b2) + b1) + b0) 1431655765 = 256 * (256 * (256 * S1 b3 85 + S1 b2 85) + S1 b1 85) + S1 b0 85 ∧ S2 (256 * (256 * (256 * S1 b3 85 + S1 b2 85) + S1 b1 85) + S1 b0 85) 858993459 = 256 * (256 * (256 * S2 (S1 b3 85) 51 + S2 (S1 b2 85) 51) + S2 (S1 b1 85) 51) + S2 (S1 b0 85) 51 ∧ S3 (256 * (256 * (256 * S2 (S1 b3 85) 51 + S2 (S1 b2 85) 51) + S2 (S1 b1 85) 51) + S2 (S1 b0 85) 51) 252645135 = 256 * (256 * (256 * S3 (S2 (S1 b3 85) 51) 15 + S3 (S2 (S1 b2 85) 51) 15) + S3 (S2 (S1 b1 85) 51) 15) + S3 (S2 (S1 b0 85) 51) 15 := by
  have p0 := by_4 b0 h0
  have p1 := by_4 b1 h1
  have p2 := by_4 b2 h2
  have p3 := by_4 b3 h3
  refine ⟨?_, ?_, ?_⟩
  · rw [show 1431655765 = 256 * (256 * (256 * 85 + 85) + 85) + 85 from rfl, S1_s h0, S1_s h1, S1_s h2]
  · rw [show 858993459 = 256 * (256 * (256 * 51 + 51) + 51) + 51 from rfl, S2_s p0.1, S2_s p1.1, S2_s p2.1]
  · rw [show 252645135 = 256 * (256 * (256 * 15 + 15) + 15) + 15 from rfl, S3_s p0.2.1 (by omega), S3_s p1.2.1 (by omega), S3_s p2.2.1 (by omega)]
theorem bc_J {b0 b1 b2 b3 : Nat} (h0 : b0 < 256) (h1 : b1 < 256) (h2 : b2 < 256) (h3 : b3 < 2) : f_J6_bitCount_0f7a4 (nI (256 * (256 * (256 * b3 + b2) + b1) + b0)) = some (nI (ctn (fun j => b0.testBit j) 8 + ctn (fun j => b1.testBit j) 8 + ctn (fun j => b2.testBit j) 8 + ctn (fun j => b3.testBit j) 8)) := by
  obtain ⟨q1, q2, q3⟩ := bcB h0 h1 h2 (show b3 < 256 by omega)
  have p0 := by_4 b0 h0
  have p1 := by_4 b1 h1
  have p2 := by_4 b2 h2
  have p3 := by_4 b3 (by omega)
  have hs3 : S1 b3 85 ≤ b3 := Nat.sub_le _ _
  have hx : 256 * (256 * (256 * b3 + b2) + b1) + b0 < 2 ^ 31 := by omega
  unfold f_J6_bitCount_0f7a4
  rw [(shU hx).1, show (1431655765 : Int32) = nI 1431655765 from rfl, andI, pk_sub (show ((256 * (256 * (256 * b3 + b2) + b1) + b0) / 2 &&& 1431655765) ≤ 256 * (256 * (256 * b3 + b2) + b1) + b0 from Nat.le_trans Nat.and_le_left (Nat.div_le_self _ _))]
  rw [show 256 * (256 * (256 * b3 + b2) + b1) + b0 - ((256 * (256 * (256 * b3 + b2) + b1) + b0) / 2 &&& 1431655765) = 256 * (256 * (256 * S1 b3 85 + S1 b2 85) + S1 b1 85) + S1 b0 85 from q1]
  rw [(shU (x := 256 * (256 * (256 * S1 b3 85 + S1 b2 85) + S1 b1 85) + S1 b0 85) (by omega)).2.1, show (858993459 : Int32) = nI 858993459 from rfl, andI, andI, nI_add]
  rw [show (256 * (256 * (256 * S1 b3 85 + S1 b2 85) + S1 b1 85) + S1 b0 85 &&& 858993459) + ((256 * (256 * (256 * S1 b3 85 + S1 b2 85) + S1 b1 85) + S1 b0 85) / 4 &&& 858993459) = 256 * (256 * (256 * S2 (S1 b3 85) 51 + S2 (S1 b2 85) 51) + S2 (S1 b1 85) 51) + S2 (S1 b0 85) 51 from q2]
  rw [(shU (x := 256 * (256 * (256 * S2 (S1 b3 85) 51 + S2 (S1 b2 85) 51) + S2 (S1 b1 85) 51) + S2 (S1 b0 85) 51) (by omega)).2.2.1, show (252645135 : Int32) = nI 252645135 from rfl, nI_add, andI]
  rw [show (256 * (256 * (256 * S2 (S1 b3 85) 51 + S2 (S1 b2 85) 51) + S2 (S1 b1 85) 51) + S2 (S1 b0 85) 51 + (256 * (256 * (256 * S2 (S1 b3 85) 51 + S2 (S1 b2 85) 51) + S2 (S1 b1 85) 51) + S2 (S1 b0 85) 51) / 16 &&& 252645135) = 256 * (256 * (256 * S3 (S2 (S1 b3 85) 51) 15 + S3 (S2 (S1 b2 85) 51) 15) + S3 (S2 (S1 b1 85) 51) 15) + S3 (S2 (S1 b0 85) 51) 15 from q3]
  rw [p0.2.2.2.1, p1.2.2.2.1, p2.2.2.2.1, p3.2.2.2.1]
  have z0 := p0.2.2.2.2
  have z1 := p1.2.2.2.2
  have z2 := p2.2.2.2.2
  have z3 := p3.2.2.2.2
  generalize ctn (fun j => b0.testBit j) 8 = c0 at *
  generalize ctn (fun j => b1.testBit j) 8 = c1 at *
  generalize ctn (fun j => b2.testBit j) 8 = c2 at *
  generalize ctn (fun j => b3.testBit j) 8 = c3 at *
  rw [(shU (x := 256 * (256 * (256 * c3 + c2) + c1) + c0) (by omega)).2.2.2.1, nI_add, (shU (x := 256 * (256 * (256 * c3 + c2) + c1) + c0 + (256 * (256 * (256 * c3 + c2) + c1) + c0) / 256) (by omega)).2.2.2.2, nI_add, show (63 : Int32) = nI 63 from rfl, andI, show (63 : Nat) = 2 ^ 6 - 1 from rfl, Nat.and_two_pow_sub_one_eq_mod]
  have t1 : (256 * (256 * (256 * c3 + c2) + c1) + c0) / 256 = 256 * (256 * c3 + c2) + c1 := by omega
  have t2 : (256 * (256 * (256 * c3 + c2) + c1) + c0 + (256 * (256 * c3 + c2) + c1)) / 65536 = 256 * c3 + c2 + c3 := by omega
  rw [t1, t2]
  rw [show (256 * (256 * (256 * c3 + c2) + c1) + c0 + (256 * (256 * c3 + c2) + c1) + (256 * c3 + c2 + c3)) % 2 ^ 6 = c0 + c1 + c2 + c3 by omega]
theorem ctn_add {p : Nat → Bool} {a : Nat} : ∀ b, ctn p (a + b) = ctn p a + ctn (fun j => p (a + j)) b
  | 0 => rfl
  | b + 1 => by
    show ctn p (a + b) + (if p (a + b) then 1 else 0) = ctn p a + (ctn (fun j => p (a + j)) b + (if p (a + b) then 1 else 0))
    rw [ctn_add b]; omega
theorem bc_n {x : Nat} (hx : x < 2 ^ 25) : f_J6_bitCount_0f7a4 (nI x) = some (nI (ctn (fun j => x.testBit j) 25)) := by
  have h := bc_J (b0 := x % 256) (b1 := x / 256 % 256) (b2 := x / 65536 % 256) (b3 := x / 16777216) (by omega) (by omega) (by omega) (by omega)
  rw [show 256 * (256 * (256 * (x / 16777216) + x / 65536 % 256) + x / 256 % 256) + x % 256 = x by omega] at h
  rw [h]
  have e0 : ctn (fun j => (x % 256).testBit j) 8 = ctn (fun j => x.testBit j) 8 := ctn_cong (fun k hk => by rw [show 256 = 2 ^ 8 from rfl, Nat.testBit_mod_two_pow]; simp [hk])
  have e1 : ctn (fun j => (x / 256 % 256).testBit j) 8 = ctn (fun j => x.testBit (8 + j)) 8 := ctn_cong (fun k hk => by rw [show 256 = 2 ^ 8 from rfl, Nat.testBit_mod_two_pow, Nat.testBit_div_two_pow]; simp [hk, Nat.add_comm])
  have e2 : ctn (fun j => (x / 65536 % 256).testBit j) 8 = ctn (fun j => x.testBit (16 + j)) 8 := ctn_cong (fun k hk => by rw [show 256 = 2 ^ 8 from rfl, show 65536 = 2 ^ 16 from rfl, Nat.testBit_mod_two_pow, Nat.testBit_div_two_pow]; simp [hk, Nat.add_comm])
  have e3 : ctn (fun j => (x / 16777216).testBit j) 8 = ctn (fun j => x.testBit (24 + j)) 8 := ctn_cong (fun k hk => by rw [show 16777216 = 2 ^ 24 from rfl, Nat.testBit_div_two_pow]; simp [Nat.add_comm])
  have e4 : ctn (fun j => x.testBit (24 + j)) 8 = ctn (fun j => x.testBit (24 + j)) 1 := by
    have := ctn_add (p := fun j => x.testBit (24 + j)) (a := 1) 7
    have z : ctn (fun j => x.testBit (24 + (1 + j))) 7 = 0 := by
      rw [ctn_cong (p := fun j => x.testBit (24 + (1 + j))) (q := fun _ => false) (fun k hk => Nat.testBit_lt_two_pow (Nat.lt_of_lt_of_le hx (Nat.pow_le_pow_right (by decide) (by omega))))]
      exact ctn_0 (fun _ => rfl) 7
    rw [show (8 : Nat) = 1 + 7 from rfl, this, z]; rfl
  have f1 := ctn_add (p := fun j => x.testBit j) (a := 8) 8
  have f2 := ctn_add (p := fun j => x.testBit j) (a := 16) 8
  have f3 := ctn_add (p := fun j => x.testBit j) (a := 24) 1
  simp only [Nat.reduceAdd] at f1 f2 f3
  rw [e0, e1, e2, e3, e4, f3, f2, f1]
