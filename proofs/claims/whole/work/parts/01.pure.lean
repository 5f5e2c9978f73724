/-! pure rows: pasted from the kit's rows to paste, then the bits of a frame -/
theorem pk_us {f : Nat → Int32} {k : Nat} {x : Int32} : upd f k x k = x := if_pos rfl
theorem pk_un {f : Nat → Int32} {k j : Nat} {x : Int32} (h : j ≠ k) : upd f k x j = f j := if_neg h
theorem pk_uLs {f : Nat → Int64} {k : Nat} {x : Int64} : vp_updL f k x k = x := if_pos rfl
theorem pk_uLn {f : Nat → Int64} {k j : Nat} {x : Int64} (h : j ≠ k) : vp_updL f k x j = f j := if_neg h
theorem pk_sub {a b : Nat} (h : b ≤ a) : nI a - nI b = nI (a - b) := by
  obtain ⟨c, rfl⟩ : ∃ c, a = c + b := ⟨a - b, by omega⟩
  rw [← nI_add, Int32.add_sub_cancel, Nat.add_sub_cancel]
theorem pk_m1 (n : Nat) : nI (n + 1) + (-1) = nI n := by
  rw [← nI_1, Int32.add_assoc, show (1 : Int32) + (-1) = 0 from rfl, Int32.add_zero]
theorem pk_mul (a b : Nat) : nI a * nI b = nI (a * b) := (Int32.ofNat_mul a b).symm
theorem pk_div {a d : Nat} (ha : a < 2 ^ 31) (h0 : 0 < d) (hd : d < 2 ^ 31) : nI a / nI d = nI (a / d) := by
  apply Int32.toInt_inj.mp
  rw [lg_idiv_nonneg (by rw [nI_toInt ha]; omega) (by rw [nI_toInt hd]; omega), nI_toInt ha, nI_toInt hd, nI_toInt (Nat.lt_of_le_of_lt (Nat.div_le_self a d) ha)]
  first | rfl | exact (Int.natCast_ediv _ _).symm
theorem pk_rem {a d : Nat} (ha : a < 2 ^ 31) (h0 : 0 < d) (hd : d < 2 ^ 31) : nI a - nI a / nI d * nI d = nI (a % d) := by
  rw [pk_div ha h0 hd, pk_mul, pk_sub (Nat.div_mul_le_self a d)]
  exact congrArg nI (by have := Nat.div_add_mod' a d; omega)
theorem pk_ix (x : Int32) {n : Nat} (hn : n < 2 ^ 31) : x < 0 ∨ nI n ≤ x ∨ ∃ j : Nat, j < n ∧ x = nI j := by
  by_cases h : x < 0
  · exact Or.inl h
  · obtain ⟨j, hj, rfl⟩ := nI_of h
    by_cases h2 : j < n
    · exact Or.inr (Or.inr ⟨j, h2, rfl⟩)
    · exact Or.inr (Or.inl (nI_le (by omega) hj))
theorem pk_le {x y : Int32} {A B : Prop} (a b : Nat) (f : a ≤ b → A) (g : b < a → B) (hx : x = nI a := by rfl) (hy : y = nI b := by rfl) (ha : a < 2 ^ 31 := by omega) (hb : b < 2 ^ 31 := by omega) : (x ≤ y → A) ∧ (¬ x ≤ y → B) := by
  subst hx hy
  rw [nI_leI ha hb]
  exact ⟨f, fun z => g (by omega)⟩
theorem pk_lt {x y : Int32} {A B : Prop} (a b : Nat) (f : a < b → A) (g : b ≤ a → B) (hx : x = nI a := by rfl) (hy : y = nI b := by rfl) (ha : a < 2 ^ 31 := by omega) (hb : b < 2 ^ 31 := by omega) : (x < y → A) ∧ (¬ x < y → B) := by
  subst hx hy
  rw [nI_ltI ha hb]
  exact ⟨f, fun z => g (by omega)⟩
theorem pk_eq {x y : Int32} {A B : Prop} (a b : Nat) (f : a = b → A) (g : a ≠ b → B) (hx : x = nI a := by rfl) (hy : y = nI b := by rfl) (ha : a < 2 ^ 31 := by omega) (hb : b < 2 ^ 31 := by omega) : (x = y → A) ∧ (¬ x = y → B) := by
  subst hx hy
  rw [nI_eq ha hb]
  exact ⟨f, g⟩
theorem pk_in {x : Int32} (n N : Nat) (h : n < N) (hx : x = nI n := by rfl) (hN : N < 2 ^ 31 := by omega) : vp_in x N := by
  subst hx
  exact vp_in_nI h hN
theorem pk_cl {x : Int32} (n : Nat) (hx : x = nI n := by rfl) (h : n < 2 ^ 31 := by omega) : x.toNatClampNeg = n := by
  subst hx
  exact nI_clamp h
theorem pk_tn {n : Nat} (h : n < 2 ^ 32) : (nI n).toBitVec.toNat = n := Nat.mod_eq_of_lt h
theorem pk_and (x : Int32) {m : Int32} (k : Nat) (hm : m.toBitVec.toNat = 2 ^ k - 1) : x &&& m = nI (x.toBitVec.toNat % 2 ^ k) := by
  apply Int32.toBitVec_inj.mp
  apply BitVec.eq_of_toNat_eq
  rw [Int32.toBitVec_and, BitVec.toNat_and, hm, Nat.and_two_pow_sub_one_eq_mod]
  show _ = (BitVec.ofNat 32 _).toNat
  rw [BitVec.toNat_ofNat]
  exact (Nat.mod_eq_of_lt (Nat.lt_of_le_of_lt (Nat.mod_le _ _) x.toBitVec.isLt)).symm
theorem pk_andN {n : Nat} (h : n < 2 ^ 32) {m : Int32} (k : Nat) (hm : m.toBitVec.toNat = 2 ^ k - 1) : nI n &&& m = nI (n % 2 ^ k) := by
  rw [pk_and _ k hm, pk_tn h]
theorem pk_shl (a s : Int32) (k : Nat) (hs : (s.toBitVec.smod 32).toNat = k) : (a <<< s).toBitVec.toNat = a.toBitVec.toNat * 2 ^ k % 2 ^ 32 := by
  show (a.toBitVec <<< (s.toBitVec.smod 32).toNat).toNat = _
  rw [hs, BitVec.toNat_shiftLeft, Nat.shiftLeft_eq]
theorem pk_shlN {n : Nat} (s : Int32) (k : Nat) (hs : (s.toBitVec.smod 32).toNat = k) (h : n * 2 ^ k < 2 ^ 32) : nI n <<< s = nI (n * 2 ^ k) := by
  apply Int32.toBitVec_inj.mp
  apply BitVec.eq_of_toNat_eq
  have hn : n < 2 ^ 32 := Nat.lt_of_le_of_lt (Nat.le_mul_of_pos_right n (Nat.two_pow_pos k)) h
  rw [pk_shl _ _ k hs, pk_tn hn, pk_tn h, Nat.mod_eq_of_lt h]
theorem pk_shr (a s : Int32) (k : Nat) (hs : (s.toBitVec.smod 32).toNat = k) : (a >>> s).toInt = a.toInt >>> k := by
  show (a.toBitVec.sshiftRight (s.toBitVec.smod 32).toNat).toInt = _
  rw [hs, BitVec.toInt_sshiftRight]
  rfl
theorem pk_shrN {n : Nat} (h : n < 2 ^ 31) (s : Int32) (k : Nat) (hs : (s.toBitVec.smod 32).toNat = k) : nI n >>> s = nI (n / 2 ^ k) := by
  apply Int32.toInt_inj.mp
  have h2 : n / 2 ^ k ≤ n := Nat.div_le_self _ _
  rw [pk_shr _ _ k hs, nI_toInt h, nI_toInt (by omega), Int.shiftRight_eq_div_pow]
  rfl
theorem s_l : ∀ n, n < 32 → ((nI n &&& 31).toBitVec.smod 32).toNat = n := by decide +kernel
theorem nx_xor (a b : Nat) : nI a ^^^ nI b = nI (a ^^^ b) := by
  apply Int32.toBitVec_inj.1
  show BitVec.ofNat 32 a ^^^ BitVec.ofNat 32 b = BitVec.ofNat 32 (a ^^^ b)
  apply BitVec.eq_of_getLsbD_eq
  intro i hi
  simp [hi]
theorem wb_tb (n : Nat) : (lN n).toBitVec = BitVec.ofNat 64 n := rfl
theorem wb_inj {a b : Int64} (h : a.toBitVec = b.toBitVec) : a = b := Int64.toBitVec_inj.mp h
theorem wb_tn {n : Nat} (h : n < 2 ^ 64) : (lN n).toBitVec.toNat = n := by rw [wb_tb, BitVec.toNat_ofNat, Nat.mod_eq_of_lt h]
theorem wb_of (x : Int64) : ∃ n, n < 2 ^ 64 ∧ x = lN n := ⟨x.toBitVec.toNat, x.toBitVec.isLt, wb_inj (by rw [wb_tb]; simp)⟩
theorem wb_c : ∀ k, k < 64 → ((nI k).toInt64 &&& 63) = lN k := by decide +kernel
theorem wb_cu : ∀ k, k < 64 → ((nI k).toInt64.toUInt64 &&& Int64.toUInt64 63) = UInt64.ofNat k := by decide +kernel
theorem wb_sm : ∀ k, k < 64 → (BitVec.ofNat 64 k).smod 64 = BitVec.ofNat 64 k := by decide +kernel
theorem wb_pw {a b : Nat} (h : a ≤ b) : 2 ^ b = 2 ^ a * 2 ^ (b - a) := by rw [← Nat.pow_add]; congr 1; omega
theorem wb_lt2 {a b : Nat} (h : a < b) : 2 ^ a < 2 ^ b := Nat.pow_lt_pow_right (by decide) h
theorem wb_shr {n k : Nat} (hn : n < 2 ^ 64) (hk : k < 64) : ((lN n).toUInt64 >>> ((nI k).toInt64.toUInt64 &&& Int64.toUInt64 63)).toInt64 = lN (n / 2 ^ k) := by
  rw [wb_cu k hk]
  apply wb_inj
  apply BitVec.eq_of_toNat_eq
  show ((lN n).toUInt64 >>> UInt64.ofNat k).toNat = (BitVec.ofNat 64 _).toNat
  have h1 : (UInt64.ofNat k).toNat = k := by
    show (BitVec.ofNat 64 k).toNat = k
    rw [BitVec.toNat_ofNat, Nat.mod_eq_of_lt (by omega)]
  have h2 : (lN n).toUInt64.toNat = n := wb_tn hn
  rw [UInt64.toNat_shiftRight, h1, h2, Nat.mod_eq_of_lt hk, Nat.shiftRight_eq_div_pow, BitVec.toNat_ofNat, Nat.mod_eq_of_lt (Nat.lt_of_le_of_lt (Nat.div_le_self _ _) hn)]
theorem wb_and {a b : Nat} (ha : a < 2 ^ 64) (hb : b < 2 ^ 64) : lN a &&& lN b = lN (a &&& b) := by
  apply wb_inj
  rw [Int64.toBitVec_and, wb_tb, wb_tb, wb_tb]
  apply BitVec.eq_of_toNat_eq
  rw [BitVec.toNat_and, BitVec.toNat_ofNat, BitVec.toNat_ofNat, BitVec.toNat_ofNat, Nat.mod_eq_of_lt ha, Nat.mod_eq_of_lt hb, Nat.mod_eq_of_lt (Nat.and_lt_two_pow _ hb)]
theorem wb_mask {n k : Nat} (hn : n < 2 ^ 64) (hk : k < 64) : lN n &&& lN (2 ^ k - 1) = lN (n % 2 ^ k) := by
  rw [wb_and hn (by have := wb_lt2 hk; omega), Nat.and_two_pow_sub_one_eq_mod]
theorem wb_a1 {n : Nat} (hn : n < 2 ^ 64) : lN n &&& 1 = lN (n % 2) := wb_mask (k := 1) hn (by decide)
theorem wb_bit {n k : Nat} (hn : n < 2 ^ 64) (hk : k < 64) : ((lN n).toUInt64 >>> ((nI k).toInt64.toUInt64 &&& Int64.toUInt64 63)).toInt64 &&& 1 = lN (n / 2 ^ k % 2) := by
  rw [wb_shr hn hk, wb_a1 (Nat.lt_of_le_of_lt (Nat.div_le_self _ _) hn)]

theorem wn_nb0 : vp_nar .boolean 0 = 0 := by first | rfl | decide
theorem wn_nb1 : vp_nar .boolean 1 = 1 := by first | rfl | decide
def wn_set (f : Nat → Nat) (k a : Nat) : Nat → Nat := fun j => if j = k then a else f j
theorem wn_set_s {f : Nat → Nat} {k a : Nat} : wn_set f k a k = a := if_pos rfl
theorem wn_set_n {f : Nat → Nat} {k a j : Nat} (h : j ≠ k) : wn_set f k a j = f j := if_neg h
theorem wn_upd (f : Nat → Nat) (k a : Nat) : upd (fun z => nI (f z)) k (nI a) = fun z => nI (wn_set f k a z) := by
  funext j
  by_cases e : j = k
  · subst e
    rw [pk_us, wn_set_s]
  · rw [pk_un e, wn_set_n e]
theorem wn_or (a b : Nat) : nI a ||| nI b = nI (a ||| b) := by
  apply Int32.toBitVec_inj.1
  show BitVec.ofNat 32 a ||| BitVec.ofNat 32 b = BitVec.ofNat 32 (a ||| b)
  apply BitVec.eq_of_getLsbD_eq
  intro i hi
  simp [hi]
theorem wn_and1 {m : Nat} (h : m < 2 ^ 32) : nI m &&& 1 = nI (m % 2) := pk_andN h 1 (by decide)
theorem wn_19 (l : Nat) : (19 : Int32) + 8 * nI l = nI (19 + 8 * l) := by
  show nI 19 + nI 8 * nI l = _
  rw [pk_mul, nI_add]
theorem wn_head {a l : Nat} (ha : a < 2048) (hl : l ≤ 8) : (nI a <<< ((7 : Int32) &&& 31)) ||| nI l = nI (a * 128 + l) := by
  rw [pk_shlN _ 7 (by decide) (by omega), wn_or]
  refine congrArg nI ?_
  have := Nat.two_pow_add_eq_or_of_lt (i := 7) (b := l) (by omega) a
  rw [Nat.mul_comm] at this
  exact this.symm
/-- bit i of the plain bits of a frame: id a, length l, data n, check number c -/
def wn_b (a l n c i : Nat) : Nat :=
  if i < 19 then (a * 128 + l) / 2 ^ (18 - i) % 2 else if i < 19 + 8 * l then n / 2 ^ (18 + 8 * l - i) % 2 else c / 2 ^ (33 + 8 * l - i) % 2
theorem wn_b_le (a l n c i : Nat) : wn_b a l n c i ≤ 1 := by
  unfold wn_b
  split
  · exact Nat.le_of_lt_succ (Nat.mod_lt _ (by decide))
  · split
    · exact Nat.le_of_lt_succ (Nat.mod_lt _ (by decide))
    · exact Nat.le_of_lt_succ (Nat.mod_lt _ (by decide))
theorem wn_sh {c s : Nat} (hc : c < 2 ^ 31) (hs : s < 32) : (nI c >>> (nI s &&& 31)) &&& 1 = nI (c / 2 ^ s % 2) := by
  rw [pk_shrN hc _ s (s_l s hs), wn_and1 (Nat.lt_of_le_of_lt (Nat.div_le_self _ _) (by omega))]
/-- the lowest bit of a long cast to an int -/
theorem wn_low (z : Int64) : z.toInt32 &&& 1 = nI (z.toBitVec.toNat % 2) := by
  have e : z.toInt32.toBitVec.toNat % 2 = z.toBitVec.toNat % 2 := by
    rw [Int64.toBitVec_toInt32, BitVec.signExtend_eq_setWidth_of_le _ (by decide), BitVec.toNat_setWidth]
    omega
  have h := pk_and z.toInt32 (m := 1) 1 (by decide)
  rw [h]
  exact congrArg nI e
theorem wn_dsh {n s : Nat} (hn : n < 2 ^ 64) (hs : s < 64) : (lN n >>> ((nI s).toInt64 &&& 63)).toInt32 &&& 1 = nI (n / 2 ^ s % 2) := by
  rw [wn_low, wb_c s hs]
  refine congrArg nI ?_
  have e : (lN n >>> lN s).toBitVec = (lN n).toBitVec.sshiftRight s := by
    show (lN n).toBitVec.sshiftRight ((lN s).toBitVec.smod 64).toNat = _
    rw [wb_tb s, wb_sm s hs, BitVec.toNat_ofNat, Nat.mod_eq_of_lt (by omega)]
  rw [e]
  have g : ((lN n).toBitVec.sshiftRight s).getLsbD 0 = (lN n).toBitVec.getLsbD s := by
    rw [BitVec.getLsbD_sshiftRight]
    simp [hs]
  have g1 : ((lN n).toBitVec.sshiftRight s).toNat.testBit 0 = (lN n).toBitVec.toNat.testBit s := g
  rw [wb_tn hn, Nat.testBit_zero, Nat.testBit_eq_decide_div_mod_eq] at g1
  have g2 : (((lN n).toBitVec.sshiftRight s).toNat % 2 = 1) ↔ (n / 2 ^ s % 2 = 1) := decide_eq_decide.mp g1
  generalize ((lN n).toBitVec.sshiftRight s).toNat = m at g2 ⊢
  generalize n / 2 ^ s = q at g2 ⊢
  omega
theorem wn_ush {n s : Nat} (hn : n < 2 ^ 64) (hs : s < 64) : ((((lN n).toUInt64 >>> ((nI s).toInt64.toUInt64 &&& Int64.toUInt64 63)).toInt64) &&& 1).toInt32 = nI (n / 2 ^ s % 2) := by
  rw [wb_bit hn hs, lN_i]
/-- a step of the check number -/
def wn_cs (b c : Nat) : Nat := if b = c / 16384 then 2 * c % 32768 else (2 * c % 32768) ^^^ 17817
def wn_C (f : Nat → Nat) : Nat → Nat
  | 0 => 0
  | n + 1 => wn_cs (f n) (wn_C f n)
theorem wn_cs_lt (b c : Nat) : wn_cs b c < 32768 := by
  unfold wn_cs
  split
  · exact Nat.mod_lt _ (by decide)
  · exact Nat.xor_lt_two_pow (n := 15) (Nat.mod_lt _ (by decide)) (by decide)
theorem wn_C_lt (f : Nat → Nat) (n : Nat) : wn_C f n < 32768 := by
  cases n with
  | zero => show 0 < 32768; decide
  | succ n => exact wn_cs_lt _ _
theorem wn_C_cg {f g : Nat → Nat} : ∀ n, (∀ i, i < n → f i = g i) → wn_C f n = wn_C g n := by
  intro n
  induction n with
  | zero => intro _; rfl
  | succ n ih =>
    intro h
    show wn_cs (f n) (wn_C f n) = wn_cs (g n) (wn_C g n)
    rw [h n (by omega), ih (fun i hi => h i (by omega))]
theorem wn_f0 {b q : Nat} (hb : b ≤ 1) (hq : q ≤ 1) : nI b ^^^ nI q = if b = q then 0 else 1 := by
  obtain rfl | rfl : b = 0 ∨ b = 1 := by omega
  · obtain rfl | rfl : q = 0 ∨ q = 1 := by omega
    · decide
    · decide
  · obtain rfl | rfl : q = 0 ∨ q = 1 := by omega
    · decide
    · decide
theorem wn_fX {b c : Nat} (hb : b ≤ 1) (hc : c < 32768) : nI b ^^^ (nI c >>> ((14 : Int32) &&& 31)) = if b = c / 16384 then 0 else 1 := by
  rw [pk_shrN (by omega) _ 14 (by decide)]
  exact wn_f0 hb (show c / 16384 ≤ 1 by omega)
theorem wn_fY {b c : Nat} (hb : b ≤ 1) (hc : c < 32768) : nI b ^^^ ((nI c >>> ((14 : Int32) &&& 31)) &&& 1) = if b = c / 16384 then 0 else 1 := by
  rw [pk_shrN (by omega) _ 14 (by decide), wn_and1 (show c / 2 ^ 14 < 2 ^ 32 by omega)]
  have e : c / 2 ^ 14 % 2 = c / 16384 := by omega
  rw [e]
  exact wn_f0 hb (by omega)
theorem wn_dX {c : Nat} (hc : c < 32768) : (2 * nI c) &&& 32767 = nI (2 * c % 32768) := by
  show (nI 2 * nI c) &&& 32767 = _
  rw [pk_mul]
  exact pk_andN (by omega) 15 (by decide)
theorem wn_dY {c : Nat} (hc : c < 32768) : (nI c * 2) &&& 32767 = nI (2 * c % 32768) := by
  show (nI c * nI 2) &&& 32767 = _
  rw [pk_mul, Nat.mul_comm]
  exact pk_andN (by omega) 15 (by decide)
theorem wn_px (m : Nat) : nI m ^^^ 17817 = nI (m ^^^ 17817) := nx_xor m 17817
/-- a plain bit is put out, the stuffed one ahead of it where it is due: how many so far, the last, how many equal -/
def wn_put (b : Nat) (s : Nat × Nat × Nat) : Nat × Nat × Nat :=
  if s.2.2 = 5 then (s.1 + 2, b, if b = 1 - s.2.1 then 2 else 1) else (s.1 + 1, b, if b = s.2.1 then s.2.2 + 1 else 1)
def wn_P (f : Nat → Nat) : Nat → Nat × Nat × Nat
  | 0 => (0, 0, 0)
  | n + 1 => wn_put (f n) (wn_P f n)
def wn_ok (n : Nat) (s : Nat × Nat × Nat) : Prop := n ≤ s.1 ∧ s.1 ≤ 2 * n ∧ s.2.1 ≤ 1 ∧ s.2.2 ≤ 5
theorem wn_put_ok {n b : Nat} {s : Nat × Nat × Nat} (hb : b ≤ 1) (h : wn_ok n s) : wn_ok (n + 1) (wn_put b s) := by
  obtain ⟨s1, s2, s3⟩ := s
  unfold wn_ok at h ⊢
  unfold wn_put
  dsimp only at h ⊢
  by_cases e : s3 = 5
  · rw [if_pos e]
    by_cases e2 : b = 1 - s2
    · rw [if_pos e2]
      dsimp only
      omega
    · rw [if_neg e2]
      dsimp only
      omega
  · rw [if_neg e]
    by_cases e2 : b = s2
    · rw [if_pos e2]
      dsimp only
      omega
    · rw [if_neg e2]
      dsimp only
      omega
theorem wn_P_ok {f : Nat → Nat} (hf : ∀ i, f i ≤ 1) : ∀ n, wn_ok n (wn_P f n) := by
  intro n
  induction n with
  | zero => exact ⟨Nat.le_refl 0, Nat.le_refl 0, Nat.zero_le 1, Nat.zero_le 5⟩
  | succ n ih => exact wn_put_ok (hf n) ih
