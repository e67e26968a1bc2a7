section
theorem pk_us {f : Nat → Int32} {k : Nat} {x : Int32} : upd f k x k = x := if_pos rfl
theorem pk_un {f : Nat → Int32} {k j : Nat} {x : Int32} (h : j ≠ k) : upd f k x j = f j := if_neg h
theorem pk_uLs {f : Nat → Int64} {k : Nat} {x : Int64} : vp_updL f k x k = x := if_pos rfl
theorem pk_uLn {f : Nat → Int64} {k j : Nat} {x : Int64} (h : j ≠ k) : vp_updL f k x j = f j := if_neg h
theorem pk_sub {a b : Nat} (h : b ≤ a) : nI a - nI b = nI (a - b) := by
  obtain ⟨c, rfl⟩ : ∃ c, a = c + b := ⟨a - b, by omega⟩
  rw [← nI_add, Int32.add_sub_cancel, Nat.add_sub_cancel]
theorem pk_m1 (n : Nat) : nI (n + 1) + (-1) = nI n := by
  rw [← nI_1, Int32.add_assoc, show (1 : Int32) + (-1) = 0 from rfl, Int32.add_zero]
theorem pk_mul (a b : Nat) : nI a * nI b = nI (a * b) := (Int32.ofNat_mul a b).symm
theorem pk_div {a d : Nat} (ha : a < 2 ^ 31) (h0 : 0 < d) (hd : d < 2 ^ 31) : nI a / nI d = nI (a / d) := by
  apply Int32.toInt_inj.mp
  rw [lg_idiv_nonneg (by rw [nI_toInt ha]; omega) (by rw [nI_toInt hd]; omega), nI_toInt ha, nI_toInt hd, nI_toInt (Nat.lt_of_le_of_lt (Nat.div_le_self a d) ha)]
  first | rfl | exact (Int.natCast_ediv _ _).symm
theorem pk_rem {a d : Nat} (ha : a < 2 ^ 31) (h0 : 0 < d) (hd : d < 2 ^ 31) : nI a - nI a / nI d * nI d = nI (a % d) := by
  rw [pk_div ha h0 hd, pk_mul, pk_sub (Nat.div_mul_le_self a d)]
  exact congrArg nI (by have := Nat.div_add_mod' a d; omega)
theorem pk_sub_toInt {a b : Nat} (ha : a < 2 ^ 30) (hb : b < 2 ^ 30) : (nI a - nI b).toInt = (a : Int) - b := by
  rw [Int32.toInt_sub, nI_toInt (by omega), nI_toInt (by omega)]
  exact Int.bmod_eq_of_le (by omega) (by omega)
theorem pk_sneg {a b : Nat} (hb : b < 2 ^ 30) (h : a < b) : nI a - nI b < 0 := by
  rw [Int32.lt_iff_toInt_lt, pk_sub_toInt (by omega) hb, show (0 : Int32).toInt = 0 from by decide]
  omega
theorem pk_ix (x : Int32) {n : Nat} (hn : n < 2 ^ 31) : x < 0 ∨ nI n ≤ x ∨ ∃ j : Nat, j < n ∧ x = nI j := by
  by_cases h : x < 0
  · exact Or.inl h
  · obtain ⟨j, hj, rfl⟩ := nI_of h
    by_cases h2 : j < n
    · exact Or.inr (Or.inr ⟨j, h2, rfl⟩)
    · exact Or.inr (Or.inl (nI_le (by omega) hj))
theorem pk_le {x y : Int32} {A B : Prop} (a b : Nat) (f : a ≤ b → A) (g : b < a → B) (hx : x = nI a := by rfl) (hy : y = nI b := by rfl) (ha : a < 2 ^ 31 := by omega) (hb : b < 2 ^ 31 := by omega) : (x ≤ y → A) ∧ (¬ x ≤ y → B) := by
  subst hx hy
  rw [nI_leI ha hb]
  exact ⟨f, fun z => g (by omega)⟩
theorem pk_lt {x y : Int32} {A B : Prop} (a b : Nat) (f : a < b → A) (g : b ≤ a → B) (hx : x = nI a := by rfl) (hy : y = nI b := by rfl) (ha : a < 2 ^ 31 := by omega) (hb : b < 2 ^ 31 := by omega) : (x < y → A) ∧ (¬ x < y → B) := by
  subst hx hy
  rw [nI_ltI ha hb]
  exact ⟨f, fun z => g (by omega)⟩
theorem pk_eq {x y : Int32} {A B : Prop} (a b : Nat) (f : a = b → A) (g : a ≠ b → B) (hx : x = nI a := by rfl) (hy : y = nI b := by rfl) (ha : a < 2 ^ 31 := by omega) (hb : b < 2 ^ 31 := by omega) : (x = y → A) ∧ (¬ x = y → B) := by
  subst hx hy
  rw [nI_eq ha hb]
  exact ⟨f, g⟩
theorem pk_in {x : Int32} (n N : Nat) (h : n < N) (hx : x = nI n := by rfl) (hN : N < 2 ^ 31 := by omega) : vp_in x N := by
  subst hx
  exact vp_in_nI h hN
theorem pk_cl {x : Int32} (n : Nat) (hx : x = nI n := by rfl) (h : n < 2 ^ 31 := by omega) : x.toNatClampNeg = n := by
  subst hx
  exact nI_clamp h
theorem pk_tn {n : Nat} (h : n < 2 ^ 32) : (nI n).toBitVec.toNat = n := Nat.mod_eq_of_lt h
theorem pk_and (x : Int32) {m : Int32} (k : Nat) (hm : m.toBitVec.toNat = 2 ^ k - 1) : x &&& m = nI (x.toBitVec.toNat % 2 ^ k) := by
  apply Int32.toBitVec_inj.mp
  apply BitVec.eq_of_toNat_eq
  rw [Int32.toBitVec_and, BitVec.toNat_and, hm, Nat.and_two_pow_sub_one_eq_mod]
  show _ = (BitVec.ofNat 32 _).toNat
  rw [BitVec.toNat_ofNat]
  exact (Nat.mod_eq_of_lt (Nat.lt_of_le_of_lt (Nat.mod_le _ _) x.toBitVec.isLt)).symm
theorem pk_andN {n : Nat} (h : n < 2 ^ 32) {m : Int32} (k : Nat) (hm : m.toBitVec.toNat = 2 ^ k - 1) : nI n &&& m = nI (n % 2 ^ k) := by
  rw [pk_and _ k hm, pk_tn h]
theorem pk_andE (x : Int32) {m : Int32} (k : Nat) (hm : m.toBitVec.toNat = 2 ^ k - 1) : ∃ j : Nat, j < 2 ^ k ∧ x &&& m = nI j := ⟨_, Nat.mod_lt _ (Nat.two_pow_pos k), pk_and x k hm⟩
theorem pk_andIn (x : Int32) {m : Int32} (k : Nat) (hm : m.toBitVec.toNat = 2 ^ k - 1) (hk : k ≤ 30) : vp_in (x &&& m) (2 ^ k) := by
  obtain ⟨j, hj, e⟩ := pk_andE x k hm
  rw [e]
  exact vp_in_nI hj (Nat.lt_of_le_of_lt (Nat.pow_le_pow_right (by decide) hk) (by decide))
theorem pk_shl (a s : Int32) (k : Nat) (hs : (s.toBitVec.smod 32).toNat = k) : (a <<< s).toBitVec.toNat = a.toBitVec.toNat * 2 ^ k % 2 ^ 32 := by
  show (a.toBitVec <<< (s.toBitVec.smod 32).toNat).toNat = _
  rw [hs, BitVec.toNat_shiftLeft, Nat.shiftLeft_eq]
theorem pk_shlN {n : Nat} (s : Int32) (k : Nat) (hs : (s.toBitVec.smod 32).toNat = k) (h : n * 2 ^ k < 2 ^ 32) : nI n <<< s = nI (n * 2 ^ k) := by
  apply Int32.toBitVec_inj.mp
  apply BitVec.eq_of_toNat_eq
  have hn : n < 2 ^ 32 := Nat.lt_of_le_of_lt (Nat.le_mul_of_pos_right n (Nat.two_pow_pos k)) h
  rw [pk_shl _ _ k hs, pk_tn hn, pk_tn h, Nat.mod_eq_of_lt h]
theorem pk_shr (a s : Int32) (k : Nat) (hs : (s.toBitVec.smod 32).toNat = k) : (a >>> s).toInt = a.toInt >>> k := by
  show (a.toBitVec.sshiftRight (s.toBitVec.smod 32).toNat).toInt = _
  rw [hs, BitVec.toInt_sshiftRight]
  rfl
theorem pk_shrN {n : Nat} (h : n < 2 ^ 31) (s : Int32) (k : Nat) (hs : (s.toBitVec.smod 32).toNat = k) : nI n >>> s = nI (n / 2 ^ k) := by
  apply Int32.toInt_inj.mp
  have h2 : n / 2 ^ k ≤ n := Nat.div_le_self _ _
  rw [pk_shr _ _ k hs, nI_toInt h, nI_toInt (by omega), Int.shiftRight_eq_div_pow]
  rfl
theorem pk_ushr (x s : Int32) (k : Nat) (hs : ((s.toUInt32 &&& Int32.toUInt32 31).toBitVec % 32).toNat = k) : (x.toUInt32 >>> (s.toUInt32 &&& Int32.toUInt32 31)).toInt32.toBitVec.toNat = x.toBitVec.toNat / 2 ^ k := by
  have e : (x.toUInt32 >>> (s.toUInt32 &&& Int32.toUInt32 31)).toInt32.toBitVec = x.toBitVec >>> k := by
    rw [← hs]
    exact UInt32.toBitVec_shiftRight _ _
  rw [e, BitVec.toNat_ushiftRight, Nat.shiftRight_eq_div_pow]
theorem pk_ushrN {n : Nat} (hn : n < 2 ^ 32) (s : Int32) (k : Nat) (hs : ((s.toUInt32 &&& Int32.toUInt32 31).toBitVec % 32).toNat = k) : ((nI n).toUInt32 >>> (s.toUInt32 &&& Int32.toUInt32 31)).toInt32 = nI (n / 2 ^ k) := by
  apply Int32.toBitVec_inj.mp
  apply BitVec.eq_of_toNat_eq
  rw [pk_ushr _ s k hs, pk_tn hn, pk_tn (Nat.lt_of_le_of_lt (Nat.div_le_self _ _) hn)]
theorem pk_lT {n : Nat} (h : n < 2 ^ 63) : (lN n).toInt = (n : Int) := lg_ofNat_toInt h
theorem pk_lLT {a b : Nat} (ha : a < 2 ^ 63) (hb : b < 2 ^ 63) : lN a < lN b ↔ a < b := by
  rw [Int64.lt_iff_toInt_lt, pk_lT ha, pk_lT hb]; omega
theorem pk_lLE {a b : Nat} (ha : a < 2 ^ 63) (hb : b < 2 ^ 63) : lN a ≤ lN b ↔ a ≤ b := by
  rw [Int64.le_iff_toInt_le, pk_lT ha, pk_lT hb]; omega
theorem pk_lEQ {a b : Nat} (ha : a < 2 ^ 63) (hb : b < 2 ^ 63) : lN a = lN b ↔ a = b := by
  rw [← Int64.toInt_inj, pk_lT ha, pk_lT hb]; omega
theorem pk_lOf {x : Int64} (h : ¬ x < 0) : ∃ k : Nat, k < 2 ^ 63 ∧ x = lN k := by
  rw [Int64.lt_iff_toInt_lt] at h
  have h0 : (0 : Int64).toInt = 0 := by decide
  have hx := Int64.toInt_lt x
  refine ⟨x.toInt.toNat, by omega, Int64.toInt_inj.mp ?_⟩
  rw [pk_lT (by omega)]
  omega
theorem pk_lDiv {a b : Nat} (ha : a < 2 ^ 63) (h0 : 0 < b) (hb : b < 2 ^ 63) : lN a / lN b = lN (a / b) := by
  apply Int64.toInt_inj.mp
  rw [lg_ldiv_nonneg (by rw [pk_lT ha]; omega) (by rw [pk_lT hb]; omega), pk_lT ha, pk_lT hb, pk_lT (Nat.lt_of_le_of_lt (Nat.div_le_self a b) ha)]
  rfl
theorem pk_lRem {a b : Nat} (ha : a < 2 ^ 63) (h0 : 0 < b) (hb : b < 2 ^ 63) : lN a - lN a / lN b * lN b = lN (a % b) := by
  rw [pk_lDiv ha h0 hb, lN_mul, lN_sub (Nat.div_mul_le_self a b)]
  exact congrArg lN (by have := Nat.div_add_mod' a b; omega)
theorem pk_loop {σ : Type} (W : Nat → Nat → σ → Prop) (I : Nat → σ → Prop) (e i0 : Nat) (s : σ) (hi : i0 ≤ e) (h0 : I i0 s) (hx : ∀ n s, I e s → W (n + 1) e s)
    (hs : ∀ n i s, i < e → I i s → (∀ s', I (i + 1) s' → W n (i + 1) s') → W (n + 1) i s) : ∃ n, W n i0 s :=
  ⟨e + 1, loop_i W I e hx hs (e + 1) i0 s hi (by omega) h0⟩
theorem pk_loopD {σ : Type} (W : Nat → Nat → σ → Prop) (I : Nat → σ → Prop) (hx : ∀ n s, I 0 s → W (n + 1) 0 s)
    (hs : ∀ n i s, I (i + 1) s → (∀ s', I i s' → W n i s') → W (n + 1) (i + 1) s) : ∀ (e : Nat) (s : σ), I e s → W (e + 1) e s := by
  intro e
  induction e with
  | zero => exact fun s h => hx 0 s h
  | succ e ih => exact fun s h => hs (e + 1) e s h (fun s' h' => ih s' h')
theorem lp1 {A1 : Type} (W : Nat → A1 → Prop) (I : A1 → Prop) (μ : A1 → Nat) (hs : ∀ (n : Nat) (a1 : A1), I a1 → (∀ (b1 : A1), I b1 → μ b1 < μ a1 → W n b1) → W (n + 1) a1) (a1 : A1) (h : I a1) : ∃ n, W n a1 :=
  loop_m (σ := A1) (fun n s => W n s) (fun s => I s) (fun s => μ s) (fun n s hI hk => hs n s hI (fun b1 h9 hm => hk b1 h9 hm)) a1 h
theorem lp2 {A1 A2 : Type} (W : Nat → A1 → A2 → Prop) (I : A1 → A2 → Prop) (μ : A1 → A2 → Nat) (hs : ∀ (n : Nat) (a1 : A1) (a2 : A2), I a1 a2 → (∀ (b1 : A1) (b2 : A2), I b1 b2 → μ b1 b2 < μ a1 a2 → W n b1 b2) → W (n + 1) a1 a2) (a1 : A1) (a2 : A2) (h : I a1 a2) : ∃ n, W n a1 a2 :=
  loop_m (σ := A1 × A2) (fun n s => W n s.1 s.2) (fun s => I s.1 s.2) (fun s => μ s.1 s.2) (fun n s hI hk => hs n s.1 s.2 hI (fun b1 b2 h9 hm => hk (b1, b2) h9 hm)) (a1, a2) h
theorem lp3 {A1 A2 A3 : Type} (W : Nat → A1 → A2 → A3 → Prop) (I : A1 → A2 → A3 → Prop) (μ : A1 → A2 → A3 → Nat) (hs : ∀ (n : Nat) (a1 : A1) (a2 : A2) (a3 : A3), I a1 a2 a3 → (∀ (b1 : A1) (b2 : A2) (b3 : A3), I b1 b2 b3 → μ b1 b2 b3 < μ a1 a2 a3 → W n b1 b2 b3) → W (n + 1) a1 a2 a3) (a1 : A1) (a2 : A2) (a3 : A3) (h : I a1 a2 a3) : ∃ n, W n a1 a2 a3 :=
  loop_m (σ := A1 × A2 × A3) (fun n s => W n s.1 s.2.1 s.2.2) (fun s => I s.1 s.2.1 s.2.2) (fun s => μ s.1 s.2.1 s.2.2) (fun n s hI hk => hs n s.1 s.2.1 s.2.2 hI (fun b1 b2 b3 h9 hm => hk (b1, b2, b3) h9 hm)) (a1, a2, a3) h
theorem lp4 {A1 A2 A3 A4 : Type} (W : Nat → A1 → A2 → A3 → A4 → Prop) (I : A1 → A2 → A3 → A4 → Prop) (μ : A1 → A2 → A3 → A4 → Nat) (hs : ∀ (n : Nat) (a1 : A1) (a2 : A2) (a3 : A3) (a4 : A4), I a1 a2 a3 a4 → (∀ (b1 : A1) (b2 : A2) (b3 : A3) (b4 : A4), I b1 b2 b3 b4 → μ b1 b2 b3 b4 < μ a1 a2 a3 a4 → W n b1 b2 b3 b4) → W (n + 1) a1 a2 a3 a4) (a1 : A1) (a2 : A2) (a3 : A3) (a4 : A4) (h : I a1 a2 a3 a4) : ∃ n, W n a1 a2 a3 a4 :=
  loop_m (σ := A1 × A2 × A3 × A4) (fun n s => W n s.1 s.2.1 s.2.2.1 s.2.2.2) (fun s => I s.1 s.2.1 s.2.2.1 s.2.2.2) (fun s => μ s.1 s.2.1 s.2.2.1 s.2.2.2) (fun n s hI hk => hs n s.1 s.2.1 s.2.2.1 s.2.2.2 hI (fun b1 b2 b3 b4 h9 hm => hk (b1, b2, b3, b4) h9 hm)) (a1, a2, a3, a4) h
theorem lp5 {A1 A2 A3 A4 A5 : Type} (W : Nat → A1 → A2 → A3 → A4 → A5 → Prop) (I : A1 → A2 → A3 → A4 → A5 → Prop) (μ : A1 → A2 → A3 → A4 → A5 → Nat) (hs : ∀ (n : Nat) (a1 : A1) (a2 : A2) (a3 : A3) (a4 : A4) (a5 : A5), I a1 a2 a3 a4 a5 → (∀ (b1 : A1) (b2 : A2) (b3 : A3) (b4 : A4) (b5 : A5), I b1 b2 b3 b4 b5 → μ b1 b2 b3 b4 b5 < μ a1 a2 a3 a4 a5 → W n b1 b2 b3 b4 b5) → W (n + 1) a1 a2 a3 a4 a5) (a1 : A1) (a2 : A2) (a3 : A3) (a4 : A4) (a5 : A5) (h : I a1 a2 a3 a4 a5) : ∃ n, W n a1 a2 a3 a4 a5 :=
  loop_m (σ := A1 × A2 × A3 × A4 × A5) (fun n s => W n s.1 s.2.1 s.2.2.1 s.2.2.2.1 s.2.2.2.2) (fun s => I s.1 s.2.1 s.2.2.1 s.2.2.2.1 s.2.2.2.2) (fun s => μ s.1 s.2.1 s.2.2.1 s.2.2.2.1 s.2.2.2.2) (fun n s hI hk => hs n s.1 s.2.1 s.2.2.1 s.2.2.2.1 s.2.2.2.2 hI (fun b1 b2 b3 b4 b5 h9 hm => hk (b1, b2, b3, b4, b5) h9 hm)) (a1, a2, a3, a4, a5) h
theorem lp6 {A1 A2 A3 A4 A5 A6 : Type} (W : Nat → A1 → A2 → A3 → A4 → A5 → A6 → Prop) (I : A1 → A2 → A3 → A4 → A5 → A6 → Prop) (μ : A1 → A2 → A3 → A4 → A5 → A6 → Nat) (hs : ∀ (n : Nat) (a1 : A1) (a2 : A2) (a3 : A3) (a4 : A4) (a5 : A5) (a6 : A6), I a1 a2 a3 a4 a5 a6 → (∀ (b1 : A1) (b2 : A2) (b3 : A3) (b4 : A4) (b5 : A5) (b6 : A6), I b1 b2 b3 b4 b5 b6 → μ b1 b2 b3 b4 b5 b6 < μ a1 a2 a3 a4 a5 a6 → W n b1 b2 b3 b4 b5 b6) → W (n + 1) a1 a2 a3 a4 a5 a6) (a1 : A1) (a2 : A2) (a3 : A3) (a4 : A4) (a5 : A5) (a6 : A6) (h : I a1 a2 a3 a4 a5 a6) : ∃ n, W n a1 a2 a3 a4 a5 a6 :=
  loop_m (σ := A1 × A2 × A3 × A4 × A5 × A6) (fun n s => W n s.1 s.2.1 s.2.2.1 s.2.2.2.1 s.2.2.2.2.1 s.2.2.2.2.2) (fun s => I s.1 s.2.1 s.2.2.1 s.2.2.2.1 s.2.2.2.2.1 s.2.2.2.2.2) (fun s => μ s.1 s.2.1 s.2.2.1 s.2.2.2.1 s.2.2.2.2.1 s.2.2.2.2.2) (fun n s hI hk => hs n s.1 s.2.1 s.2.2.1 s.2.2.2.1 s.2.2.2.2.1 s.2.2.2.2.2 hI (fun b1 b2 b3 b4 b5 b6 h9 hm => hk (b1, b2, b3, b4, b5, b6) h9 hm)) (a1, a2, a3, a4, a5, a6) h
theorem pk_least (P : Nat → Prop) (h : ∃ k, P k) : ∃ k, P k ∧ ∀ j, j < k → ¬ P j := by
  obtain ⟨k, hk⟩ := h
  induction k using Nat.strongRecOn with
  | ind k ih =>
    by_cases e : ∃ j, j < k ∧ P j
    · obtain ⟨j, hj, pj⟩ := e
      exact ih j hj pj
    · exact ⟨k, hk, fun j hj pj => e ⟨j, hj, pj⟩⟩
def bt (x : Int32) (i : Nat) : Bool := x.toBitVec.getLsbD i
theorem b_ext {x y : Int32} (h : ∀ i, i < 32 → bt x i = bt y i) : x = y := Int32.toBitVec_inj.mp (BitVec.eq_of_getLsbD_eq (fun i hi => h i hi))
theorem b_or (x y : Int32) (i : Nat) : bt (x ||| y) i = (bt x i || bt y i) := by unfold bt; rw [Int32.toBitVec_or, BitVec.getLsbD_or]
theorem b_and (x y : Int32) (i : Nat) : bt (x &&& y) i = (bt x i && bt y i) := by unfold bt; rw [Int32.toBitVec_and, BitVec.getLsbD_and]
theorem b_xor (x y : Int32) (i : Nat) : bt (x ^^^ y) i = (bt x i ^^ bt y i) := by unfold bt; rw [Int32.toBitVec_xor, BitVec.getLsbD_xor]
theorem b_big {x : Int32} {i : Nat} (h : 32 ≤ i) : bt x i = false := BitVec.getLsbD_of_ge _ _ h
theorem b_255 (i : Nat) : bt 255 i = decide (i < 8) := by
  rcases Nat.lt_or_ge i 32 with h | h
  · exact (by decide +kernel : ∀ i, i < 32 → bt 255 i = decide (i < 8)) i h
  · rw [b_big h, decide_eq_false (by omega)]
theorem b_65535 (i : Nat) : bt 65535 i = decide (i < 16) := by
  rcases Nat.lt_or_ge i 32 with h | h
  · exact (by decide +kernel : ∀ i, i < 32 → bt 65535 i = decide (i < 16)) i h
  · rw [b_big h, decide_eq_false (by omega)]
theorem b_m1 : ∀ i, i < 32 → bt (-1) i = true := by decide +kernel
theorem b_0 (i : Nat) : bt 0 i = false := BitVec.getLsbD_zero
theorem s_l : ∀ n, n < 32 → ((nI n &&& 31).toBitVec.smod 32).toNat = n := by decide +kernel
theorem s_u : ∀ n, n < 32 → (((nI n).toUInt32 &&& Int32.toUInt32 31).toBitVec % 32).toNat = n := by decide +kernel
theorem b_shl (n : Nat) (hn : n < 32) (x : Int32) {i : Nat} (hi : i < 32) : bt (x <<< (nI n &&& 31)) i = (decide (n ≤ i) && bt x (i - n)) := by
  unfold bt
  rw [Int32.toBitVec_shiftLeft]
  show (x.toBitVec <<< ((nI n &&& 31).toBitVec.smod 32).toNat).getLsbD i = _
  rw [s_l n hn, BitVec.getLsbD_shiftLeft]
  rcases Nat.lt_or_ge i n with h | h
  · simp [h, Nat.not_le.mpr h]
  · simp [hi, h, Nat.not_lt.mpr h]
theorem b_ushr (n : Nat) (hn : n < 32) (x : Int32) (i : Nat) : bt ((x.toUInt32 >>> ((nI n).toUInt32 &&& Int32.toUInt32 31)).toInt32) i = bt x (n + i) := by
  show (x.toUInt32 >>> ((nI n).toUInt32 &&& Int32.toUInt32 31)).toBitVec.getLsbD i = x.toUInt32.toBitVec.getLsbD (n + i)
  rw [UInt32.toBitVec_shiftRight]
  show (x.toUInt32.toBitVec >>> (((nI n).toUInt32 &&& Int32.toUInt32 31).toBitVec % 32).toNat).getLsbD i = _
  rw [s_u n hn, BitVec.getLsbD_ushiftRight]
theorem b_sshr (n : Nat) (hn : n < 32) (x : Int32) {i : Nat} (hi : i < 32) : bt (x >>> (nI n &&& 31)) i = if n + i < 32 then bt x (n + i) else bt x 31 := by
  unfold bt
  rw [Int32.toBitVec_shiftRight]
  show (x.toBitVec.sshiftRight ((nI n &&& 31).toBitVec.smod 32).toNat).getLsbD i = _
  rw [s_l n hn, BitVec.getLsbD_sshiftRight, BitVec.msb_eq_getLsbD_last]
  simp [hi]
theorem b_shl8 (x : Int32) {i : Nat} (hi : i < 32) : bt (x <<< ((8 : Int32) &&& 31)) i = (decide (8 ≤ i) && bt x (i - 8)) := b_shl 8 (by omega) x hi
theorem b_shl16 (x : Int32) {i : Nat} (hi : i < 32) : bt (x <<< ((16 : Int32) &&& 31)) i = (decide (16 ≤ i) && bt x (i - 16)) := b_shl 16 (by omega) x hi
theorem b_shl24 (x : Int32) {i : Nat} (hi : i < 32) : bt (x <<< ((24 : Int32) &&& 31)) i = (decide (24 ≤ i) && bt x (i - 24)) := b_shl 24 (by omega) x hi
theorem b_sshr8 (x : Int32) {i : Nat} (hi : i < 32) : bt (x >>> ((8 : Int32) &&& 31)) i = if 8 + i < 32 then bt x (8 + i) else bt x 31 := b_sshr 8 (by omega) x hi
theorem nx_and (a b : Nat) : nI a &&& nI b = nI (a &&& b) := by
  apply Int32.toBitVec_inj.1
  show BitVec.ofNat 32 a &&& BitVec.ofNat 32 b = BitVec.ofNat 32 (a &&& b)
  apply BitVec.eq_of_getLsbD_eq
  intro i hi
  simp [hi]
theorem nx_xor (a b : Nat) : nI a ^^^ nI b = nI (a ^^^ b) := by
  apply Int32.toBitVec_inj.1
  show BitVec.ofNat 32 a ^^^ BitVec.ofNat 32 b = BitVec.ofNat 32 (a ^^^ b)
  apply BitVec.eq_of_getLsbD_eq
  intro i hi
  simp [hi]
theorem nx_cnt : ∀ j : Fin 32, (UInt32.ofNat j.val &&& Int32.toUInt32 31).toNat % 32 = j.val := by decide +kernel
theorem nx_ush {k j : Nat} (hk : k < 65536) (hj : j < 32) : ((nI k).toUInt32 >>> ((nI j).toUInt32 &&& Int32.toUInt32 31)).toInt32 = nI (k >>> j) := by
  have hs : k >>> j ≤ k := by
    rw [Nat.shiftRight_eq_div_pow]
    exact Nat.div_le_self _ _
  have e2 : UInt32.ofNat k >>> (UInt32.ofNat j &&& Int32.toUInt32 31) = UInt32.ofNat (k >>> j) := by
    apply UInt32.toNat_inj.1
    have h1 : (UInt32.ofNat k).toNat = k := Nat.mod_eq_of_lt (by omega)
    have h2 : (UInt32.ofNat (k >>> j)).toNat = k >>> j := Nat.mod_eq_of_lt (by omega)
    rw [UInt32.toNat_shiftRight, nx_cnt ⟨j, hj⟩, h1, h2]
  show (UInt32.ofNat k >>> (UInt32.ofNat j &&& Int32.toUInt32 31)).toInt32 = _
  rw [e2]
  rfl
theorem nx_bit {k j : Nat} (hk : k < 65536) (hj : j < 16) : (((nI k).toUInt32 >>> ((nI j).toUInt32 &&& Int32.toUInt32 31)).toInt32 &&& 1) = 0 ↔ k.testBit j = false := by
  rw [nx_ush hk (by omega)]
  show nI (k >>> j) &&& nI 1 = 0 ↔ _
  rw [nx_and, Nat.and_one_is_mod, ← nI_0, nI_eq (by omega) (by omega), Nat.testBit_eq_decide_div_mod_eq, Nat.shiftRight_eq_div_pow, decide_eq_false_iff_not]
  generalize k / 2 ^ j = z
  omega
theorem nx_mod (k : Nat) : nI k &&& 65535 = nI (k % 65536) := by
  show nI k &&& nI 65535 = _
  rw [nx_and, show (65535 : Nat) = 2 ^ 16 - 1 from rfl, Nat.and_two_pow_sub_one_eq_mod]
theorem nx_m16 {k : Nat} (h : k < 65536) : nI k &&& 65535 = nI k := by rw [nx_mod, Nat.mod_eq_of_lt h]
theorem nx_mask (x : Int32) : ∃ k, k < 65536 ∧ x &&& 65535 = nI k := by
  have e : x = nI x.toBitVec.toNat := by
    apply Int32.toBitVec_inj.1
    show x.toBitVec = BitVec.ofNat 32 x.toBitVec.toNat
    simp
  refine ⟨x.toBitVec.toNat % 65536, Nat.mod_lt _ (by omega), ?_⟩
  rw [← nx_mod, ← e]
theorem wb_tb (n : Nat) : (lN n).toBitVec = BitVec.ofNat 64 n := rfl
theorem wb_inj {a b : Int64} (h : a.toBitVec = b.toBitVec) : a = b := Int64.toBitVec_inj.mp h
theorem wb_tn {n : Nat} (h : n < 2 ^ 64) : (lN n).toBitVec.toNat = n := by rw [wb_tb, BitVec.toNat_ofNat, Nat.mod_eq_of_lt h]
theorem wb_of (x : Int64) : ∃ n, n < 2 ^ 64 ∧ x = lN n := ⟨x.toBitVec.toNat, x.toBitVec.isLt, wb_inj (by rw [wb_tb]; simp)⟩
theorem wb_of32 (x : Int32) : ∃ n, n < 2 ^ 32 ∧ x = nI n := ⟨x.toBitVec.toNat, x.toBitVec.isLt, Int32.toBitVec_inj.mp (by show _ = BitVec.ofNat 32 _; simp)⟩
theorem wb_c : ∀ k, k < 64 → ((nI k).toInt64 &&& 63) = lN k := by decide +kernel
theorem wb_cu : ∀ k, k < 64 → ((nI k).toInt64.toUInt64 &&& Int64.toUInt64 63) = UInt64.ofNat k := by decide +kernel
theorem wb_sm : ∀ k, k < 64 → (BitVec.ofNat 64 k).smod 64 = BitVec.ofNat 64 k := by decide +kernel
theorem wb_pw {a b : Nat} (h : a ≤ b) : 2 ^ b = 2 ^ a * 2 ^ (b - a) := by rw [← Nat.pow_add]; congr 1; omega
theorem wb_lt2 {a b : Nat} (h : a < b) : 2 ^ a < 2 ^ b := Nat.pow_lt_pow_right (by decide) h
theorem wb_mod (n : Nat) : lN n = lN (n % 2 ^ 64) := wb_inj (by rw [wb_tb, wb_tb]; apply BitVec.eq_of_toNat_eq; rw [BitVec.toNat_ofNat, BitVec.toNat_ofNat, Nat.mod_mod])
theorem wb_shr {n k : Nat} (hn : n < 2 ^ 64) (hk : k < 64) : ((lN n).toUInt64 >>> ((nI k).toInt64.toUInt64 &&& Int64.toUInt64 63)).toInt64 = lN (n / 2 ^ k) := by
  rw [wb_cu k hk]
  apply wb_inj
  apply BitVec.eq_of_toNat_eq
  show ((lN n).toUInt64 >>> UInt64.ofNat k).toNat = (BitVec.ofNat 64 _).toNat
  have h1 : (UInt64.ofNat k).toNat = k := by
    show (BitVec.ofNat 64 k).toNat = k
    rw [BitVec.toNat_ofNat, Nat.mod_eq_of_lt (by omega)]
  have h2 : (lN n).toUInt64.toNat = n := wb_tn hn
  rw [UInt64.toNat_shiftRight, h1, h2, Nat.mod_eq_of_lt hk, Nat.shiftRight_eq_div_pow, BitVec.toNat_ofNat, Nat.mod_eq_of_lt (Nat.lt_of_le_of_lt (Nat.div_le_self _ _) hn)]
theorem wb_shl (n : Nat) {k : Nat} (hk : k < 64) : lN n <<< ((nI k).toInt64 &&& 63) = lN (n * 2 ^ k) := by
  rw [wb_c k hk]
  apply wb_inj
  rw [Int64.toBitVec_shiftLeft, wb_tb, wb_tb, wb_tb, wb_sm k hk]
  apply BitVec.eq_of_toNat_eq
  rw [BitVec.shiftLeft_eq', BitVec.toNat_shiftLeft, BitVec.toNat_ofNat, BitVec.toNat_ofNat, BitVec.toNat_ofNat, Nat.mod_eq_of_lt (show k < 2 ^ 64 by omega), Nat.shiftLeft_eq, Nat.mul_mod, Nat.mod_mod, ← Nat.mul_mod]
theorem wb_and {a b : Nat} (ha : a < 2 ^ 64) (hb : b < 2 ^ 64) : lN a &&& lN b = lN (a &&& b) := by
  apply wb_inj
  rw [Int64.toBitVec_and, wb_tb, wb_tb, wb_tb]
  apply BitVec.eq_of_toNat_eq
  rw [BitVec.toNat_and, BitVec.toNat_ofNat, BitVec.toNat_ofNat, BitVec.toNat_ofNat, Nat.mod_eq_of_lt ha, Nat.mod_eq_of_lt hb, Nat.mod_eq_of_lt (Nat.and_lt_two_pow _ hb)]
theorem wb_or {a b : Nat} (ha : a < 2 ^ 64) (hb : b < 2 ^ 64) : lN a ||| lN b = lN (a ||| b) := by
  apply wb_inj
  rw [Int64.toBitVec_or, wb_tb, wb_tb, wb_tb]
  apply BitVec.eq_of_toNat_eq
  rw [BitVec.toNat_or, BitVec.toNat_ofNat, BitVec.toNat_ofNat, BitVec.toNat_ofNat, Nat.mod_eq_of_lt ha, Nat.mod_eq_of_lt hb, Nat.mod_eq_of_lt (Nat.or_lt_two_pow ha hb)]
theorem wb_mask {n k : Nat} (hn : n < 2 ^ 64) (hk : k < 64) : lN n &&& lN (2 ^ k - 1) = lN (n % 2 ^ k) := by
  rw [wb_and hn (by have := wb_lt2 hk; omega), Nat.and_two_pow_sub_one_eq_mod]
theorem wb_a1 {n : Nat} (hn : n < 2 ^ 64) : lN n &&& 1 = lN (n % 2) := wb_mask (k := 1) hn (by decide)
theorem wb_bit {n k : Nat} (hn : n < 2 ^ 64) (hk : k < 64) : ((lN n).toUInt64 >>> ((nI k).toInt64.toUInt64 &&& Int64.toUInt64 63)).toInt64 &&& 1 = lN (n / 2 ^ k % 2) := by
  rw [wb_shr hn hk, wb_a1 (Nat.lt_of_le_of_lt (Nat.div_le_self _ _) hn)]
theorem wb_xor {q k : Nat} (hk : k < 63) (h : 2 ^ k ≤ q) (h2 : q < 2 ^ (k + 1)) : lN q ^^^ lN (2 ^ k) = lN (q - 2 ^ k) := by
  obtain ⟨r, rfl⟩ : ∃ r, q = 2 ^ k + r := ⟨q - 2 ^ k, by omega⟩
  have hr : r < 2 ^ k := by rw [Nat.pow_succ] at h2; omega
  have hx : (2 ^ k + r) ^^^ 2 ^ k = r := by
    apply Nat.eq_of_testBit_eq
    intro i
    rw [Nat.testBit_xor, Nat.testBit_two_pow]
    rcases Nat.lt_trichotomy i k with h | h | h
    · rw [Nat.testBit_two_pow_add_gt h]
      simp [show ¬ k = i by omega]
    · subst h
      rw [Nat.testBit_two_pow_add_eq]
      simp
    · have a1 : 2 ^ (k + 1) ≤ 2 ^ i := Nat.pow_le_pow_right (by decide) h
      rw [Nat.testBit_lt_two_pow (show 2 ^ k + r < 2 ^ i by omega), Nat.testBit_lt_two_pow (show r < 2 ^ i by omega)]
      simp [show ¬ k = i by omega]
  have b1 := wb_lt2 (show k + 1 < 64 by omega)
  have b2 := wb_lt2 (show k < 64 by omega)
  apply wb_inj
  rw [Int64.toBitVec_xor, wb_tb, wb_tb, wb_tb]
  apply BitVec.eq_of_toNat_eq
  rw [BitVec.toNat_xor, BitVec.toNat_ofNat, BitVec.toNat_ofNat, BitVec.toNat_ofNat, Nat.mod_eq_of_lt (by omega : 2 ^ k + r < 2 ^ 64), Nat.mod_eq_of_lt b2, hx, Nat.add_sub_cancel_left, Nat.mod_eq_of_lt (by omega)]
theorem u_tn {n : Nat} (h : n < 2 ^ 64) : (UInt64.ofNat n).toNat = n := Nat.mod_eq_of_lt h
theorem g_and {a b c : Nat} (ha : a < 2 ^ 64) (hb : b < 2 ^ 64) (hc : a &&& b = c) : lN a &&& lN b = lN c := by
  subst hc
  have h : UInt64.ofNat a &&& UInt64.ofNat b = UInt64.ofNat (a &&& b) := UInt64.toNat_inj.mp (by rw [UInt64.toNat_and, u_tn ha, u_tn hb, u_tn (Nat.and_lt_two_pow a hb)])
  have h2 := congrArg UInt64.toInt64 h
  exact h2
theorem g_and1 {a : Nat} (ha : a < 2 ^ 64) : lN a &&& 1 = lN (a % 2) := g_and (b := 1) ha (by decide) (Nat.and_two_pow_sub_one_eq_mod a 1)
theorem g_mask {a s p : Nat} (hp : 2 ^ s = p) (hs : s < 64) (ha : a < 2 ^ 64) : lN a &&& lN (p - 1) = lN (a % p) := by
  subst hp
  have := Nat.pow_lt_pow_right (show 1 < 2 by decide) hs
  exact g_and ha (by omega) (Nat.and_two_pow_sub_one_eq_mod a s)
theorem g_or {k p a b : Nat} (hp : 2 ^ k = p) (ha : a < p) (h : b * p + a < 2 ^ 64) : lN (b * p) ||| lN a = lN (b * p + a) := by
  subst hp
  have h1 : b * 2 ^ k ||| a = b * 2 ^ k + a := by rw [← Nat.shiftLeft_eq, Nat.shiftLeft_add_eq_or_of_lt ha]
  have h3 : UInt64.ofNat (b * 2 ^ k) ||| UInt64.ofNat a = UInt64.ofNat (b * 2 ^ k + a) := UInt64.toNat_inj.mp (by rw [UInt64.toNat_or, u_tn (by omega), u_tn (by omega), u_tn h, h1])
  have h2 := congrArg UInt64.toInt64 h3
  exact h2
theorem g_or' {k p a b : Nat} (hp : 2 ^ k = p) (ha : a < p) (h : a + b * p < 2 ^ 64) : lN a ||| lN (b * p) = lN (a + b * p) := by
  rw [Int64.or_comm, g_or hp ha (by omega), Nat.add_comm]
theorem g_ushr {a k p : Nat} {y : UInt64} (hy : y = UInt64.ofNat k) (hk : k < 64) (hp : 2 ^ k = p) (ha : a < 2 ^ 64) : ((lN a).toUInt64 >>> y).toInt64 = lN (a / p) := by
  subst hy hp
  have h : UInt64.ofNat a >>> UInt64.ofNat k = UInt64.ofNat (a / 2 ^ k) := UInt64.toNat_inj.mp (by rw [UInt64.toNat_shiftRight, u_tn ha, u_tn (by omega), u_tn (Nat.lt_of_le_of_lt (Nat.div_le_self _ _) ha), Nat.mod_eq_of_lt hk, Nat.shiftRight_eq_div_pow])
  have h2 := congrArg UInt64.toInt64 h
  exact h2
theorem g_shl {a k p : Nat} {y : Int64} (hy : y.toBitVec.smod 64 = BitVec.ofNat 64 k) (hk : k < 64) (hp : 2 ^ k = p) (ha : a < 2 ^ 64) : lN a <<< y = lN (a * p) := by
  subst hp
  apply Int64.toBitVec_inj.mp
  rw [Int64.toBitVec_shiftLeft, hy]
  apply BitVec.eq_of_toNat_eq
  have hb : (lN a).toBitVec.toNat = a := Nat.mod_eq_of_lt ha
  have hk' : (BitVec.ofNat 64 k).toNat = k := Nat.mod_eq_of_lt (by omega)
  have h : ((lN a).toBitVec <<< BitVec.ofNat 64 k).toNat = (a * 2 ^ k) % 2 ^ 64 := by simp only [BitVec.shiftLeft_eq', BitVec.toNat_shiftLeft, hb, hk', Nat.shiftLeft_eq]
  exact h
theorem pf_lI {a : Nat} (h : a < 2 ^ 63) : (lN a).toInt = (a : Int) := lg_ofNat_toInt h
theorem pf_shr {a d : Nat} {D : Int64} (hD : (D.toBitVec.smod 64).toNat = d) (h : a < 2 ^ 62) : lN a >>> D = lN (a / 2 ^ d) := by
  have hd : a / 2 ^ d ≤ a := Nat.div_le_self _ _
  apply Int64.toInt_inj.mp
  have e : (lN a >>> D).toInt = (lN a).toInt >>> d := by
    rw [← hD]
    exact BitVec.toInt_sshiftRight ..
  rw [e, Int.shiftRight_eq_div_pow, pf_lI (by omega), pf_lI (by omega)]
  rfl
theorem pf_ushr {a d : Nat} {D : UInt64} (hD : D.toNat % 64 = d) (h : a < 2 ^ 62) : ((lN a).toUInt64 >>> D).toInt64 = lN (a / 2 ^ d) := by
  have hd : a / 2 ^ d ≤ a := Nat.div_le_self _ _
  have e : (lN a).toUInt64 >>> D = UInt64.ofNat (a / 2 ^ d) := UInt64.toNat_inj.mp (by
    rw [UInt64.toNat_shiftRight, hD, Nat.shiftRight_eq_div_pow, UInt64.toNat_ofNat']
    show (UInt64.ofNat a).toNat / 2 ^ d = _
    rw [UInt64.toNat_ofNat', Nat.mod_eq_of_lt (by omega), Nat.mod_eq_of_lt (by omega)])
  rw [e]
  rfl
theorem pf_andw (x : Int64) : ∃ m, m < 2 ^ 32 ∧ x &&& 4294967295 = lN m := ⟨x.toBitVec.toNat % 2 ^ 32, Nat.mod_lt _ (by decide), Int64.toBitVec_inj.mp (BitVec.eq_of_toNat_eq (by
  show (x.toBitVec &&& 4294967295#64).toNat = (BitVec.ofNat 64 (x.toBitVec.toNat % 2 ^ 32)).toNat
  rw [BitVec.toNat_and, show (4294967295#64).toNat = 2 ^ 32 - 1 from by decide, Nat.and_two_pow_sub_one_eq_mod, BitVec.toNat_ofNat]
  omega))⟩
end
section
/-! bytes in lists, slices of the WORK, drafts -/
def pd_sl (t : Nat → Nat) (i : Nat) : Nat → List Nat
  | 0 => []
  | c + 1 => pd_sl t i c ++ [t (i + c)]
theorem pd_sl_len (t : Nat → Nat) (i c : Nat) : (pd_sl t i c).length = c := by
  induction c with
  | zero => rfl
  | succ c ih => simp [pd_sl, ih]
def pd_By (L : List Nat) : Prop := ∀ b, b ∈ L → b < 256
theorem pd_By_nil : pd_By [] := by
  intro b h
  cases h
theorem pd_By_app {L M : List Nat} (h : pd_By L) (k : pd_By M) : pd_By (L ++ M) := by
  intro b hb
  rcases List.mem_append.mp hb with z | z
  · exact h b z
  · exact k b z
theorem pd_By_one {b : Nat} (h : b < 256) : pd_By [b] := by
  intro c hc
  rw [List.mem_singleton] at hc
  omega
theorem pd_By_put {L : List Nat} {b : Nat} (h : pd_By L) (k : b < 256) : pd_By (L ++ [b]) := pd_By_app h (pd_By_one k)
theorem pd_sl_By {t : Nat → Nat} (ht : ∀ i, t i < 256) (i c : Nat) : pd_By (pd_sl t i c) := by
  induction c with
  | zero => exact pd_By_nil
  | succ c ih => exact pd_By_put ih (ht _)
theorem pd_By_get {L : List Nat} (h : pd_By L) (i : Nat) : L.getD i 0 < 256 := by
  by_cases z : i < L.length
  · rw [List.getD_eq_getElem?_getD, List.getElem?_eq_getElem z]
    exact h _ (List.getElem_mem z)
  · rw [List.getD_eq_getElem?_getD, List.getElem?_eq_none (by omega)]
    exact (by decide : (0 : Nat) < 256)
theorem pd_get_lo {L M : List Nat} {i : Nat} (h : i < L.length) : (L ++ M).getD i 0 = L.getD i 0 := by
  rw [List.getD_eq_getElem?_getD, List.getElem?_append_left h, ← List.getD_eq_getElem?_getD]
theorem pd_get_at (L : List Nat) (b : Nat) : (L ++ [b]).getD L.length 0 = b := by
  rw [List.getD_eq_getElem?_getD, List.getElem?_concat_length]
  rfl
theorem pd_get_hi (L M : List Nat) (i : Nat) : (L ++ M).getD (L.length + i) 0 = M.getD i 0 := by
  rw [List.getD_eq_getElem?_getD, List.getElem?_append_right (by omega), Nat.add_sub_cancel_left, ← List.getD_eq_getElem?_getD]
theorem pd_sl_get (t : Nat → Nat) (i : Nat) : ∀ c j, j < c → (pd_sl t i c).getD j 0 = t (i + j) := by
  intro c
  induction c with
  | zero => intro j h; exact absurd h (Nat.not_lt_zero _)
  | succ c ih =>
    intro j h
    rcases Nat.lt_or_ge j c with z | z
    · rw [pd_sl, pd_get_lo (by rw [pd_sl_len]; exact z)]
      exact ih j z
    · obtain rfl : j = c := by omega
      have e := pd_get_at (pd_sl t i j) (t (i + j))
      rw [pd_sl_len] at e
      exact e
/-- the draft array a with the count n holds the list L, as far as its cap goes -/
def pd_D (cap : Nat) (a : Nat → Int32) (n : Int32) (L : List Nat) : Prop := n = nI L.length ∧ ∀ i, i < L.length → i < cap → a i = nI (L.getD i 0)
theorem pd_D_nil (cap : Nat) (a : Nat → Int32) : pd_D cap a 0 [] := ⟨rfl, fun _ h => absurd h (Nat.not_lt_zero _)⟩
theorem pd_len1 (L : List Nat) (b : Nat) : (L ++ [b]).length = L.length + 1 := by simp
theorem pd_D_put {cap : Nat} {a : Nat → Int32} {n : Int32} {L : List Nat} (b : Nat) (h : pd_D cap a n L) : pd_D cap (upd a L.length (nI b)) (nI (L.length + 1)) (L ++ [b]) := by
  refine ⟨by rw [pd_len1], fun i hi hc => ?_⟩
  rw [pd_len1] at hi
  rcases Nat.lt_or_ge i L.length with z | z
  · rw [pk_un (by omega), pd_get_lo z]
    exact h.2 i z hc
  · obtain rfl : i = L.length := by omega
    rw [pk_us, pd_get_at]
theorem pd_D_skip {cap : Nat} {a : Nat → Int32} {n : Int32} {L : List Nat} (b : Nat) (h : pd_D cap a n L) (k : cap ≤ L.length) : pd_D cap a (nI (L.length + 1)) (L ++ [b]) := by
  refine ⟨by rw [pd_len1], fun i hi hc => ?_⟩
  rw [pd_get_lo (by omega)]
  exact h.2 i (by omega) hc
theorem pd_D_take {cap : Nat} {a : Nat → Int32} {n : Int32} {L : List Nat} (k : Nat) (h : pd_D cap a n L) (hk : k ≤ L.length) : pd_D cap a (nI k) (L.take k) := by
  have e : (L.take k).length = k := by rw [List.length_take]; omega
  refine ⟨by rw [e], fun i hi hc => ?_⟩
  rw [e] at hi
  rw [List.getD_eq_getElem?_getD, List.getElem?_take_of_lt hi, ← List.getD_eq_getElem?_getD]
  exact h.2 i (by omega) hc
/-- the WORK after the draft L, from place f on, is kept -/
def pd_kp (t : Nat → Nat) (L : List Nat) (f : Nat) : Nat → Nat := fun i => if i < L.length - f then L.getD (i + f) 0 else t i
theorem pd_kp_By {t : Nat → Nat} {L : List Nat} (ht : ∀ i, t i < 256) (hL : pd_By L) (f : Nat) : ∀ i, pd_kp t L f i < 256 := by
  intro i
  unfold pd_kp
  by_cases z : i < L.length - f
  · rw [if_pos z]; exact pd_By_get hL _
  · rw [if_neg z]; exact ht i
/-- the WORK while the draft is being kept: c bytes are done -/
def pd_kc (w : Nat → Int32) (L : List Nat) (f c : Nat) : Nat → Int32 := fun i => if i < c then nI (L.getD (i + f) 0) else w i
theorem pd_kc_0 (w : Nat → Int32) (L : List Nat) (f : Nat) : pd_kc w L f 0 = w := by
  funext i
  exact if_neg (Nat.not_lt_zero _)
theorem pd_kc_s (w : Nat → Int32) (L : List Nat) (f c : Nat) : upd (pd_kc w L f c) c (nI (L.getD (c + f) 0)) = pd_kc w L f (c + 1) := by
  funext i
  unfold pd_kc upd
  dsimp only
  rcases Nat.lt_trichotomy i c with z | z | z
  · rw [if_neg (by omega), if_pos z, if_pos (by omega)]
  · subst z; rw [if_pos rfl, if_pos (by omega)]
  · rw [if_neg (by omega), if_neg (by omega), if_neg (by omega)]
theorem pd_kc_e (t : Nat → Nat) (L : List Nat) (f : Nat) : pd_kc (fun i => nI (t i)) L f (L.length - f) = fun i => nI (pd_kp t L f i) := by
  funext i
  unfold pd_kc pd_kp
  by_cases z : i < L.length - f
  · rw [if_pos z, if_pos z]
  · rw [if_neg z, if_neg z]
theorem pd_updT (t : Nat → Nat) (k b : Nat) : upd (fun i => nI (t i)) k (nI b) = fun i => nI ((fun i => if i = k then b else t i) i) := by
  funext i
  unfold upd
  by_cases z : i = k
  · simp [z]
  · simp [z]
theorem pd_updB {t : Nat → Nat} (ht : ∀ i, t i < 256) {k b : Nat} (hb : b < 256) : ∀ i, (fun i => if i = k then b else t i) i < 256 := by
  intro i
  dsimp only
  by_cases z : i = k
  · rw [if_pos z]; exact hb
  · rw [if_neg z]; exact ht i
end
section
/-! primes by trial, the extended division of Euclid, the search for the other power -/
theorem pd_pr {p : Nat} (h1 : 257 ≤ p) (h2 : p ≤ 46337) : (∃ d, 2 ≤ d ∧ d ≤ 215 ∧ p % d = 0) ↔ (∃ d, 2 ≤ d ∧ d * d ≤ p ∧ p % d = 0) := by
  constructor
  · intro ⟨d, a, b, c⟩
    by_cases z : d * d ≤ p
    · exact ⟨d, a, z, c⟩
    · have e : d * (p / d) = p := by have := Nat.div_add_mod p d; omega
      generalize p / d = q at e
      have q1 : q < d := by
        apply Nat.lt_of_not_le
        intro y
        have := Nat.mul_le_mul_left d y
        omega
      have q2 : 2 ≤ q := by
        apply Nat.le_of_not_lt
        intro y
        have y2 : q = 0 ∨ q = 1 := by omega
        rcases y2 with y2 | y2
        · subst y2; omega
        · subst y2; omega
      refine ⟨q, q2, ?_, ?_⟩
      · have := Nat.mul_le_mul_right q (Nat.le_of_lt q1)
        omega
      · rw [← e]
        exact Nat.mul_mod_left d q
  · intro ⟨d, a, b, c⟩
    refine ⟨d, a, ?_, c⟩
    apply Nat.le_of_not_lt
    intro y
    have := Nat.mul_le_mul (show 216 ≤ d from y) (show 216 ≤ d from y)
    omega
/-- what the division of Euclid keeps: two rests, their factors, and how large these are -/
def pd_EI (e m r0 r1 : Nat) (f0 f1 : Int) : Prop := r1 < r0 ∧ (∃ s : Int, f0 * e = r0 + s * m) ∧ (∃ s : Int, f1 * e = r1 + s * m) ∧ Nat.gcd r0 r1 = Nat.gcd e m ∧ ∃ a0 a1 : Nat, a0 * r1 + a1 * r0 = m ∧ a0 < m ∧ ((f0 = -(a0 : Int) ∧ f1 = a1) ∨ (f0 = a0 ∧ f1 = -(a1 : Int)))
theorem pd_EI_0 {e m : Nat} (h : e < m) : pd_EI e m m e 0 1 := by
  refine ⟨h, ⟨-1, by omega⟩, ⟨0, by omega⟩, Nat.gcd_comm _ _, 0, 1, by omega, by omega, Or.inl ⟨by omega, by omega⟩⟩
theorem pd_EI_s {e m r0 r1 : Nat} {f0 f1 : Int} (h : pd_EI e m r0 r1 f0 f1) (h1 : 0 < r1) : pd_EI e m r1 (r0 % r1) f1 (f0 - (r0 / r1 : Nat) * f1) := by
  obtain ⟨hr, ⟨s0, e0⟩, ⟨s1, e1⟩, hg, a0, a1, ha, hb, hs⟩ := h
  have hd : r1 * (r0 / r1) + r0 % r1 = r0 := Nat.div_add_mod r0 r1
  have hm : r0 % r1 < r1 := Nat.mod_lt _ h1
  have hg2 : Nat.gcd r1 (r0 % r1) = Nat.gcd e m := by
    rw [← hg, Nat.gcd_comm r0 r1, Nat.gcd_rec r1 r0, Nat.gcd_comm]
  generalize r0 / r1 = q at hd
  generalize r0 % r1 = r2 at hd hm hg2
  have hdI : (r1 : Int) * q + r2 = r0 := by
    rw [← hd]
    simp
  refine ⟨hm, ⟨s1, e1⟩, ⟨s0 - q * s1, ?_⟩, hg2, a1, a0 + q * a1, ?_, ?_, ?_⟩
  · rw [Int.sub_mul, Int.mul_assoc, e0, e1, ← hdI]
    grind
  · rw [← ha, ← hd]
    grind
  · have r2' : 2 ≤ r0 := by omega
    have := Nat.mul_le_mul_left a1 r2'
    have : 0 < m := by omega
    omega
  · rcases hs with ⟨x, y⟩ | ⟨x, y⟩
    · right
      refine ⟨y, ?_⟩
      rw [x, y]
      simp
      grind
    · left
      refine ⟨y, ?_⟩
      rw [x, y]
      simp
      grind
theorem pd_half {r0 r1 d : Nat} (h : r1 < r0) (h1 : 0 < r1) (hd : r0 * r1 < 2 ^ (d + 1)) : r1 * (r0 % r1) < 2 ^ d := by
  have a : r0 % r1 < r1 := Nat.mod_lt _ h1
  have b : r1 * (r0 / r1) + r0 % r1 = r0 := Nat.div_add_mod r0 r1
  have c : 1 ≤ r0 / r1 := Nat.div_pos (Nat.le_of_lt h) h1
  have c2 : r1 * 1 ≤ r1 * (r0 / r1) := Nat.mul_le_mul_left r1 c
  have f : 2 * (r0 % r1) ≤ r0 := by omega
  have g : r1 * (2 * (r0 % r1)) ≤ r1 * r0 := Nat.mul_le_mul_left r1 f
  rw [Nat.pow_succ] at hd
  have i : r1 * r0 = r0 * r1 := Nat.mul_comm _ _
  have j : r1 * (2 * (r0 % r1)) = 2 * (r1 * (r0 % r1)) := by
    rw [← Nat.mul_assoc, Nat.mul_comm r1 2, Nat.mul_assoc]
  omega
/-- d is what both sides keep as the second power: 0 if there is none -/
def pd_Inv (e m d : Nat) : Prop := (Nat.gcd e m = 1 ∧ d < m ∧ ∃ j : Nat, d * e = 1 + j * m) ∨ (Nat.gcd e m ≠ 1 ∧ d = 0)
theorem pd_EI_e {e m r0 : Nat} {f0 f1 : Int} (hm : 1 < m) (h : pd_EI e m r0 0 f0 f1) : r0 = Nat.gcd e m ∧ -(m : Int) < f0 ∧ f0 < m ∧ (r0 = 1 → ∃ d : Nat, (d : Int) = (if f0 < 0 then f0 + m else f0) ∧ pd_Inv e m d) := by
  obtain ⟨hr, ⟨s0, e0⟩, _, hg, a0, a1, ha, hb, hs⟩ := h
  rw [Nat.gcd_zero_right] at hg
  refine ⟨hg, by omega, by omega, fun h1 => ?_⟩
  subst h1
  have hf : -(m : Int) < f0 ∧ f0 < m := by omega
  have key : ∀ (f s : Int), 0 ≤ f → f < m → f * e = 1 + s * m → ∃ d : Nat, (d : Int) = f ∧ pd_Inv e m d := by
    intro f s hf0 hfm he
    obtain ⟨d, rfl⟩ := Int.eq_ofNat_of_zero_le hf0
    have hs0 : 0 ≤ s := by
      apply Int.le_of_not_gt
      intro z
      have z1 : s ≤ -1 := by omega
      have z2 := Int.mul_le_mul_of_nonneg_right z1 (show (0 : Int) ≤ m by omega)
      have z3 : (0 : Int) ≤ (d : Int) * e := by
        rw [← Int.natCast_mul]
        exact Int.natCast_nonneg _
      omega
    obtain ⟨j, rfl⟩ := Int.eq_ofNat_of_zero_le hs0
    refine ⟨d, rfl, Or.inl ⟨hg.symm, by omega, j, ?_⟩⟩
    apply Int.ofNat.inj
    show ((d * e : Nat) : Int) = ((1 + j * m : Nat) : Int)
    simpa using he
  by_cases z : f0 < 0
  · rw [if_pos z]
    refine key (f0 + m) (s0 + e) (by omega) (by omega) ?_
    rw [Int.add_mul, e0]
    grind
  · rw [if_neg z]
    exact key f0 s0 (by omega) (by omega) (by simpa using e0)
theorem pd_ys {e m d j : Nat} (he : 2 ≤ e) (hd : d < m) (h : d * e = 1 + j * m) : 1 ≤ j ∧ j < e ∧ (j * m + 1) % e = 0 ∧ (j * m + 1) / e = d ∧ 0 < d ∧ ∀ i, i < e → (i * m + 1) % e = 0 → i = j := by
  have h' : j * m + 1 = d * e := by omega
  have hj : 1 ≤ j := by
    apply Nat.pos_of_ne_zero
    intro z
    subst z
    rw [Nat.zero_mul] at h
    rcases Nat.eq_zero_or_pos d with y | y
    · subst y; omega
    · have := Nat.mul_le_mul y he
      omega
  have hje : j < e := by
    apply Nat.lt_of_not_le
    intro z
    have a := Nat.mul_le_mul_right m z
    have b : d * e ≤ m * e := Nat.mul_le_mul_right e (Nat.le_of_lt hd)
    have c : m * e = e * m := Nat.mul_comm _ _
    omega
  have hd0 : 0 < d := by
    apply Nat.pos_of_ne_zero
    intro z
    subst z
    omega
  refine ⟨hj, hje, by rw [h']; exact Nat.mul_mod_left d e, by rw [h']; exact Nat.mul_div_cancel d (by omega), hd0, ?_⟩
  intro i hi hm
  obtain ⟨c, hc⟩ := Nat.dvd_of_mod_eq_zero hm
  have hI : (d : Int) * e = 1 + j * m := by
    have := congrArg (fun x : Nat => (x : Int)) h
    simpa using this
  have hC : (i : Int) * m + 1 = e * c := by
    have := congrArg (fun x : Nat => (x : Int)) hc
    simpa using this
  have hz : (j : Int) - i = e * (((j : Int) - i) * d - j * (d - c)) := by grind
  generalize ((j : Int) - i) * d - j * (d - c) = z at hz
  have he0 : (0 : Int) ≤ e := by omega
  rcases Int.lt_trichotomy z 0 with y | y | y
  · have := Int.mul_le_mul_of_nonneg_left (show z ≤ -1 by omega) he0
    omega
  · subst y
    omega
  · have := Int.mul_le_mul_of_nonneg_left (show 1 ≤ z by omega) he0
    omega
theorem pd_yn {e m : Nat} (h : Nat.gcd e m ≠ 1) (j : Nat) : (j * m + 1) % e ≠ 0 := by
  intro z
  apply h
  have a := Nat.dvd_of_mod_eq_zero z
  have b : Nat.gcd e m ∣ j * m + 1 := Nat.dvd_trans (Nat.gcd_dvd_left e m) a
  have c : Nat.gcd e m ∣ j * m := Nat.dvd_trans (Nat.gcd_dvd_right e m) (Nat.dvd_mul_left m j)
  exact Nat.dvd_one.mp ((Nat.dvd_add_right c).mp b)
end
section
/-! bytes of words, rounds of the cipher, the groups of the feedback, the steps of the checksum -/
theorem pd_or (a b : Nat) : nI a ||| nI b = nI (a ||| b) := by
  apply Int32.toBitVec_inj.1
  show BitVec.ofNat 32 a ||| BitVec.ofNat 32 b = BitVec.ofNat 32 (a ||| b)
  apply BitVec.eq_of_getLsbD_eq
  intro i hi
  simp [hi]
theorem pd_msk {n : Nat} (h : n < 256) : nI n &&& 255 = nI n := by
  rw [pk_andN (by omega) 8 (by decide), Nat.mod_eq_of_lt (by omega)]
theorem pd_msk2 {n : Nat} (h : n < 2 ^ 31) : nI n &&& 255 = nI (n % 256) := pk_andN (by omega) 8 (by decide)
/-- byte k of the word w, from the left -/
def pd_by (w : Int32) (k : Nat) : Nat := w.toBitVec.toNat / 2 ^ (24 - 8 * k) % 256
theorem pd_by_lt (w : Int32) (k : Nat) : pd_by w k < 256 := Nat.mod_lt _ (by decide)
theorem pd_s24 : ∀ k, k < 4 → (((24 - 8 * nI k : Int32).toUInt32 &&& Int32.toUInt32 31).toBitVec % 32).toNat = 24 - 8 * k := by decide +kernel
theorem pd_byX (w : Int32) {k : Nat} (hk : k < 4) : (w.toUInt32 >>> ((24 - 8 * nI k : Int32).toUInt32 &&& Int32.toUInt32 31)).toInt32 &&& 255 = nI (pd_by w k) := by
  rw [pk_and _ 8 (by decide), pk_ushr _ _ (24 - 8 * k) (pd_s24 k hk)]
  rfl
theorem pd_sgn (w : Int32) {s : Nat} (hs : s ≤ 24) : (w >>> (nI s &&& 31)) &&& 255 = (w.toUInt32 >>> ((nI s).toUInt32 &&& Int32.toUInt32 31)).toInt32 &&& 255 := by
  apply b_ext
  intro i hi
  rw [b_and, b_and, b_255, b_sshr s (by omega) w hi, b_ushr s (by omega) w i]
  by_cases z : i < 8
  · rw [if_pos (by omega)]
  · simp [z]
theorem pd_byS (w : Int32) {k : Nat} (hk : k < 4) : (w >>> (nI (24 - 8 * k) &&& 31)) &&& 255 = nI (pd_by w k) := by
  rw [pd_sgn w (by omega), pk_and _ 8 (by decide), pk_ushr _ _ (24 - 8 * k) (s_u _ (by omega))]
  rfl
theorem pd_by3 (w : Int32) : w &&& 255 = nI (pd_by w 3) := by
  rw [pk_and _ 8 (by decide)]
  unfold pd_by
  rw [show 24 - 8 * 3 = 0 from rfl, Nat.pow_zero, Nat.div_one]
theorem pd_c24 : ∀ k, k < 4 → ((24 - 8 * nI k : Int32) &&& 31) = (nI (24 - 8 * k) &&& 31) := by decide +kernel
theorem pd_u24 : ∀ k, k < 4 → ((24 - 8 * nI k : Int32).toUInt32 &&& Int32.toUInt32 31) = ((nI (24 - 8 * k)).toUInt32 &&& Int32.toUInt32 31) := by decide +kernel
/-! halves of sixteen bits -/
def pd_H (x : Int32) : Prop := ∀ i, 16 ≤ i → bt x i = false
theorem pd_H_and (x : Int32) : pd_H (x &&& 65535) := by
  intro i hi
  rw [b_and, b_65535]
  simp [show ¬ i < 16 by omega]
theorem pd_H_shr (x : Int32) : pd_H (x.toUInt32 >>> ((16 : Int32).toUInt32 &&& Int32.toUInt32 31)).toInt32 := by
  intro i hi
  have e := b_ushr 16 (by omega) x i
  exact e.trans (b_big (by omega))
theorem pd_H_xor {x y : Int32} (hx : pd_H x) (hy : pd_H y) : pd_H (x ^^^ y) := by
  intro i hi
  rw [b_xor, hx i hi, hy i hi]
  rfl
theorem pd_H_3 {x : Int32} (hx : pd_H x) : pd_H (x >>> ((3 : Int32) &&& 31)) := by
  intro i hi
  rcases Nat.lt_or_ge i 32 with z | z
  · have e := b_sshr 3 (by omega) x z
    refine e.trans ?_
    by_cases y : 3 + i < 32
    · rw [if_pos y]; exact hx _ (by omega)
    · rw [if_neg y]; exact hx _ (by omega)
  · exact b_big z
theorem pd_H_id {x : Int32} (hx : pd_H x) : x &&& 65535 = x := by
  apply b_ext
  intro i hi
  rw [b_and, b_65535]
  by_cases z : i < 16
  · simp [z]
  · simp [z, hx i (by omega)]
/-- X's next right half, and Y's, which masks it once more -/
theorem pd_nx {l r : Int32} (s : Int32) (hl : pd_H l) (hr : pd_H r) : (l ^^^ ((s &&& 65535) ^^^ (r >>> ((3 : Int32) &&& 31)))) &&& 65535 = (l ^^^ (s &&& 65535)) ^^^ (r >>> ((3 : Int32) &&& 31)) := by
  rw [pd_H_id (pd_H_xor hl (pd_H_xor (pd_H_and s) (pd_H_3 hr)))]
  exact (Int32.xor_assoc _ _ _).symm
/-! four bytes make a word -/
theorem pd_grp (o c0 c1 c2 c3 : Int32) : ((((((o <<< ((8 : Int32) &&& 31)) ||| c0) <<< ((8 : Int32) &&& 31)) ||| c1) <<< ((8 : Int32) &&& 31) ||| c2) <<< ((8 : Int32) &&& 31)) ||| c3 = (((0 ||| c0 <<< (nI 24 &&& 31)) ||| c1 <<< (nI 16 &&& 31)) ||| c2 <<< (nI 8 &&& 31)) ||| c3 <<< (nI 0 &&& 31) := by
  apply b_ext
  intro i hi
  have h1 : i - 8 < 32 := by omega
  have h2 : i - 8 - 8 < 32 := by omega
  have h3 : i - 8 - 8 - 8 < 32 := by omega
  rw [b_or, b_or, b_or, b_or, b_or, b_0, b_shl 24 (by omega) c0 hi, b_shl 16 (by omega) c1 hi, b_shl 8 (by omega) c2 hi, b_shl 0 (by omega) c3 hi, b_shl8 _ hi, b_or, b_shl8 _ h1, b_or, b_shl8 _ h2, b_or, b_shl8 _ h3]
  rcases Nat.lt_or_ge i 8 with z | z
  · simp [show ¬ 8 ≤ i by omega, show ¬ 16 ≤ i by omega, show ¬ 24 ≤ i by omega]
  · rcases Nat.lt_or_ge i 16 with z2 | z2
    · simp [z, show ¬ 16 ≤ i by omega, show ¬ 24 ≤ i by omega, show ¬ 8 ≤ i - 8 by omega]
    · rcases Nat.lt_or_ge i 24 with z3 | z3
      · simp [z, z2, show ¬ 24 ≤ i by omega, show 8 ≤ i - 8 by omega, show i - 8 - 8 = i - 16 by omega, show ¬ 8 ≤ i - 16 by omega]
      · simp [z, z2, z3, show 8 ≤ i - 8 by omega, show i - 8 - 8 = i - 16 by omega, show 8 ≤ i - 16 by omega, show i - 16 - 8 = i - 24 by omega, show ¬ 8 ≤ i - 24 by omega]
/-! the checksum: X's step on the whole word, Y's on 24 bits with the byte's bit -/
def pd_xs (c : Int32) : Int32 := if (c <<< ((1 : Int32) &&& 31)) &&& 16777216 = 0 then c <<< ((1 : Int32) &&& 31) else (c <<< ((1 : Int32) &&& 31)) ^^^ 25578747
def pd_yt (c b : Int32) (k : Nat) : Int32 := ((c >>> ((23 : Int32) &&& 31)) ^^^ (b >>> (nI k &&& 31))) &&& 1
def pd_yc (c b : Int32) (k : Nat) : Int32 := if pd_yt c b k = 0 then (c <<< ((1 : Int32) &&& 31)) &&& 16777215 else ((c <<< ((1 : Int32) &&& 31)) &&& 16777215) ^^^ 8801531
theorem pd_t24 (i : Nat) : bt 16777216 i = decide (i = 24) := by
  rcases Nat.lt_or_ge i 32 with h | h
  · exact (by decide +kernel : ∀ i, i < 32 → bt 16777216 i = decide (i = 24)) i h
  · rw [b_big h, decide_eq_false (by omega)]
theorem pd_m24 (i : Nat) : bt 16777215 i = decide (i < 24) := by
  rcases Nat.lt_or_ge i 32 with h | h
  · exact (by decide +kernel : ∀ i, i < 32 → bt 16777215 i = decide (i < 24)) i h
  · rw [b_big h, decide_eq_false (by omega)]
theorem pd_t1 (i : Nat) : bt 1 i = decide (i = 0) := by
  rcases Nat.lt_or_ge i 32 with h | h
  · exact (by decide +kernel : ∀ i, i < 32 → bt 1 i = decide (i = 0)) i h
  · rw [b_big h, decide_eq_false (by omega)]
theorem pd_cst : ∀ i, i < 32 → bt 25578747 i = (bt 8801531 i ^^ decide (i = 24)) := by decide +kernel
theorem pd_cst2 : ∀ i, i < 32 → 24 ≤ i → bt 8801531 i = false := by decide +kernel
theorem pd_sh1 (x : Int32) {i : Nat} (hi : i < 32) : bt (x <<< ((1 : Int32) &&& 31)) i = (decide (1 ≤ i) && bt x (i - 1)) := b_shl 1 (by omega) x hi
theorem pd_xb (x : Int32) : (x <<< ((1 : Int32) &&& 31)) &&& 16777216 = 0 ↔ bt x 23 = false := by
  constructor
  · intro h
    have e := congrArg (fun z => bt z 24) h
    rw [b_and, pd_t24, b_0, pd_sh1 x (by omega)] at e
    simpa using e
  · intro h
    apply b_ext
    intro i hi
    rw [b_and, pd_t24, b_0, pd_sh1 x hi]
    by_cases z : i = 24
    · subst z; simp [h]
    · simp [z]
theorem pd_yb (c b : Int32) {k : Nat} (hk : k < 32) : pd_yt c b k = 0 ↔ (bt c 23 ^^ bt b k) = false := by
  have e0 : bt (pd_yt c b k) 0 = (bt c 23 ^^ bt b k) := by
    unfold pd_yt
    have e1 : bt (c >>> ((23 : Int32) &&& 31)) 0 = bt c 23 := (b_sshr 23 (by omega) c (i := 0) (by omega)).trans (if_pos (by omega))
    have e2 : bt (b >>> (nI k &&& 31)) 0 = bt b k := (b_sshr k hk b (i := 0) (by omega)).trans (if_pos (by omega))
    rw [b_and, b_xor, pd_t1, e1, e2]
    simp
  constructor
  · intro h
    rw [← e0, h]
    exact b_0 0
  · intro h
    apply b_ext
    intro i hi
    rw [b_0]
    rcases Nat.eq_zero_or_pos i with z | z
    · subst z; rw [e0, h]
    · unfold pd_yt
      rw [b_and, pd_t1]
      simp [show ¬ i = 0 by omega]
/-- after j bits: X holds Y's number and what is left of the byte -/
def pd_CI (j : Nat) (b x y : Int32) : Prop := ∀ i, i < 32 → bt x i = (bt y i ^^ (decide (16 + j ≤ i) && (decide (i < 24) && bt b (i - 16 - j)))) ∧ (24 ≤ i → bt y i = false)
theorem pd_CI_0 {b y : Int32} (hb : ∀ i, 8 ≤ i → bt b i = false) (hy : ∀ i, 24 ≤ i → bt y i = false) : pd_CI 0 b (y ^^^ (b <<< ((16 : Int32) &&& 31))) y := by
  intro i hi
  refine ⟨?_, fun h => hy i h⟩
  rw [b_xor, b_shl16 b hi, Nat.add_zero, Nat.sub_zero]
  rcases Nat.lt_or_ge i 24 with z | z
  · simp [z]
  · rw [hb (i - 16) (by omega)]
    simp
theorem pd_CI_s {j : Nat} {b x y : Int32} (hj : j < 8) (h : pd_CI j b x y) : pd_CI (j + 1) b (pd_xs x) (pd_yc y b (7 - j)) := by
  have hx : bt x 23 = (bt y 23 ^^ bt b (7 - j)) := by
    rw [(h 23 (by omega)).1, decide_eq_true (show 16 + j ≤ 23 by omega), decide_eq_true (show 23 < 24 by omega), show 23 - 16 - j = 7 - j by omega]
    rfl
  have sh : ∀ i, i < 32 → bt (x <<< ((1 : Int32) &&& 31)) i = (bt ((y <<< ((1 : Int32) &&& 31)) &&& 16777215) i ^^ ((decide (16 + (j + 1) ≤ i) && (decide (i < 24) && bt b (i - 16 - (j + 1)))) ^^ (decide (i = 24) && bt x 23))) := by
    intro i hi
    rw [b_and, pd_m24, pd_sh1 x hi, pd_sh1 y hi]
    rcases Nat.eq_zero_or_pos i with z | z
    · subst z; simp
    · have q := h (i - 1) (by omega)
      rcases Nat.lt_trichotomy i 24 with w | w | w
      · rw [q.1, decide_eq_true (show 1 ≤ i by omega), decide_eq_true w, decide_eq_true (show i - 1 < 24 by omega), decide_eq_false (show ¬ i = 24 by omega), show i - 1 - 16 - j = i - 16 - (j + 1) by omega]
        by_cases v : 16 + (j + 1) ≤ i
        · rw [decide_eq_true v, decide_eq_true (show 16 + j ≤ i - 1 by omega)]
          simp
        · rw [decide_eq_false v, decide_eq_false (show ¬ 16 + j ≤ i - 1 by omega)]
          simp
      · subst w
        simp
      · rw [q.1, q.2 (by omega), decide_eq_false (show ¬ i - 1 < 24 by omega), decide_eq_false (show ¬ i < 24 by omega), decide_eq_false (show ¬ i = 24 by omega)]
        simp
  have hi24 : ∀ i, i < 32 → 24 ≤ i → bt ((y <<< ((1 : Int32) &&& 31)) &&& 16777215) i = false := by
    intro i hi z
    rw [b_and, pd_m24, decide_eq_false (show ¬ i < 24 by omega), Bool.and_false]
  unfold pd_xs pd_yc
  by_cases z : bt x 23 = false
  · rw [if_pos ((pd_xb x).mpr z), if_pos ((pd_yb y b (by omega)).mpr (by rw [← hx]; exact z))]
    intro i hi
    refine ⟨?_, hi24 i hi⟩
    rw [sh i hi, z]
    simp
  · have z' : bt x 23 = true := by simpa using z
    rw [if_neg (fun q => z ((pd_xb x).mp q)), if_neg (fun q => z (hx.trans ((pd_yb y b (by omega)).mp q)))]
    intro i hi
    refine ⟨?_, fun q => by rw [b_xor, hi24 i hi q, pd_cst2 i hi q]; rfl⟩
    rw [b_xor, b_xor, sh i hi, z', pd_cst i hi]
    cases bt ((y <<< ((1 : Int32) &&& 31)) &&& 16777215) i <;> cases bt 8801531 i <;> cases decide (i = 24) <;> cases (decide (16 + (j + 1) ≤ i) && (decide (i < 24) && bt b (i - 16 - (j + 1)))) <;> rfl
theorem pd_CI_e {b x y : Int32} (h : pd_CI 8 b x y) : x = y ∧ ∀ i, 24 ≤ i → bt y i = false := by
  constructor
  · apply b_ext
    intro i hi
    rw [(h i hi).1]
    by_cases z : i < 24
    · simp [show ¬ 16 + 8 ≤ i by omega]
    · simp [z]
  · intro i hi
    rcases Nat.lt_or_ge i 32 with z | z
    · exact (h i z).2 hi
    · exact b_big z
theorem pd_b8 {n : Nat} (h : n < 256) : ∀ i, 8 ≤ i → bt (nI n) i = false := by
  intro i hi
  have e : nI n = nI n &&& 255 := (pd_msk h).symm
  rw [e, b_and, b_255, decide_eq_false (show ¬ i < 8 by omega), Bool.and_false]
theorem pd_n24 {x : Int32} (h : ∀ i, 24 ≤ i → bt x i = false) : ∃ n, n < 16777216 ∧ x = nI n := by
  have e : x = x &&& 16777215 := by
    apply b_ext
    intro i hi
    rw [b_and, pd_m24]
    by_cases z : i < 24
    · simp [z]
    · simp [z, h i (by omega)]
  obtain ⟨n, hn, en⟩ := pk_andE x (m := 16777215) 24 (by decide)
  exact ⟨n, hn, e.trans en⟩
/-- eight steps of X, and of Y from bit k on -/
def pd_x8 : Nat → Int32 → Int32
  | 0, c => c
  | n + 1, c => pd_x8 n (pd_xs c)
def pd_y8 (b : Int32) : Nat → Int32 → Int32
  | 0, c => c
  | n + 1, c => pd_y8 b n (pd_yc c b n)
theorem pd_x8y8 {b : Int32} : ∀ (d j : Nat) (x y : Int32), j + d = 8 → pd_CI j b x y → pd_CI 8 b (pd_x8 d x) (pd_y8 b d y) := by
  intro d
  induction d with
  | zero =>
    intro j x y h c
    obtain rfl : j = 8 := by omega
    exact c
  | succ d ih =>
    intro j x y h c
    have q := pd_CI_s (by omega) c
    rw [show 7 - j = d by omega] at q
    exact ih (j + 1) _ _ (by omega) q
/-- one byte more in the checksum -/
def pd_cb (c : Int32) (b : Nat) : Int32 := pd_x8 8 (c ^^^ (nI b <<< ((16 : Int32) &&& 31)))
theorem pd_cbY {c : Int32} {b : Nat} (hb : b < 256) (hc : ∀ i, 24 ≤ i → bt c i = false) : pd_y8 (nI b) 8 c = pd_cb c b ∧ ∀ i, 24 ≤ i → bt (pd_cb c b) i = false := by
  have q := pd_CI_e (pd_x8y8 8 0 _ _ rfl (pd_CI_0 (pd_b8 hb) hc))
  exact ⟨q.1.symm, by intro i hi; unfold pd_cb; rw [q.1]; exact q.2 i hi⟩
def pd_cr (f : Nat → Nat) : Nat → Int32
  | 0 => 11994318
  | n + 1 => pd_cb (pd_cr f n) (f n)
theorem pd_cr0 : ∀ i, 24 ≤ i → bt 11994318 i = false := by
  intro i hi
  rcases Nat.lt_or_ge i 32 with z | z
  · exact (by decide +kernel : ∀ i, i < 32 → 24 ≤ i → bt 11994318 i = false) i z hi
  · exact b_big z
theorem pd_cr24 {f : Nat → Nat} {n : Nat} (hf : ∀ i, i < n → f i < 256) : ∀ i, 24 ≤ i → bt (pd_cr f n) i = false := by
  induction n with
  | zero => exact pd_cr0
  | succ n ih => exact (pd_cbY (hf n (by omega)) (ih (fun i hi => hf i (by omega)))).2
/-! six bits more -/
theorem pd_6 {x v : Nat} (hx : x < 2 ^ 24) (hv : v < 64) : (nI x <<< ((6 : Int32) &&& 31)) ||| nI v = nI (x * 64 + v) := by
  rw [pk_shlN _ 6 (by decide) (by omega), pd_or]
  have := Nat.two_pow_add_eq_or_of_lt (i := 6) (b := v) (by omega) x
  rw [show x * 2 ^ 6 = 2 ^ 6 * x from Nat.mul_comm _ _, ← this]
/-! an int taken as unsigned -/
theorem pd_ti {n : Nat} (hn : n < 2 ^ 32) : (nI n).toInt = if 2 * n < 2 ^ 32 then (n : Int) else (n : Int) - 2 ^ 32 := by
  show (nI n).toBitVec.toInt = _
  rw [BitVec.toInt_eq_toNat_cond, pk_tn hn]
  by_cases z : 2 * n < 2 ^ 32
  · rw [if_pos z, if_pos z]
  · rw [if_neg z, if_neg z]
    omega
theorem pd_t64 (h : Int32) : h.toInt64 = Int64.ofInt h.toInt := by
  rw [← Int32.toInt_toInt64, Int64.ofInt_toInt]
theorem pd_neg64 {n : Nat} (hn : n < 2 ^ 32) (z : ¬ n < 2 ^ 31) : (nI n).toInt64 = lN (n + (2 ^ 64 - 2 ^ 32)) := by
  rw [pd_t64, pd_ti hn, if_neg (by omega)]
  apply wb_inj
  show BitVec.ofInt 64 _ = BitVec.ofNat 64 _
  apply BitVec.eq_of_toNat_eq
  rw [BitVec.toNat_ofInt, BitVec.toNat_ofNat]
  omega
theorem pd_lt64 (h : Int32) : h.toInt64 < 0 ↔ h.toInt < 0 := by
  rw [Int64.lt_iff_toInt_lt, Int32.toInt_toInt64]
  exact Iff.rfl
theorem pd_uns (h : Int32) : ∃ m, m < 2 ^ 32 ∧ h.toInt64 &&& 4294967295 = lN m ∧ (h.toInt64 < 0 → h.toInt64 + 4294967296 = lN m) ∧ (¬ h.toInt64 < 0 → h.toInt64 = lN m) := by
  obtain ⟨n, hn, rfl⟩ := wb_of32 h
  have hM : (4294967295 : Int64) = lN (2 ^ 32 - 1) := by decide +kernel
  have hA : (4294967296 : Int64) = lN (2 ^ 32) := by decide +kernel
  have hi := pd_ti hn
  refine ⟨n, hn, ?_, ?_, ?_⟩
  · by_cases z : n < 2 ^ 31
    · rw [nI_l z, hM, wb_mask (by omega) (by omega), Nat.mod_eq_of_lt hn]
    · rw [pd_neg64 hn z, hM, wb_mask (by omega) (by omega), show (n + (2 ^ 64 - 2 ^ 32)) % 2 ^ 32 = n by omega]
  · intro y
    rw [pd_lt64, hi] at y
    have z : ¬ n < 2 ^ 31 := by
      intro z
      rw [if_pos (by omega)] at y
      omega
    rw [pd_neg64 hn z, hA, lN_add, wb_mod, show (n + (2 ^ 64 - 2 ^ 32) + 2 ^ 32) % 2 ^ 64 = n by omega]
  · intro y
    rw [pd_lt64, hi] at y
    have z : n < 2 ^ 31 := by
      apply Nat.lt_of_not_le
      intro z
      rw [if_neg (by omega)] at y
      omega
    exact nI_l z
end
section
/-! the cipher as one function of the word and the key; the feedback byte by byte -/
def pd_tr (key : Int32) (i : Nat) : Int32 := (key <<< ((7 * nI i) &&& 31)) ||| (key.toUInt32 >>> ((32 - 7 * nI i : Int32).toUInt32 &&& Int32.toUInt32 31)).toInt32
def pd_rk (key : Int32) (i : Nat) : Int32 := (pd_tr key i &&& 65535) ^^^ (nI i * 9029)
def pd_sm (key : Int32) (i : Nat) (r : Int32) : Int32 := (r * 40503 + pd_rk key i) &&& 65535
def pd_tu (s : Int32) : Int32 := ((s <<< ((5 : Int32) &&& 31)) ||| (s >>> ((11 : Int32) &&& 31))) &&& 65535
def pd_rn (key : Int32) (i : Nat) (l r : Int32) : Int32 := (l ^^^ pd_tu (pd_sm key i r)) ^^^ (r >>> ((3 : Int32) &&& 31))
def pd_cp (key w : Int32) : Nat → Int32 × Int32
  | 0 => ((w.toUInt32 >>> ((16 : Int32).toUInt32 &&& Int32.toUInt32 31)).toInt32, w &&& 65535)
  | i + 1 => ((pd_cp key w i).2, pd_rn key i (pd_cp key w i).1 (pd_cp key w i).2)
theorem pd_cp_H (key w : Int32) : ∀ i, pd_H (pd_cp key w i).1 ∧ pd_H (pd_cp key w i).2 := by
  intro i
  induction i with
  | zero => exact ⟨pd_H_shr w, pd_H_and w⟩
  | succ i ih => exact ⟨ih.2, pd_H_xor (pd_H_xor ih.1 (pd_H_and _)) (pd_H_3 ih.2)⟩
theorem pd_rnY (key w : Int32) (i : Nat) : ((pd_cp key w i).1 ^^^ (pd_tu (pd_sm key i (pd_cp key w i).2) ^^^ ((pd_cp key w i).2 >>> ((3 : Int32) &&& 31)))) &&& 65535 = (pd_cp key w (i + 1)).2 := pd_nx _ (pd_cp_H key w i).1 (pd_cp_H key w i).2
def pd_cip (w key : Int32) : Int32 := ((pd_cp key w 6).2 <<< ((16 : Int32) &&& 31)) ||| (pd_cp key w 6).1
theorem pd_tr0 (key : Int32) : pd_tr key 0 = key := by
  unfold pd_tr
  rw [show ((7 * nI 0 : Int32) &&& 31) = (nI 0 &&& 31) from by decide, show ((32 - 7 * nI 0 : Int32).toUInt32 &&& Int32.toUInt32 31) = ((nI 0).toUInt32 &&& Int32.toUInt32 31) from by decide]
  apply b_ext
  intro i hi
  rw [b_or, b_shl 0 (by omega) key hi, b_ushr 0 (by omega) key i]
  simp
theorem pd_by7 : ∀ i, i < 6 → ((7 * nI i : Int32) - (7 * nI i) / 32 * 32 = 0 ↔ i = 0) := by decide +kernel
theorem pd_tr1 : ∀ i, i < 6 → ((7 * nI i : Int32) &&& 31) = (((7 * nI i : Int32) - (7 * nI i) / 32 * 32) &&& 31) := by decide +kernel
theorem pd_tr2 : ∀ i, i < 6 → ((32 - 7 * nI i : Int32).toUInt32 &&& Int32.toUInt32 31) = ((32 - ((7 * nI i : Int32) - (7 * nI i) / 32 * 32)).toUInt32 &&& Int32.toUInt32 31) := by decide +kernel
/-- before and mask as byte i is met -/
def pd_st (key : Int32) (u : Bool) (f : Nat → Nat) : Nat → Int32 × Int32
  | 0 => (0, 0)
  | i + 1 => (((pd_st key u f i).1 <<< ((8 : Int32) &&& 31)) ||| nI (if u then f i else f i ^^^ pd_by (if i % 4 = 0 then pd_cip (pd_st key u f i).1 key else (pd_st key u f i).2) (i % 4)), if i % 4 = 0 then pd_cip (pd_st key u f i).1 key else (pd_st key u f i).2)
def pd_mk (key : Int32) (u : Bool) (f : Nat → Nat) (i : Nat) : Int32 := if i % 4 = 0 then pd_cip (pd_st key u f i).1 key else (pd_st key u f i).2
/-- byte i as the feedback leaves it -/
def pd_ot (key : Int32) (u : Bool) (f : Nat → Nat) (i : Nat) : Nat := f i ^^^ pd_by (pd_mk key u f i) (i % 4)
/-- the byte that goes into the next word -/
def pd_nb (key : Int32) (u : Bool) (f : Nat → Nat) (i : Nat) : Nat := if u then f i else pd_ot key u f i
theorem pd_st_s (key : Int32) (u : Bool) (f : Nat → Nat) (i : Nat) : pd_st key u f (i + 1) = (((pd_st key u f i).1 <<< ((8 : Int32) &&& 31)) ||| nI (pd_nb key u f i), pd_mk key u f i) := rfl
theorem pd_ot_lt {key : Int32} {u : Bool} {f : Nat → Nat} {i : Nat} (h : f i < 256) : pd_ot key u f i < 256 := Nat.xor_lt_two_pow (n := 8) h (pd_by_lt _ _)
theorem pd_mk4 (key : Int32) (u : Bool) (f : Nat → Nat) {j : Nat} (hj : j % 4 = 0) : ∀ k, k < 4 → pd_mk key u f (j + k) = pd_cip (pd_st key u f j).1 key := by
  intro k
  induction k with
  | zero => intro _; exact if_pos hj
  | succ k ih =>
    intro h
    rw [← ih (by omega)]
    have z : ¬ (j + (k + 1)) % 4 = 0 := by omega
    unfold pd_mk
    rw [if_neg z]
    rfl
theorem pd_st4 (key : Int32) (u : Bool) (f : Nat → Nat) (j : Nat) : (pd_st key u f (j + 4)).1 = (((0 ||| nI (pd_nb key u f j) <<< (nI 24 &&& 31)) ||| nI (pd_nb key u f (j + 1)) <<< (nI 16 &&& 31)) ||| nI (pd_nb key u f (j + 2)) <<< (nI 8 &&& 31)) ||| nI (pd_nb key u f (j + 3)) <<< (nI 0 &&& 31) := by
  rw [← pd_grp (pd_st key u f j).1]
  rfl
/-- an array whose first c places hold g -/
def pd_mx (g : Nat → Nat) (w : Nat → Int32) (c : Nat) : Nat → Int32 := fun i => if i < c then nI (g i) else w i
theorem pd_mx_0 (g : Nat → Nat) (w : Nat → Int32) : pd_mx g w 0 = w := by
  funext i
  exact if_neg (Nat.not_lt_zero _)
theorem pd_mx_s (g : Nat → Nat) (w : Nat → Int32) (c : Nat) : upd (pd_mx g w c) c (nI (g c)) = pd_mx g w (c + 1) := by
  funext i
  unfold pd_mx upd
  dsimp only
  rcases Nat.lt_trichotomy i c with z | z | z
  · rw [if_neg (by omega), if_pos z, if_pos (by omega)]
  · subst z; rw [if_pos rfl, if_pos (by omega)]
  · rw [if_neg (by omega), if_neg (by omega), if_neg (by omega)]
theorem pd_mx_hi (g : Nat → Nat) (w : Nat → Int32) {c i : Nat} (h : c ≤ i) : pd_mx g w c i = w i := if_neg (by omega)
theorem pd_mx_lo (g : Nat → Nat) (w : Nat → Int32) {c i : Nat} (h : i < c) : pd_mx g w c i = nI (g i) := if_pos h
/-- the draft after the feedback -/
def pd_FL (key : Int32) (u : Bool) (L : List Nat) : List Nat := pd_sl (pd_ot key u (fun i => L.getD i 0)) 0 L.length
theorem pd_FL_len (key : Int32) (u : Bool) (L : List Nat) : (pd_FL key u L).length = L.length := pd_sl_len _ _ _
theorem pd_FL_By {key : Int32} {u : Bool} {L : List Nat} (h : pd_By L) : pd_By (pd_FL key u L) := pd_sl_By (t := pd_ot key u (fun i => L.getD i 0)) (fun i => pd_ot_lt (f := fun i => L.getD i 0) (pd_By_get h i)) _ _
theorem pd_FL_D {cap : Nat} {key : Int32} {u : Bool} {a : Nat → Int32} {n : Int32} {L : List Nat} (h : pd_D cap a n L) (hc : L.length ≤ cap) : pd_D cap (pd_mx (pd_ot key u (fun i => L.getD i 0)) a L.length) n (pd_FL key u L) := by
  refine ⟨by rw [pd_FL_len]; exact h.1, fun i hi _ => ?_⟩
  rw [pd_FL_len] at hi
  unfold pd_FL
  rw [pd_mx_lo _ _ hi, pd_sl_get _ _ _ _ hi, Nat.zero_add]
/-! letters -/
def pd_let (v : Nat) : Nat := if v < 26 then 65 + v else if v < 52 then 71 + v else if v < 62 then v - 4 else if v = 62 then 43 else 47
def pd_num (c : Nat) : Nat := if 65 ≤ c ∧ c ≤ 90 then c - 65 else if 97 ≤ c ∧ c ≤ 122 then c - 71 else if 48 ≤ c ∧ c ≤ 57 then c + 4 else if c = 43 then 62 else if c = 47 then 63 else 64
theorem pd_let_lt (v : Nat) (h : v < 64) : pd_let v < 256 := by
  unfold pd_let
  repeat' split
  all_goals omega
theorem pd_num_let : ∀ v, v < 64 → pd_num (pd_let v) = v := by decide +kernel
theorem pd_let_num : ∀ c, c < 256 → pd_num c < 64 → pd_let (pd_num c) = c := by decide +kernel
def pd_nr (c : Nat) : Int32 := if pd_num c < 64 then nI (pd_num c) else -1
/-! hashes -/
def pd_hs (t : Nat → Nat) : Nat → Int32
  | 0 => -2128831035
  | n + 1 => (pd_hs t n ^^^ nI (t n)) * 16777619
def pd_he (h : Int32) : Int32 := ((h ^^^ (h.toUInt32 >>> ((15 : Int32).toUInt32 &&& Int32.toUInt32 31)).toInt32) * 739982445) ^^^ ((((h ^^^ (h.toUInt32 >>> ((15 : Int32).toUInt32 &&& Int32.toUInt32 31)).toInt32) * 739982445).toUInt32 >>> ((12 : Int32).toUInt32 &&& Int32.toUInt32 31)).toInt32)
/-- byte k of the row salt, WORK -/
def pd_sb (salt : Int32) (t : Nat → Nat) (k : Nat) : Nat := if k < 4 then pd_by salt k else t (k - 4)
def pd_sh (salt : Int32) (t : Nat → Nat) (len : Nat) : Nat → Int32
  | 0 => -2128831035
  | n + 1 => (pd_sh salt t len n ^^^ nI (pd_sb salt t (n % (len + 4)))) * 16777619
end
section
/-! the relation, and how two walks with one outcome are joined -/
/-- the keys: none, or three numbers below 2^31 -/
def pd_K (M O P : Nat → Int64) : Prop := ∀ k, k < 3 → M k = 0 ∨ ∃ m e d : Nat, M k = lN m ∧ O k = lN e ∧ P k = lN d ∧ 0 < m ∧ m < 2 ^ 31 ∧ e < 2 ^ 31 ∧ d < 2 ^ 31
def i_Rel (_ : Nat) (u : SX) (v : SY) : Prop := ∃ (t : Nat → Nat) (len : Nat) (M O P : Nat → Int64) (a : Nat → Int32) (n : Int32) (b : Nat → Int32) (c : Int32), (∀ i, t i < 256) ∧ len ≤ 120 ∧ pd_K M O P ∧ u = (nI len, n, (fun i => nI (t i)), a, M, O, P) ∧ v = (nI len, c, (fun i => nI (t i)), b, M, O, P)
theorem i_up {k : Nat} {u : SX} {v : SY} (h : i_Rel k u v) : i_Rel (k + 5) u v := h
theorem pd_R (k : Nat) {t : Nat → Nat} {len : Nat} {M O P : Nat → Int64} (ht : ∀ i, t i < 256) (hl : len ≤ 120) (hK : pd_K M O P) (a : Nat → Int32) (n : Int32) (b : Nat → Int32) (c : Int32) : i_Rel k (nI len, n, (fun i => nI (t i)), a, M, O, P) (nI len, c, (fun i => nI (t i)), b, M, O, P) := ⟨t, len, M, O, P, a, n, b, c, ht, hl, hK, rfl, rfl⟩
/-- X ends with answer r and the draft L kept from f on, or is full -/
def pd_XK (post : Int32 → SX → Prop) (r : Int32) (t : Nat → Nat) (len : Nat) (M O P : Nat → Int64) (L : List Nat) (f : Nat) : Prop := ∀ (a : Nat → Int32) (n : Int32), (120 < L.length → post (-2) (nI len, n, (fun i => nI (t i)), a, M, O, P)) ∧ (L.length ≤ 120 → post r (nI (L.length - f), n, (fun i => nI (pd_kp t L f i)), a, M, O, P))
def pd_YK (post : Int32 → SY → Prop) (r : Int32) (t : Nat → Nat) (len : Nat) (M O P : Nat → Int64) (L : List Nat) (f : Nat) : Prop := ∀ (a : Nat → Int32) (n : Int32), (120 < L.length → post (-2) (nI len, n, (fun i => nI (t i)), a, M, O, P)) ∧ (L.length ≤ 120 → post r (nI (L.length - f), n, (fun i => nI (pd_kp t L f i)), a, M, O, P))
/-- X ends with answer r, its WORK as it was -/
def pd_XC (post : Int32 → SX → Prop) (r : Int32) (t : Nat → Nat) (len : Nat) (M O P : Nat → Int64) : Prop := ∀ (a : Nat → Int32) (n : Int32), post r (nI len, n, (fun i => nI (t i)), a, M, O, P)
def pd_YC (post : Int32 → SY → Prop) (r : Int32) (t : Nat → Nat) (len : Nat) (M O P : Nat → Int64) : Prop := ∀ (a : Nat → Int32) (n : Int32), post r (nI len, n, (fun i => nI (t i)), a, M, O, P)
theorem pd_fin (k : Nat) {r : Int32} {t : Nat → Nat} {len : Nat} {M O P : Nat → Int64} {L : List Nat} {f : Nat} (ht : ∀ i, t i < 256) (hl : len ≤ 120) (hK : pd_K M O P) (hL : pd_By L) (WX : (Int32 → SX → Prop) → Prop) (WY : (Int32 → SY → Prop) → Prop) (hX : ∀ post, pd_XK post r t len M O P L f → WX post) (hY : ∀ post, pd_YK post r t len M O P L f → WY post) : WX (fun r u' => WY (fun r' v' => r' = r ∧ i_Rel k u' v')) := by
  apply hX
  intro a n
  refine ⟨fun z => hY _ fun b c => ⟨fun _ => ⟨rfl, pd_R k ht hl hK _ _ _ _⟩, fun y => absurd z (by omega)⟩, fun z => hY _ fun b c => ⟨fun y => absurd z (by omega), fun _ => ⟨rfl, pd_R k (pd_kp_By ht hL f) (by omega) hK _ _ _ _⟩⟩⟩
theorem pd_finC (k : Nat) {r : Int32} {t : Nat → Nat} {len : Nat} {M O P : Nat → Int64} (ht : ∀ i, t i < 256) (hl : len ≤ 120) (hK : pd_K M O P) (WX : (Int32 → SX → Prop) → Prop) (WY : (Int32 → SY → Prop) → Prop) (hX : ∀ post, pd_XC post r t len M O P → WX post) (hY : ∀ post, pd_YC post r t len M O P → WY post) : WX (fun r u' => WY (fun r' v' => r' = r ∧ i_Rel k u' v')) := by
  apply hX
  intro a n
  exact hY _ fun b c => ⟨rfl, pd_R k ht hl hK _ _ _ _⟩
/-! runs -/
def pd_Rn (t : Nat → Nat) (len i r : Nat) : Prop := 1 ≤ r ∧ i + r ≤ len ∧ (∀ j, j < r → t (i + j) = t i) ∧ (i + r = len ∨ t (i + r) ≠ t i)
theorem pd_Rn_ex (t : Nat → Nat) (len i : Nat) (h : i < len) : ∃ r, pd_Rn t len i r := by
  obtain ⟨r, hr, hl⟩ := pk_least (fun r => i + (r + 1) = len ∨ (i + (r + 1) < len ∧ t (i + (r + 1)) ≠ t i)) ⟨len - i - 1, Or.inl (by omega)⟩
  have hb : ∀ j, j ≤ r → i + j < len ∧ t (i + j) = t i := by
    intro j
    induction j with
    | zero => intro _; exact ⟨h, rfl⟩
    | succ j ih =>
      intro hj
      have a := ih (by omega)
      have b := hl j (by omega)
      by_cases z : i + (j + 1) = len
      · exact absurd (Or.inl z) b
      · refine ⟨by omega, ?_⟩
        by_cases y : t (i + (j + 1)) = t i
        · exact y
        · exact absurd (Or.inr ⟨by omega, y⟩) b
  refine ⟨r + 1, by omega, by have := (hb r (Nat.le_refl _)).1; omega, fun j hj => (hb j (by omega)).2, ?_⟩
  rcases hr with z | z
  · exact Or.inl z
  · exact Or.inr z.2
end
section
/-! the draft, put by put; the draft kept -/
section
variable {len n : Int32} {w a : Nat → Int32} {t : Nat → Nat} {M O P : Nat → Int64} {L : List Nat}
theorem pd_xput {post : SX → Prop} {x : Int32} (b : Nat) (hx : x = nI b) (hD : pd_D 120 a n L) (hL : L.length < 100000) (H : ∀ a' n', pd_D 120 a' n' (L ++ [b]) → post (len, n', w, a', M, O, P)) : wpX_put post (len, n, w, a, M, O, P) x := by
  have e := hD.1
  subst e
  subst hx
  exact pk_le 120 L.length (fun z => nm_r (nI_1 _) (H _ _ (pd_D_skip b hD z))) (fun z => ⟨vp_in_nI z (by decide), nm_r (by rw [nI_clamp (by omega)]) (nm_r (nI_1 _) (H _ _ (pd_D_put b hD)))⟩)
theorem pd_yput {post : SY → Prop} {x : Int32} (b : Nat) (hx : x &&& 255 = nI b) (hD : pd_D 400 a n L) (hL : L.length < 100000) (H : ∀ a' n', pd_D 400 a' n' (L ++ [b]) → post (len, n', w, a', M, O, P)) : wpY_put post (len, n, w, a, M, O, P) x := by
  have e := hD.1
  subst e
  exact pk_le 400 L.length (fun z => nm_r (nI_1 _) (H _ _ (pd_D_skip b hD z))) (fun z => ⟨vp_in_nI z (by decide), nm_r (by rw [nI_clamp (by omega), hx]) (nm_r (nI_1 _) (H _ _ (pd_D_put b hD)))⟩)
theorem pd_yputb {post : SY → Prop} {x : Int32} (b : Nat) (hx : x = nI b) (hb : b < 256) (hD : pd_D 400 a n L) (hL : L.length < 100000) (H : ∀ a' n', pd_D 400 a' n' (L ++ [b]) → post (len, n', w, a', M, O, P)) : wpY_put post (len, n, w, a, M, O, P) x := pd_yput b (by rw [hx]; exact pd_msk hb) hD hL H
theorem pd_xpwL {post : SX → Prop} {f c : Nat} (hf : f + c ≤ 120) (hL : L.length < 50000) (H : ∀ a' n', pd_D 120 a' n' (L ++ pd_sl t f c) → post (len, n', (fun i => nI (t i)), a', M, O, P)) : ∀ (d i m : Nat) (a : Nat → Int32) (n : Int32), i + d = c → d < m → pd_D 120 a n (L ++ pd_sl t f i) → wX_putWork_2 post (nI f) (nI c) m (nI i) len n (fun i => nI (t i)) a M O P := by
  intro d
  induction d with
  | zero =>
    intro i m a n hi hm hD
    obtain ⟨m, rfl⟩ : ∃ m', m = m' + 1 := ⟨m - 1, by omega⟩
    have e : i = c := by omega
    subst e
    exact br_t (nI_le (Nat.le_refl _) (by omega)) (H a n hD)
  | succ d ih =>
    intro i m a n hi hm hD
    obtain ⟨m, rfl⟩ : ∃ m', m = m' + 1 := ⟨m - 1, by omega⟩
    have e : nI f + nI i = nI (f + i) := nI_add f i
    refine br_f (nI_ge (by omega) (by omega)) ⟨by rw [e]; exact vp_in_nI (by omega) (by decide), ?_⟩
    refine pd_xput (t (f + i)) (by rw [e, nI_clamp (by omega)]) hD (by rw [List.length_append, pd_sl_len]; omega) ?_
    intro a' n' hD'
    refine nm_r (nI_1 i) ?_
    refine ih (i + 1) m a' n' (by omega) (by omega) ?_
    rw [pd_sl, ← List.append_assoc]
    exact hD'
theorem pd_xpw {post : SX → Prop} {x y : Int32} (f c : Nat) (hx : x = nI f) (hy : y = nI c) (hf : f + c ≤ 120) (hD : pd_D 120 a n L) (hL : L.length < 50000) (H : ∀ a' n', pd_D 120 a' n' (L ++ pd_sl t f c) → post (len, n', (fun i => nI (t i)), a', M, O, P)) : wpX_putWork post (len, n, (fun i => nI (t i)), a, M, O, P) x y := by
  subst hx hy
  exact ⟨c + 1, pd_xpwL hf hL H c 0 (c + 1) a n (by omega) (by omega) (by rw [pd_sl, List.append_nil]; exact hD)⟩
theorem pd_ypwL {post : SY → Prop} {f c : Nat} (ht : ∀ i, t i < 256) (hf : f + c ≤ 120) (hL : L.length < 50000) (H : ∀ a' n', pd_D 400 a' n' (L ++ pd_sl t f c) → post (len, n', (fun i => nI (t i)), a', M, O, P)) : ∀ (d i m : Nat) (a : Nat → Int32) (n : Int32), i + d = c → d < m → pd_D 400 a n (L ++ pd_sl t f i) → wY_putWork_2 post (nI (f + c)) m (nI (f + i)) len n (fun i => nI (t i)) a M O P := by
  intro d
  induction d with
  | zero =>
    intro i m a n hi hm hD
    obtain ⟨m, rfl⟩ : ∃ m', m = m' + 1 := ⟨m - 1, by omega⟩
    have e : i = c := by omega
    subst e
    exact br_t (nI_le (Nat.le_refl _) (by omega)) (H a n hD)
  | succ d ih =>
    intro i m a n hi hm hD
    obtain ⟨m, rfl⟩ : ∃ m', m = m' + 1 := ⟨m - 1, by omega⟩
    refine br_f (nI_ge (by omega) (by omega)) ⟨vp_in_nI (by omega) (by decide), ?_⟩
    refine pd_yputb (t (f + i)) (by rw [nI_clamp (by omega)]) (ht _) hD (by rw [List.length_append, pd_sl_len]; omega) ?_
    intro a' n' hD'
    refine nm_r (nI_1 (f + i)) ?_
    refine ih (i + 1) m a' n' (by omega) (by omega) ?_
    rw [pd_sl, ← List.append_assoc]
    exact hD'
theorem pd_ypw {post : SY → Prop} {x y : Int32} (f c : Nat) (hx : x = nI f) (hy : y = nI (f + c)) (ht : ∀ i, t i < 256) (hf : f + c ≤ 120) (hD : pd_D 400 a n L) (hL : L.length < 50000) (H : ∀ a' n', pd_D 400 a' n' (L ++ pd_sl t f c) → post (len, n', (fun i => nI (t i)), a', M, O, P)) : wpY_putWork post (len, n, (fun i => nI (t i)), a, M, O, P) x y := by
  subst hx hy
  exact ⟨c + 1, pd_ypwL ht hf hL H c 0 (c + 1) a n (by omega) (by omega) (by rw [pd_sl, List.append_nil]; exact hD)⟩
theorem pd_xkeepL {post : Int32 → SX → Prop} {f : Nat} {l0 : Int32} (hf : f ≤ L.length) (hL : L.length ≤ 120) (hD : pd_D 120 a (nI L.length) L) (H : post (nI (L.length - f)) (nI (L.length - f), nI L.length, (fun i => nI (pd_kp t L f i)), a, M, O, P)) : ∀ (d i m : Nat), f + i + d = L.length → d < m → wX_keepDraft_14 post (nI f) l0 (nI L.length) m (nI (f + i)) (pd_kc (fun i => nI (t i)) L f i) a M O P := by
  intro d
  induction d with
  | zero =>
    intro i m hi hm
    obtain ⟨m, rfl⟩ : ∃ m', m = m' + 1 := ⟨m - 1, by omega⟩
    have e : i = L.length - f := by omega
    have e2 := pd_kc_e t L f
    rw [← e] at e2
    refine br_t (nI_le (by omega) (by omega)) (nm_r (pk_sub hf) ?_)
    rw [e2]
    exact H
  | succ d ih =>
    intro i m hi hm
    obtain ⟨m, rfl⟩ : ∃ m', m = m' + 1 := ⟨m - 1, by omega⟩
    have e : nI (f + i) - nI f = nI i := by rw [pk_sub (by omega), Nat.add_sub_cancel_left]
    refine br_f (nI_ge (by omega) (by omega)) ⟨vp_in_nI (by omega) (by decide), by rw [e]; exact vp_in_nI (by omega) (by decide), ?_⟩
    refine nm_r (e' := pd_kc (fun i => nI (t i)) L f (i + 1)) ?_ (nm_r (nI_1 (f + i)) (ih (i + 1) m (by omega) (by omega)))
    rw [e, nI_clamp (by omega), nI_clamp (by omega), hD.2 (f + i) (by omega) (by omega), Nat.add_comm f i]
    exact pd_kc_s _ L f i
theorem pd_xkeep {post : Int32 → SX → Prop} {x l0 : Int32} (f : Nat) (hx : x = nI f) (hf : f ≤ L.length) (hl : L.length < 100000) (hD : pd_D 120 a n L) (H1 : 120 < L.length → post (-2) (l0, n, (fun i => nI (t i)), a, M, O, P)) (H2 : L.length ≤ 120 → post (nI (L.length - f)) (nI (L.length - f), n, (fun i => nI (pd_kp t L f i)), a, M, O, P)) : wpX_keepDraft post (l0, n, (fun i => nI (t i)), a, M, O, P) x := by
  have e := hD.1
  subst e
  subst hx
  refine pk_le L.length 120 (fun z => ⟨L.length + 1, ?_⟩) (fun z => H1 z)
  have q := pd_xkeepL (l0 := l0) hf z hD (H2 z) (L.length - f) 0 (L.length + 1) (by omega) (by omega)
  rw [pd_kc_0] at q
  exact q
theorem pd_ybecomeL {post : Int32 → SY → Prop} (hL : L.length ≤ 120) (hD : pd_D 400 a (nI L.length) L) (H : post (nI L.length) (nI L.length, nI L.length, (fun i => nI (pd_kp t L 0 i)), a, M, O, P)) : ∀ (d i m : Nat), i + d = L.length → d < m → wY_become_22 post (nI L.length) (nI L.length) m (nI i) (pd_kc (fun i => nI (t i)) L 0 i) a M O P := by
  intro d
  induction d with
  | zero =>
    intro i m hi hm
    obtain ⟨m, rfl⟩ : ∃ m', m = m' + 1 := ⟨m - 1, by omega⟩
    have e : i = L.length - 0 := by omega
    have e2 := pd_kc_e t L 0
    rw [← e] at e2
    refine br_t (nI_le (by omega) (by omega)) ?_
    rw [e2]
    exact H
  | succ d ih =>
    intro i m hi hm
    obtain ⟨m, rfl⟩ : ∃ m', m = m' + 1 := ⟨m - 1, by omega⟩
    refine br_f (nI_ge (by omega) (by omega)) ⟨vp_in_nI (by omega) (by decide), vp_in_nI (by omega) (by decide), ?_⟩
    refine nm_r (e' := pd_kc (fun i => nI (t i)) L 0 (i + 1)) ?_ (nm_r (nI_1 i) (ih (i + 1) m (by omega) (by omega)))
    rw [nI_clamp (by omega), hD.2 i (by omega) (by omega)]
    exact pd_kc_s _ L 0 i
theorem pd_ybecome {post : Int32 → SY → Prop} {l0 : Int32} (hl : L.length < 100000) (hD : pd_D 400 a n L) (H1 : 120 < L.length → post (-2) (l0, n, (fun i => nI (t i)), a, M, O, P)) (H2 : L.length ≤ 120 → post (nI L.length) (nI L.length, n, (fun i => nI (pd_kp t L 0 i)), a, M, O, P)) : wpY_become post (l0, n, (fun i => nI (t i)), a, M, O, P) := by
  have e := hD.1
  subst e
  refine pk_le L.length 120 (fun z => ⟨L.length + 1, ?_⟩) (fun z => H1 z)
  have q := pd_ybecomeL z hD (H2 z) L.length 0 (L.length + 1) (by omega) (by omega)
  rw [pd_kc_0] at q
  exact q
theorem pd_xbw {post : Int32 → Prop} {x y : Int32} (k : Nat) (hk : k < 4) (hy : y = nI k) (H : post (nI (pd_by x k))) : wpX_byteOfWord post (len, n, w, a, M, O, P) x y := by
  subst hy
  have e : post ((x.toUInt32 >>> ((24 - 8 * nI k : Int32).toUInt32 &&& Int32.toUInt32 31)).toInt32 &&& 255) := by
    rw [pd_byX x hk]
    exact H
  exact e
/-- the draft and the four bytes of a word -/
def pd_LW (L : List Nat) (x : Int32) : List Nat := (((L ++ [pd_by x 0]) ++ [pd_by x 1]) ++ [pd_by x 2]) ++ [pd_by x 3]
theorem pd_LW_len (L : List Nat) (x : Int32) : (pd_LW L x).length = L.length + 4 := by simp [pd_LW]
theorem pd_LW_By {L : List Nat} (h : pd_By L) (x : Int32) : pd_By (pd_LW L x) := pd_By_put (pd_By_put (pd_By_put (pd_By_put h (pd_by_lt _ _)) (pd_by_lt _ _)) (pd_by_lt _ _)) (pd_by_lt _ _)
theorem pd_xpwd {post : SX → Prop} {x : Int32} (hD : pd_D 120 a n L) (hL : L.length < 50000) (H : ∀ a' n', pd_D 120 a' n' (pd_LW L x) → post (len, n', w, a', M, O, P)) : wpX_putWord post (len, n, w, a, M, O, P) x := by
  refine ⟨5, br_f (by decide) ?_⟩
  refine pd_xbw 0 (by omega) rfl ?_
  refine pd_xput (pd_by x 0) rfl hD (by omega) ?_
  intro a1 n1 h1
  refine nm_r (e' := 1) (by decide) ?_
  refine br_f (by decide) ?_
  refine pd_xbw 1 (by omega) rfl ?_
  refine pd_xput (pd_by x 1) rfl h1 (by simp; omega) ?_
  intro a2 n2 h2
  refine nm_r (e' := 2) (by decide) ?_
  refine br_f (by decide) ?_
  refine pd_xbw 2 (by omega) rfl ?_
  refine pd_xput (pd_by x 2) rfl h2 (by simp; omega) ?_
  intro a3 n3 h3
  refine nm_r (e' := 3) (by decide) ?_
  refine br_f (by decide) ?_
  refine pd_xbw 3 (by omega) rfl ?_
  refine pd_xput (pd_by x 3) rfl h3 (by simp; omega) ?_
  intro a4 n4 h4
  refine nm_r (e' := 4) (by decide) ?_
  exact br_t (by decide) (H a4 n4 h4)
theorem pd_ypwd {post : SY → Prop} {x : Int32} (hD : pd_D 400 a n L) (hL : L.length < 50000) (H : ∀ a' n', pd_D 400 a' n' (pd_LW L x) → post (len, n', w, a', M, O, P)) : wpY_putWord post (len, n, w, a, M, O, P) x := by
  refine ⟨5, br_f (by decide) ?_⟩
  refine pd_yput (pd_by x 0) (pd_byS x (k := 0) (by omega)) hD (by omega) ?_
  intro a1 n1 h1
  refine nm_r (e' := 16) (by decide) ?_
  refine br_f (by decide) ?_
  refine pd_yput (pd_by x 1) (pd_byS x (k := 1) (by omega)) h1 (by simp; omega) ?_
  intro a2 n2 h2
  refine nm_r (e' := 8) (by decide) ?_
  refine br_f (by decide) ?_
  refine pd_yput (pd_by x 2) (pd_byS x (k := 2) (by omega)) h2 (by simp; omega) ?_
  intro a3 n3 h3
  refine nm_r (e' := 0) (by decide) ?_
  refine br_f (by decide) ?_
  refine pd_yput (pd_by x 3) (pd_byS x (k := 3) (by omega)) h3 (by simp; omega) ?_
  intro a4 n4 h4
  refine nm_r (e' := -8) (by decide) ?_
  exact br_t (by decide) (H a4 n4 h4)
end
end
section
/-! bounds of arguments; add, at, set, clear, hash, stretch -/
def pd_bad (N : Nat) (x : Int32) : Prop := x < 0 ∨ ∃ j, N ≤ j ∧ j < 2 ^ 31 ∧ x = nI j
theorem pd_cs (N : Nat) (x : Int32) : pd_bad N x ∨ ∃ j, j < N ∧ j < 2 ^ 31 ∧ x = nI j := by
  by_cases z : x < 0
  · exact Or.inl (Or.inl z)
  · obtain ⟨j, hj, rfl⟩ := nI_of z
    rcases Nat.lt_or_ge j N with y | y
    · exact Or.inr ⟨j, y, hj, rfl⟩
    · exact Or.inl (Or.inr ⟨j, y, hj, rfl⟩)
theorem pd_n10 : ¬ (1 : Int32) = 0 := by decide
section
variable {len n : Int32} {w a : Nat → Int32} {t : Nat → Nat} {M O P : Nat → Int64} {L : List Nat}
theorem pd_xB0 {post : Int32 → Prop} {x : Int32} (h : pd_bad 256 x) (hp : post 0) : wpX_isByte post (len, n, w, a, M, O, P) x := by
  rcases h with z | ⟨j, h1, h2, rfl⟩
  · exact br_t z hp
  · exact br_f (nI_pos h2) (br_t (nI_lt (a := 255) (by omega) h2) hp)
theorem pd_xB1 {post : Int32 → Prop} {j : Nat} (h : j < 256) (hp : post 1) : wpX_isByte post (len, n, w, a, M, O, P) (nI j) :=
  br_f (nI_pos (by omega)) (br_f (nI_nlt (a := 255) (by omega) (by omega)) hp)
theorem pd_xP0 {post : Int32 → Prop} {x : Int32} {l : Nat} (h : pd_bad l x) (hp : post 0) : wpX_isPlace post (nI l, n, w, a, M, O, P) x := by
  rcases h with z | ⟨j, h1, h2, rfl⟩
  · exact br_t z hp
  · exact br_f (nI_pos h2) (br_t (nI_le h1 h2) hp)
theorem pd_xP1 {post : Int32 → Prop} {j l : Nat} (hl : l ≤ 120) (h : j < l) (hp : post 1) : wpX_isPlace post (nI l, n, w, a, M, O, P) (nI j) :=
  br_f (nI_pos (by omega)) (br_f (nI_ge h (by omega)) hp)
theorem pd_yO1 {post : Int32 → Prop} {x y : Int32} (N : Nat) (hy : y = nI N) (h : pd_bad N x) (hp : post 1) : wpY_out post x y := by
  subst hy
  rcases h with z | ⟨j, h1, h2, rfl⟩
  · exact br_t z hp
  · exact br_f (nI_pos h2) (br_f (nI_nlt h1 h2) hp)
theorem pd_yO0 {post : Int32 → Prop} {y : Int32} {j : Nat} (N : Nat) (hy : y = nI N) (hN : N < 2 ^ 31) (h : j < N) (hp : post 0) : wpY_out post (nI j) y := by
  subst hy
  exact br_f (nI_pos (by omega)) (br_t (nI_lt h hN) hp)
theorem pd_cl {i : Nat} (h : i < 2 ^ 31) : (fun i => nI (t i)) (nI i).toNatClampNeg = nI (t i) := by rw [nI_clamp h]
end
theorem i_vc0 : wpX_init (fun u => wpY_init (fun v => i_Rel 0 u v)) := ⟨fun _ => 0, 0, fun _ => 0, fun _ => 0, fun _ => 0, fun _ => 0, 0, fun _ => 0, 0, fun _ => Nat.zero_lt_succ _, by omega, fun _ _ => Or.inl rfl, rfl, rfl⟩
theorem i_vc_add {k : Nat} {u : SX} {v : SY} (I : i_Rel k u v) (hk : k + 5 ≤ 2560) (v1 : Int32) : wpX_add (fun r u' => wpY_add (fun r' v' => r' = r ∧ i_Rel (k + 5) u' v') v v1) u v1 := by
  obtain ⟨t, len, M, O, P, a, n, b, c, ht, hl, hK, rfl, rfl⟩ := I
  unfold wpX_add wpY_add
  dsimp only
  rcases pd_cs 256 v1 with h | ⟨j, hj, _, rfl⟩
  · refine pd_xB0 h ?_
    refine br_t rfl ?_
    refine pd_yO1 256 rfl h ?_
    exact br_f pd_n10 ⟨rfl, pd_R _ ht hl hK _ _ _ _⟩
  · rcases Nat.lt_or_ge len 120 with z | z
    · have e : upd (fun i => nI (t i)) (nI len).toNatClampNeg (nI j) = fun i => nI ((fun i => if i = len then j else t i) i) := by
        rw [nI_clamp (by omega)]
        exact pd_updT t len j
      refine pd_xB1 hj ?_
      refine br_f pd_n10 (br_t (nI_lt (b := 120) z (by decide)) ⟨vp_in_nI z (by decide), nm_r e (nm_r (nI_1 len) ?_)⟩)
      refine pd_yO0 256 rfl (by decide) hj ?_
      exact br_t rfl (br_f (fun q => absurd ((nI_eq (b := 120) (by omega) (by decide)).mp q) (by omega)) (nm_r (nI_1 len) ⟨vp_in_nI z (by decide), nm_r e ⟨rfl, pd_R _ (pd_updB ht hj) (by omega) hK _ _ _ _⟩⟩))
    · have e : len = 120 := by omega
      subst e
      refine pd_xB1 hj ?_
      refine br_f pd_n10 (br_f (nI_nlt (a := 120) (b := 120) (by omega) (by decide)) ?_)
      refine pd_yO0 256 rfl (by decide) hj ?_
      exact br_t rfl (br_t rfl ⟨rfl, pd_R _ ht hl hK _ _ _ _⟩)
theorem i_vc_at {k : Nat} {u : SX} {v : SY} (I : i_Rel k u v) (hk : k + 5 ≤ 2560) (v1 : Int32) : wpX_at (fun r => wpY_at (fun r' => r' = r ∧ i_Rel (k + 5) u v) v v1) u v1 := by
  have J := I
  obtain ⟨t, len, M, O, P, a, n, b, c, ht, hl, hK, rfl, rfl⟩ := I
  unfold wpX_at wpY_at
  dsimp only
  rcases pd_cs len v1 with h | ⟨j, hj, _, rfl⟩
  · refine pd_xP0 h ?_
    refine br_t rfl ?_
    refine pd_yO1 len rfl h ?_
    exact br_f pd_n10 ⟨rfl, J⟩
  · refine pd_xP1 hl hj ?_
    refine br_f pd_n10 ⟨vp_in_nI (by omega) (by decide), ?_⟩
    refine pd_yO0 len rfl (by omega) hj ?_
    exact br_t rfl ⟨vp_in_nI (by omega) (by decide), rfl, J⟩
theorem i_vc_set {k : Nat} {u : SX} {v : SY} (I : i_Rel k u v) (hk : k + 5 ≤ 2560) (v1 : Int32) (v2 : Int32) : wpX_set (fun r u' => wpY_set (fun r' v' => r' = r ∧ i_Rel (k + 5) u' v') v v1 v2) u v1 v2 := by
  have J := I
  obtain ⟨t, len, M, O, P, a, n, b, c, ht, hl, hK, rfl, rfl⟩ := I
  unfold wpX_set wpY_set
  dsimp only
  rcases pd_cs len v1 with h | ⟨j, hj, _, rfl⟩
  · refine pd_xP0 h ?_
    refine br_t rfl ?_
    refine pd_yO1 len rfl h ?_
    exact br_f pd_n10 ⟨rfl, J⟩
  · refine pd_xP1 hl hj ?_
    refine br_f pd_n10 ?_
    rcases pd_cs 256 v2 with h2 | ⟨i, hi, _, rfl⟩
    · refine pd_xB0 h2 ?_
      refine br_t rfl ?_
      refine pd_yO0 len rfl (by omega) hj ?_
      refine br_t rfl ?_
      refine pd_yO1 256 rfl h2 ?_
      exact br_f pd_n10 ⟨rfl, J⟩
    · have e : upd (fun i => nI (t i)) (nI j).toNatClampNeg (nI i) = fun q => nI ((fun q => if q = j then i else t q) q) := by
        rw [nI_clamp (by omega)]
        exact pd_updT t j i
      have hv : vp_in (nI j) 120 := vp_in_nI (by omega) (by decide)
      refine pd_xB1 hi ?_
      refine br_f pd_n10 ⟨hv, nm_e ⟨hv, nm_r e ?_⟩⟩
      refine pd_yO0 len rfl (by omega) hj ?_
      refine br_t rfl ?_
      refine pd_yO0 256 rfl (by decide) hi ?_
      exact br_t rfl ⟨hv, nm_e ⟨hv, nm_r e ⟨rfl, pd_R _ (pd_updB ht hi) hl hK _ _ _ _⟩⟩⟩
theorem i_vc_clear {k : Nat} {u : SX} {v : SY} (I : i_Rel k u v) (hk : k + 5 ≤ 2560) : wpX_clear (fun r u' => wpY_clear (fun r' v' => r' = r ∧ i_Rel (k + 5) u' v') v) u := by
  obtain ⟨t, len, M, O, P, a, n, b, c, ht, hl, hK, rfl, rfl⟩ := I
  unfold wpX_clear wpY_clear
  exact ⟨rfl, pd_R (len := 0) _ ht (by omega) hK _ _ _ _⟩
section
variable {len n : Int32} {w a : Nat → Int32} {t : Nat → Nat} {M O P : Nat → Int64} {L : List Nat}
theorem pd_xhL {post : Int32 → Prop} {c : Nat} (hc : c ≤ 120) (H : post (pd_he (pd_hs t c))) : ∀ d i m : Nat, i + d = c → d < m → wX_hashOfFirst_5 post (nI c) len n (fun i => nI (t i)) a M O P m (pd_hs t i) (nI i) := by
  intro d
  induction d with
  | zero =>
    intro i m hi hm
    obtain ⟨m, rfl⟩ : ∃ m', m = m' + 1 := ⟨m - 1, by omega⟩
    have e : i = c := by omega
    subst e
    exact br_t (nI_le (Nat.le_refl _) (by omega)) (nm_e H)
  | succ d ih =>
    intro i m hi hm
    obtain ⟨m, rfl⟩ : ∃ m', m = m' + 1 := ⟨m - 1, by omega⟩
    refine br_f (nI_ge (by omega) (by omega)) ⟨vp_in_nI (by omega) (by decide), ?_⟩
    refine nm_r (nI_1 i) ?_
    rw [nI_clamp (by omega)]
    exact ih (i + 1) m (by omega) (by omega)
theorem pd_xh {post : Int32 → Prop} (c : Nat) (hc : c ≤ 120) (H : post (pd_he (pd_hs t c))) : wpX_hashOfFirst post (len, n, (fun i => nI (t i)), a, M, O, P) (nI c) := ⟨c + 1, pd_xhL hc H c 0 (c + 1) (by omega) (by omega)⟩
theorem pd_yhL {post : Int32 → Prop} {c : Nat} (hc : c ≤ 120) (H : post (pd_he (pd_hs t c))) : ∀ d i m : Nat, i + d = c → d < m → wY_hashOf_5 post (nI c) len n (fun i => nI (t i)) a M O P m (pd_hs t i) (nI i) := by
  intro d
  induction d with
  | zero =>
    intro i m hi hm
    obtain ⟨m, rfl⟩ : ∃ m', m = m' + 1 := ⟨m - 1, by omega⟩
    have e : i = c := by omega
    subst e
    exact br_t (nI_le (Nat.le_refl _) (by omega)) (nm_e H)
  | succ d ih =>
    intro i m hi hm
    obtain ⟨m, rfl⟩ : ∃ m', m = m' + 1 := ⟨m - 1, by omega⟩
    refine br_f (nI_ge (by omega) (by omega)) ⟨vp_in_nI (by omega) (by decide), ?_⟩
    refine nm_r (nI_1 i) ?_
    rw [nI_clamp (by omega)]
    exact ih (i + 1) m (by omega) (by omega)
theorem pd_yh {post : Int32 → Prop} (c : Nat) (hc : c ≤ 120) (H : post (pd_he (pd_hs t c))) : wpY_hashOf post (len, n, (fun i => nI (t i)), a, M, O, P) (nI c) := ⟨c + 1, pd_yhL hc H c 0 (c + 1) (by omega) (by omega)⟩
theorem pd_mod1 {i m : Nat} (hm : 0 < m) : (i % m + 1 < m → (i + 1) % m = i % m + 1) ∧ (m ≤ i % m + 1 → (i + 1) % m = 0) := by
  have e : (i % m + 1) % m = (i + 1) % m := Nat.mod_add_mod i m 1
  have h : i % m < m := Nat.mod_lt _ hm
  refine ⟨fun z => by rw [← e, Nat.mod_eq_of_lt z], fun z => ?_⟩
  have q : i % m + 1 = m := by omega
  rw [← e, q, Nat.mod_self]
theorem pd_xsL {post : Int32 → Prop} {salt : Int32} {l c : Nat} (hl : l ≤ 120) (hc : c ≤ 2000) (H : post (pd_he (pd_sh salt t l c))) : ∀ d i m : Nat, i + d = c → d < m → wX_stretch_22 post salt (nI c) (nI l) n (fun i => nI (t i)) a M O P m (pd_sh salt t l i) (nI (i % (l + 4))) (nI i) := by
  intro d
  induction d with
  | zero =>
    intro i m hi hm
    obtain ⟨m, rfl⟩ : ∃ m', m = m' + 1 := ⟨m - 1, by omega⟩
    have e : i = c := by omega
    subst e
    exact br_t (nI_le (Nat.le_refl _) (by omega)) (nm_e H)
  | succ d ih =>
    intro i m hi hm
    obtain ⟨m, rfl⟩ : ∃ m', m = m' + 1 := ⟨m - 1, by omega⟩
    have hp : i % (l + 4) < l + 4 := Nat.mod_lt _ (by omega)
    have h1 := (pd_mod1 (i := i) (m := l + 4) (by omega)).1
    have h2 := (pd_mod1 (i := i) (m := l + 4) (by omega)).2
    have q := ih (i + 1) m (by omega) (by omega)
    have es : pd_sh salt t l (i + 1) = (pd_sh salt t l i ^^^ nI (pd_sb salt t (i % (l + 4)))) * 16777619 := rfl
    rw [es] at q
    generalize i % (l + 4) = p at hp h1 h2 q
    have e4 : (4 : Int32) + nI l = nI (l + 4) := by rw [Nat.add_comm l 4]; exact nI_add 4 l
    have nx : ∀ z, z = nI (pd_sb salt t p) → wX_stretch_53 post (wX_stretch_22 post salt (nI c) (nI l) n (fun i => nI (t i)) a M O P m) salt (nI c) (pd_sh salt t l i) (nI p) (nI i) z (nI l) n (fun i => nI (t i)) a M O P := by
      intro z hz
      subst hz
      refine pk_le (l + 4) (p + 1) (fun y => nm_r (nI_1 i) ?_) (fun y => nm_r (nI_1 p) (nm_r (nI_1 i) ?_)) e4 (nI_1 p)
      · rw [h2 y] at q
        exact q
      · rw [h1 y] at q
        exact q
    refine br_f (nI_ge (by omega) (by omega)) (pk_le 4 p (fun y => ?_) (fun y => ?_))
    · have e : nI p - 4 = nI (p - 4) := pk_sub (b := 4) y
      refine ⟨by rw [e]; exact vp_in_nI (by omega) (by decide), nx _ ?_⟩
      unfold pd_sb
      rw [e, nI_clamp (by omega), if_neg (by omega)]
    · refine nx _ ?_
      unfold pd_sb
      rw [if_pos y]
      exact pd_byX salt y
theorem pd_ysL {post : Int32 → Prop} {salt : Int32} {l c : Nat} (hl : l ≤ 120) (hc : c ≤ 2000) (H : post (pd_he (pd_sh salt t l c))) : ∀ d i m : Nat, i + d = c → d < m → wY_stretch_18 post salt (nI c) (nI l) n (fun i => nI (t i)) a M O P m (pd_sh salt t l i) (nI i) := by
  intro d
  induction d with
  | zero =>
    intro i m hi hm
    obtain ⟨m, rfl⟩ : ∃ m', m = m' + 1 := ⟨m - 1, by omega⟩
    have e : i = c := by omega
    subst e
    exact br_t (nI_le (Nat.le_refl _) (by omega)) (nm_e H)
  | succ d ih =>
    intro i m hi hm
    obtain ⟨m, rfl⟩ : ∃ m', m = m' + 1 := ⟨m - 1, by omega⟩
    have hp : i % (l + 4) < l + 4 := Nat.mod_lt _ (by omega)
    have q := ih (i + 1) m (by omega) (by omega)
    have es : pd_sh salt t l (i + 1) = (pd_sh salt t l i ^^^ nI (pd_sb salt t (i % (l + 4)))) * 16777619 := rfl
    rw [es] at q
    have e4 : nI l + 4 = nI (l + 4) := nI_add l 4
    have er : nI i - nI i / (nI l + 4) * (nI l + 4) = nI (i % (l + 4)) := by
      rw [e4]
      exact pk_rem (by omega) (by omega) (by omega)
    have nx : ∀ z, z = nI (pd_sb salt t (i % (l + 4))) → wY_stretch_67 post (wY_stretch_18 post salt (nI c) (nI l) n (fun i => nI (t i)) a M O P m) salt (nI c) (pd_sh salt t l i) (nI i) z (nI l) n (fun i => nI (t i)) a M O P := by
      intro z hz
      subst hz
      exact nm_r (nI_1 i) q
    generalize i % (l + 4) = p at hp er nx
    refine br_f (nI_ge (by omega) (by omega)) ⟨by rw [e4]; exact nI_ne0 (by omega) (by omega), nm_r er (pk_le 4 p (fun y => ?_) (fun y => ?_))⟩
    · have e : nI p - 4 = nI (p - 4) := pk_sub (b := 4) y
      refine ⟨by rw [e]; exact vp_in_nI (by omega) (by decide), nx _ ?_⟩
      unfold pd_sb
      rw [e, nI_clamp (by omega), if_neg (by omega)]
    · refine nx _ ?_
      unfold pd_sb
      rw [if_pos y, pd_c24 p y]
      exact pd_byS salt y
end
theorem i_vc_hash {k : Nat} {u : SX} {v : SY} (I : i_Rel k u v) (hk : k + 5 ≤ 2560) : wpX_hash (fun r => wpY_hash (fun r' => r' = r ∧ i_Rel (k + 5) u v) v) u := by
  have J := I
  obtain ⟨t, len, M, O, P, a, n, b, c, ht, hl, hK, rfl, rfl⟩ := I
  unfold wpX_hash wpY_hash
  dsimp only
  refine pd_xh len hl ?_
  refine pd_yh len hl ?_
  exact ⟨rfl, J⟩
theorem i_vc_stretch {k : Nat} {u : SX} {v : SY} (I : i_Rel k u v) (hk : k + 5 ≤ 2560) (v1 : Int32) (v2 : Int32) : wpX_stretch (fun r => wpY_stretch (fun r' => r' = r ∧ i_Rel (k + 5) u v) v v1 v2) u v1 v2 := by
  have J := I
  obtain ⟨t, len, M, O, P, a, n, b, c, ht, hl, hK, rfl, rfl⟩ := I
  rcases pd_cs 2001 v2 with h | ⟨j, hj, _, rfl⟩
  · have hY : wpY_stretch (fun r' => r' = 0 ∧ i_Rel (k + 5) (nI len, n, (fun i => nI (t i)), a, M, O, P) (nI len, c, (fun i => nI (t i)), b, M, O, P)) (nI len, c, (fun i => nI (t i)), b, M, O, P) v1 v2 := by
      unfold wpY_stretch
      dsimp only
      refine pd_yO1 2001 rfl h ?_
      exact br_f pd_n10 ⟨rfl, J⟩
    rcases h with z | ⟨j, h1, h2, rfl⟩
    · exact br_t z hY
    · exact br_f (nI_pos h2) (br_f (nI_ge (a := 2000) (by omega) h2) hY)
  · refine br_f (nI_pos (by omega)) (br_t (nI_le (b := 2000) (by omega) (by decide)) ⟨j + 1, ?_⟩)
    refine pd_xsL hl (by omega) ?_ j 0 (j + 1) (by omega) (by omega)
    unfold wpY_stretch
    dsimp only
    refine pd_yO0 2001 rfl (by decide) hj ?_
    refine br_t rfl ⟨j + 1, ?_⟩
    exact pd_ysL hl (by omega) ⟨rfl, J⟩ j 0 (j + 1) (by omega) (by omega)
end
section
/-! wrap -/
theorem pd_app (L M : List Nat) : (L ++ M).length = L.length + M.length := List.length_append
section
variable {n : Int32} {a : Nat → Int32} {t : Nat → Nat} {M O P : Nat → Int64} {L : List Nat} {len : Nat}
theorem pd_XKb {post : Int32 → SX → Prop} (hl : L.length < 100000) (H : pd_XK post (nI (L.length - 0)) t len M O P L 0) (hD : pd_D 120 a n L) : wpX_keepDraft post (nI len, n, (fun i => nI (t i)), a, M, O, P) 0 := pd_xkeep 0 rfl (by omega) hl hD (H a n).1 (H a n).2
theorem pd_YKb {post : Int32 → SY → Prop} (hl : L.length < 100000) (H : pd_YK post (nI (L.length - 0)) t len M O P L 0) (hD : pd_D 400 a n L) : wpY_become post (nI len, n, (fun i => nI (t i)), a, M, O, P) := pd_ybecome hl hD (H a n).1 (H a n).2
/-- an old packet -/
def pd_LO (t : Nat → Nat) (len tag s : Nat) : List Nat := (if s = 3 then (if s = 1 then ([] ++ [128 + 4 * tag + s]) ++ [len / 256] else [] ++ [128 + 4 * tag + s]) else (if s = 1 then ([] ++ [128 + 4 * tag + s]) ++ [len / 256] else [] ++ [128 + 4 * tag + s]) ++ [len % 256]) ++ pd_sl t 0 len
theorem pd_LO_len (t : Nat → Nat) (len tag s : Nat) : (pd_LO t len tag s).length ≤ len + 3 := by
  unfold pd_LO
  rw [pd_app, pd_sl_len]
  repeat' split
  all_goals simp
  all_goals omega
theorem pd_LO_By (ht : ∀ i, t i < 256) (hl : len ≤ 120) {tag s : Nat} (h1 : tag < 16) (h2 : s < 4) : pd_By (pd_LO t len tag s) := by
  unfold pd_LO
  have b0 : pd_By ([] ++ [128 + 4 * tag + s]) := pd_By_put pd_By_nil (by omega)
  have b1 : pd_By (([] ++ [128 + 4 * tag + s]) ++ [len / 256]) := pd_By_put b0 (by omega)
  refine pd_By_app ?_ (pd_sl_By ht _ _)
  repeat' split
  · exact b1
  · exact b0
  · exact pd_By_put b1 (by omega)
  · exact pd_By_put b0 (by omega)
theorem pd_256 : ¬ (256 : Int32) = 0 := by decide
theorem pd_xold {post : SX → Prop} (hl : len ≤ 120) (tag s : Nat) (h1 : tag < 16) (h2 : s < 4) (H : ∀ a' n', pd_D 120 a' n' (pd_LO t len tag s) → post (nI len, n', (fun i => nI (t i)), a', M, O, P)) : wpX_draftOldPacket post (nI len, 0, (fun i => nI (t i)), a, M, O, P) (nI tag) (nI s) := by
  have e0 : (128 + 4 * nI tag) + nI s = nI (128 + 4 * tag + s) := by
    rw [← nI_add, ← nI_add, ← pk_mul]
    rfl
  have ed : nI len / 256 = nI (len / 256) := pk_div (d := 256) (by omega) (by decide) (by decide)
  have em : nI len - nI len / 256 * 256 = nI (len % 256) := pk_rem (d := 256) (by omega) (by decide) (by decide)
  have fin : ∀ (C : List Nat) a1 n1, C.length ≤ 3 → C ++ pd_sl t 0 len = pd_LO t len tag s → pd_D 120 a1 n1 C → wX_draftOldPacket_47 post (nI len) n1 (fun i => nI (t i)) a1 M O P := by
    intro C a1 n1 hC eC hD
    refine pd_xpw 0 len rfl rfl (by omega) hD (by omega) (fun a2 n2 h => H a2 n2 ?_)
    rw [← eC]
    exact h
  have mid : ∀ (B : List Nat) a1 n1, B.length ≤ 2 → B = (if s = 1 then ([] ++ [128 + 4 * tag + s]) ++ [len / 256] else [] ++ [128 + 4 * tag + s]) → pd_D 120 a1 n1 B → wX_draftOldPacket_30 post (nI s) (nI len) n1 (fun i => nI (t i)) a1 M O P := by
    intro B a1 n1 hB eB hD
    refine pk_eq s 3 (fun z => ?_) (fun z => ⟨pd_256, ?_⟩)
    · refine fin B a1 n1 (by omega) ?_ hD
      unfold pd_LO
      rw [← eB, if_pos z]
    · refine pd_xput (len % 256) em hD (by omega) (fun a2 n2 h => fin _ a2 n2 (by rw [pd_len1]; omega) ?_ h)
      unfold pd_LO
      rw [← eB, if_neg z]
  unfold wpX_draftOldPacket
  dsimp only
  refine pd_xput (128 + 4 * tag + s) e0 (pd_D_nil 120 a) (by simp) (fun a1 n1 hD => ?_)
  refine pk_eq s 1 (fun z => ⟨pd_256, ?_⟩) (fun z => ?_)
  · refine pd_xput (len / 256) ed hD (by simp) (fun a2 n2 h => mid _ a2 n2 (by simp) ?_ h)
    rw [if_pos z]
  · refine mid _ a1 n1 (by simp) ?_ hD
    rw [if_neg z]
theorem pd_yw198 {post : Int32 → SY → Prop} (ht : ∀ i, t i < 256) (f : Nat) (hl : len ≤ 120) (hf : f ≤ len) (hL : L.length < 1000) (hD : pd_D 400 a n L) (H : pd_YK post (nI ((L ++ pd_sl t f (len - f)).length - 0)) t len M O P (L ++ pd_sl t f (len - f)) 0) : wY_wrap_198 post (nI f) (nI len) n (fun i => nI (t i)) a M O P := by
  refine pd_ypw f (len - f) rfl (by rw [Nat.add_sub_cancel' hf]) ht (by omega) hD (by omega) (fun a2 n2 h => ?_)
  exact pd_YKb (by rw [pd_app, pd_sl_len]; omega) H h
theorem pd_yold {post : Int32 → SY → Prop} (ht : ∀ i, t i < 256) (hl : len ≤ 120) (tag s j : Nat) (h1 : tag < 16) (hj : (j = 6 ∧ s = 0) ∨ (j = 7 ∧ s = 1) ∨ (j = 8 ∧ s = 3)) (H : pd_YK post (nI ((pd_LO t len tag s).length - 0)) t len M O P (pd_LO t len tag s) 0) : wY_wrap_56 post (nI j) 0 (nI s) (128 + 4 * nI tag) (nI len) 0 (fun i => nI (t i)) a M O P := by
  have e0 : (128 + 4 * nI tag) + nI s = nI (128 + 4 * tag + s) := by
    rw [← nI_add, ← nI_add, ← pk_mul]
    rfl
  have ed : nI len / 256 = nI (len / 256) := pk_div (d := 256) (by omega) (by decide) (by decide)
  have fin : ∀ (C : List Nat) a1 n1, C.length ≤ 3 → C ++ pd_sl t 0 len = pd_LO t len tag s → pd_D 400 a1 n1 C → wY_wrap_198 post 0 (nI len) n1 (fun i => nI (t i)) a1 M O P := by
    intro C a1 n1 hC eC hD
    refine pd_yw198 ht 0 hl (by omega) (by omega) hD ?_
    rw [show len - 0 = len from rfl, eC]
    exact H
  have mid : ∀ (B : List Nat) a1 n1, B.length ≤ 2 → B = (if s = 1 then ([] ++ [128 + 4 * tag + s]) ++ [len / 256] else [] ++ [128 + 4 * tag + s]) → pd_D 400 a1 n1 B → wY_wrap_78 post (nI j) 0 (nI len) n1 (fun i => nI (t i)) a1 M O P := by
    intro B a1 n1 hB eB hD
    refine pk_le 8 j (fun z => ?_) (fun z => ?_)
    · refine fin B a1 n1 (by omega) ?_ hD
      unfold pd_LO
      rw [← eB, if_pos (by omega)]
    · refine pd_yput (len % 256) (pd_msk2 (by omega)) hD (by omega) (fun a2 n2 h => fin _ a2 n2 (by rw [pd_len1]; omega) ?_ h)
      unfold pd_LO
      rw [← eB, if_neg (by omega)]
  refine pd_yputb (128 + 4 * tag + s) e0 (by omega) (pd_D_nil 400 a) (by simp) (fun a1 n1 hD => ?_)
  refine pk_eq j 7 (fun z => ⟨pd_256, ?_⟩) (fun z => ?_)
  · refine pd_yputb (len / 256) ed (by omega) hD (by simp) (fun a2 n2 h => mid _ a2 n2 (by simp) ?_ h)
    rw [if_pos (by omega)]
  · refine mid _ a1 n1 (by simp) ?_ hD
    rw [if_neg (by omega)]
/-- the last piece of a new packet -/
def pd_TL (t : Nat → Nat) (len f : Nat) (L : List Nat) : List Nat := (if len - f < 24 then L ++ [len - f] else (L ++ [192]) ++ [len - f - 24]) ++ pd_sl t f (len - f)
theorem pd_TL_len (t : Nat → Nat) (len f : Nat) (L : List Nat) : (pd_TL t len f L).length ≤ L.length + 2 + len := by
  unfold pd_TL
  rw [pd_app, pd_sl_len]
  split
  all_goals simp
  all_goals omega
theorem pd_TL_By (ht : ∀ i, t i < 256) (hl : len ≤ 120) {f : Nat} (hL : pd_By L) : pd_By (pd_TL t len f L) := by
  unfold pd_TL
  refine pd_By_app ?_ (pd_sl_By ht _ _)
  split
  · exact pd_By_put hL (by omega)
  · exact pd_By_put (pd_By_put hL (by omega)) (by omega)
theorem pd_xtail {post : SX → Prop} (f : Nat) (hl : len ≤ 120) (hf : f ≤ len) (hL : L.length < 1000) (hD : pd_D 120 a n L) (H : ∀ a' n', pd_D 120 a' n' (pd_TL t len f L) → post (nI len, n', (fun i => nI (t i)), a', M, O, P)) : wX_draftNewPacket_24 post (nI f) (nI len) n (fun i => nI (t i)) a M O P := by
  have fin : ∀ (C : List Nat) a1 n1, C.length < 2000 → C ++ pd_sl t f (len - f) = pd_TL t len f L → pd_D 120 a1 n1 C → wX_draftNewPacket_65 post (nI f) (nI (len - f)) (nI len) n1 (fun i => nI (t i)) a1 M O P := by
    intro C a1 n1 hC eC hD
    refine pd_xpw f (len - f) rfl rfl (by omega) hD (by omega) (fun a2 n2 h => H a2 n2 ?_)
    rw [← eC]
    exact h
  refine nm_r (pk_sub hf) (pk_le 24 (len - f) (fun z => ?_) (fun z => ?_))
  · refine pd_xput 192 rfl hD (by omega) (fun a1 n1 h1 => ?_)
    refine pd_xput (len - f - 24) (pk_sub (b := 24) z) h1 (by rw [pd_len1]; omega) (fun a2 n2 h2 => fin _ a2 n2 (by rw [pd_len1, pd_len1]; omega) ?_ h2)
    unfold pd_TL
    rw [if_neg (by omega)]
  · refine pd_xput (len - f) rfl hD (by omega) (fun a1 n1 h1 => fin _ a1 n1 (by rw [pd_len1]; omega) ?_ h1)
    unfold pd_TL
    rw [if_pos z]
theorem pd_ytail {post : Int32 → SY → Prop} (ht : ∀ i, t i < 256) (f : Nat) (hl : len ≤ 120) (hf : f ≤ len) (hL : L.length < 500) (hD : pd_D 400 a n L) (H : pd_YK post (nI ((pd_TL t len f L).length - 0)) t len M O P (pd_TL t len f L) 0) : wY_wrap_154 post (nI f) (nI len) n (fun i => nI (t i)) a M O P := by
  have e : nI len - nI f = nI (len - f) := pk_sub hf
  have fin : ∀ (C : List Nat) a1 n1, C.length < 1000 → C ++ pd_sl t f (len - f) = pd_TL t len f L → pd_D 400 a1 n1 C → wY_wrap_198 post (nI f) (nI len) n1 (fun i => nI (t i)) a1 M O P := by
    intro C a1 n1 hC eC hD
    refine pd_yw198 ht f hl hf hC hD ?_
    rw [eC]
    exact H
  refine pk_le (len - f) 23 (fun z => ?_) (fun z => ?_) e
  · refine pd_yputb (len - f) e (by omega) hD (by omega) (fun a1 n1 h1 => fin _ a1 n1 (by rw [pd_len1]; omega) ?_ h1)
    unfold pd_TL
    rw [if_pos (by omega)]
  · refine pd_yputb 192 rfl (by decide) hD (by omega) (fun a1 n1 h1 => ?_)
    refine pd_yputb (len - f - 24) (by rw [e]; exact pk_sub (b := 24) (by omega)) (by omega) h1 (by rw [pd_len1]; omega) (fun a2 n2 h2 => fin _ a2 n2 (by rw [pd_len1, pd_len1]; omega) ?_ h2)
    unfold pd_TL
    rw [if_neg (by omega)]
end
/-- the pieces ahead: one list and one place for both -/
theorem pd_pcs {t : Nat → Nat} {M O P : Nat → Int64} {len k sz : Nat} (ht : ∀ i, t i < 256) (hl : len ≤ 120) (hk : k ≤ 4) (hs : 1 ≤ sz) (hs2 : sz ≤ 16) : ∀ (d f : Nat) (L : List Nat), len - f < d → f ≤ len → pd_By L → L.length ≤ 2 * f + 1 → ∃ (L' : List Nat) (f' : Nat), f' ≤ len ∧ pd_By L' ∧ L'.length ≤ 2 * f' + 1 ∧ (∀ (post : Int32 → SX → Prop) (m c : Nat) (a : Nat → Int32) (n : Int32), c ≤ f → len - f < m → pd_D 120 a n L → (∀ a' n', pd_D 120 a' n' L' → post (nI f') (nI len, n', (fun i => nI (t i)), a', M, O, P)) → wX_putPartialPieces_9 post (nI k) (nI sz) m (nI f) (nI c) (nI len) n (fun i => nI (t i)) a M O P) ∧ (∀ (post : Int32 → SY → Prop) (m : Nat) (a : Nat → Int32) (n : Int32), len - f < m → pd_D 400 a n L → (∀ a' n', pd_D 400 a' n' L' → wY_wrap_154 post (nI f') (nI len) n' (fun i => nI (t i)) a' M O P) → wY_wrap_111 post (nI (k + 1)) (nI sz) m (nI f) (nI len) n (fun i => nI (t i)) a M O P) := by
  intro d
  induction d with
  | zero => intro f L h; exact absurd h (Nat.not_lt_zero _)
  | succ d ih =>
    intro f L hd hf hB hL
    rcases Nat.lt_or_ge len (f + sz) with z | z
    · refine ⟨L, f, hf, hB, hL, ?_, ?_⟩
      · intro post m c a n hc hm hD H
        obtain ⟨m, rfl⟩ : ∃ m', m = m' + 1 := ⟨m - 1, by omega⟩
        refine pk_le 120 c (fun _ => H a n hD) (fun _ => ?_)
        exact br_t (by rw [nI_add]; exact nI_lt z (by omega)) (H a n hD)
      · intro post m a n hm hD H
        obtain ⟨m, rfl⟩ : ∃ m', m = m' + 1 := ⟨m - 1, by omega⟩
        exact br_f (nI_nle (by omega) (by omega)) (br_t (by rw [pk_sub hf]; exact nI_lt (by omega) (by omega)) (H a n hD))
    · obtain ⟨L', f', h1, h2, h3, hX, hY⟩ := ih (f + sz) ((L ++ [224 + k]) ++ pd_sl t f sz) (by omega) z (pd_By_app (pd_By_put hB (by omega)) (pd_sl_By ht _ _)) (by rw [pd_app, pd_len1, pd_sl_len]; omega)
      refine ⟨L', f', h1, h2, h3, ?_, ?_⟩
      · intro post m c a n hc hm hD H
        obtain ⟨m, rfl⟩ : ∃ m', m = m' + 1 := ⟨m - 1, by omega⟩
        refine br_f (nI_ge (b := 120) (by omega) (by decide)) (br_f (by rw [nI_add]; exact nI_nlt z (by omega)) ?_)
        refine pd_xput (224 + k) (nI_add 224 k) hD (by omega) (fun a1 n1 d1 => ?_)
        refine pd_xpw f sz rfl rfl (by omega) d1 (by rw [pd_len1]; omega) (fun a2 n2 d2 => ?_)
        exact nm_r (nI_add f sz) (nm_r (nI_1 c) (hX post m (c + 1) a2 n2 (by omega) (by omega) d2 H))
      · intro post m a n hm hD H
        obtain ⟨m, rfl⟩ : ∃ m', m = m' + 1 := ⟨m - 1, by omega⟩
        refine br_f (nI_nle (by omega) (by omega)) (br_f (by rw [pk_sub hf]; exact nI_nlt (by omega) (by omega)) ?_)
        refine pd_yputb (224 + k) ?_ (by omega) hD (by omega) (fun a1 n1 d1 => ?_)
        · have e : (224 : Int32) + nI (k + 1) = nI (224 + k + 1) := nI_add 224 (k + 1)
          rw [e]
          exact nI_pred _
        refine pd_ypw f sz rfl (nI_add f sz) ht (by omega) d1 (by rw [pd_len1]; omega) (fun a2 n2 d2 => ?_)
        exact nm_r (nI_add f sz) (hY post m a2 n2 (by omega) d2 H)
theorem pd_sz : ∀ k, k < 5 → (1 : Int32) <<< (nI k &&& 31) = nI (2 ^ k) ∧ 1 ≤ 2 ^ k ∧ 2 ^ k ≤ 16 := by decide +kernel
theorem pd_tag {x : Int32} (h : pd_bad 16 x ∨ x = nI 0) : x < 1 ∨ (¬ x < 1 ∧ 15 < x) := by
  rcases h with (z | ⟨j, h1, h2, rfl⟩) | rfl
  · exact Or.inl (Int32.lt_trans z (by decide))
  · exact Or.inr ⟨nI_nlt (b := 1) (by omega) h2, nI_lt (a := 15) (by omega) h2⟩
  · exact Or.inl (by decide)
theorem i_vc_wrap {k : Nat} {u : SX} {v : SY} (I : i_Rel k u v) (hk : k + 5 ≤ 2560) (v1 : Int32) (v2 : Int32) : wpX_wrap (fun r u' => wpY_wrap (fun r' v' => r' = r ∧ i_Rel (k + 5) u' v') v v1 v2) u v1 v2 := by
  have J := I
  obtain ⟨t, len, M, O, P, a, n, b, c, ht, hl, hK, rfl, rfl⟩ := I
  have hT : (pd_bad 16 v1 ∨ v1 = nI 0) ∨ ∃ j, 1 ≤ j ∧ j < 16 ∧ v1 = nI j := by
    rcases pd_cs 16 v1 with h | ⟨j, h1, _, rfl⟩
    · exact Or.inl (Or.inl h)
    · rcases Nat.eq_zero_or_pos j with z | z
      · subst z; exact Or.inl (Or.inr rfl)
      · exact Or.inr ⟨j, z, h1, rfl⟩
  rcases hT with h | ⟨tag, g1, g2, rfl⟩
  · rcases pd_tag h with z | ⟨z, y⟩
    · exact br_t z (br_t z ⟨rfl, J⟩)
    · exact br_f z (br_t y (br_f z (br_t y ⟨rfl, J⟩)))
  · have q1 : ¬ nI tag < 1 := nI_nlt (b := 1) g1 (by omega)
    have q2 : ¬ 15 < nI tag := nI_nlt (a := 15) (by omega) (by decide)
    rcases pd_cs 9 v2 with h | ⟨j, hj, _, rfl⟩
    · have hY : wpY_wrap (fun r' v' => r' = -1 ∧ i_Rel (k + 5) (nI len, n, (fun i => nI (t i)), a, M, O, P) v') (nI len, c, (fun i => nI (t i)), b, M, O, P) (nI tag) v2 := br_f q1 (br_f q2 (pd_yO1 9 rfl h (br_f pd_n10 ⟨rfl, J⟩)))
      rcases h with z | ⟨j, h1, h2, rfl⟩
      · exact br_f q1 (br_f q2 (br_t z hY))
      · exact br_f q1 (br_f q2 (br_f (nI_pos h2) (br_f (nI_ge (a := 8) (by omega) h2) hY)))
    · have q3 : ¬ nI j < 0 := nI_pos (by omega)
      have q4 : nI j ≤ 8 := nI_le (b := 8) (by omega) (by decide)
      rcases Nat.lt_or_ge 5 j with z | z
      · -- an old packet
        obtain ⟨s, hs, hs4, es8, esn⟩ : ∃ s, ((j = 6 ∧ s = 0) ∨ (j = 7 ∧ s = 1) ∨ (j = 8 ∧ s = 3)) ∧ s < 4 ∧ (nI j = 8 → s = 3) ∧ (¬ nI j = 8 → (nI j - 5) - 1 = nI s ∧ nI j - 6 = nI s) := by
          have : j = 6 ∨ j = 7 ∨ j = 8 := by omega
          rcases this with rfl | rfl | rfl
          · exact ⟨0, Or.inl ⟨rfl, rfl⟩, by omega, fun h => absurd h (by decide), fun _ => by decide⟩
          · exact ⟨1, Or.inr (Or.inl ⟨rfl, rfl⟩), by omega, fun h => absurd h (by decide), fun _ => by decide⟩
          · exact ⟨3, Or.inr (Or.inr ⟨rfl, rfl⟩), by omega, fun _ => rfl, fun h => absurd rfl h⟩
        have hlen := pd_LO_len t len tag s
        refine pd_fin (k + 5) (r := nI ((pd_LO t len tag s).length - 0)) (L := pd_LO t len tag s) (f := 0) ht hl hK (pd_LO_By ht hl g2 hs4) (fun post => wpX_wrap post (nI len, n, (fun i => nI (t i)), a, M, O, P) (nI tag) (nI j)) (fun post => wpY_wrap post (nI len, c, (fun i => nI (t i)), b, M, O, P) (nI tag) (nI j)) ?_ ?_
        · intro post H
          have fin : wX_wrap_59 post (nI s) (nI tag) (nI len) 0 (fun i => nI (t i)) a M O P := pd_xold hl tag s g2 hs4 (fun a' n' hD => pd_XKb (by omega) H hD)
          refine br_f q1 (br_f q2 (br_f q3 (br_t q4 (br_t (nI_lt (a := 5) z (by omega)) ⟨fun y => ?_, fun y => ?_⟩))))
          · rw [es8 y] at fin
            exact fin
          · rw [(esn y).1]
            exact fin
        · intro post H
          have fin : wY_wrap_56 post (nI j) 0 (nI s) (128 + 4 * nI tag) (nI len) 0 (fun i => nI (t i)) b M O P := pd_yold ht hl tag s j g2 hs H
          refine br_f q1 (br_f q2 (pd_yO0 9 rfl (by decide) hj (br_t rfl (br_f (nI_ge (a := 5) z (by omega)) ⟨fun y => ?_, fun y => ?_⟩))))
          · rw [es8 y] at fin
            exact fin
          · rw [(esn y).2]
            exact fin
      · -- a new packet
        have b1 : pd_By ([] ++ [192 + tag]) := pd_By_put pd_By_nil (by omega)
        rcases Nat.eq_zero_or_pos j with y | y
        · subst y
          have hlen := pd_TL_len t len 0 ([] ++ [192 + tag])
          have hl1 : ([] ++ [192 + tag]).length = 1 := rfl
          refine pd_fin (k + 5) (r := nI ((pd_TL t len 0 ([] ++ [192 + tag])).length - 0)) (L := pd_TL t len 0 ([] ++ [192 + tag])) (f := 0) ht hl hK (pd_TL_By ht hl b1) (fun post => wpX_wrap post (nI len, n, (fun i => nI (t i)), a, M, O, P) (nI tag) (nI 0)) (fun post => wpY_wrap post (nI len, c, (fun i => nI (t i)), b, M, O, P) (nI tag) (nI 0)) ?_ ?_
          · intro post H
            refine br_f q1 (br_f q2 (br_f q3 (br_t q4 (br_f (by decide) ?_))))
            unfold wpX_draftNewPacket
            dsimp only
            refine pd_xput (192 + tag) (nI_add 192 tag) (pd_D_nil 120 a) (by simp) (fun a1 n1 d1 => ?_)
            refine br_t (by decide) ?_
            exact pd_xtail 0 hl (by omega) (by omega) d1 (fun a2 n2 d2 => pd_XKb (by omega) H d2)
          · intro post H
            refine br_f q1 (br_f q2 (pd_yO0 9 rfl (by decide) hj (br_t rfl (br_t (by decide) ?_))))
            refine pd_yputb (192 + tag) (nI_add 192 tag) (by omega) (pd_D_nil 400 b) (by simp) (fun a1 n1 d1 => ?_)
            refine nm_e ⟨1, br_t (by decide) ?_⟩
            exact pd_ytail ht 0 hl (by omega) (by omega) d1 H
        · obtain ⟨i, rfl⟩ : ∃ i, j = i + 1 := ⟨j - 1, by omega⟩
          obtain ⟨esz, hs1, hs2⟩ := pd_sz i (by omega)
          have ei : nI (i + 1) - 1 = nI i := nI_pred i
          obtain ⟨L', f', h1, h2, h3, hX, hY⟩ := pd_pcs (M := M) (O := O) (P := P) (k := i) ht hl (by omega) hs1 hs2 (len + 1) 0 ([] ++ [192 + tag]) (by omega) (by omega) b1 (by simp)
          have hlen := pd_TL_len t len f' L'
          refine pd_fin (k + 5) (r := nI ((pd_TL t len f' L').length - 0)) (L := pd_TL t len f' L') (f := 0) ht hl hK (pd_TL_By ht hl h2) (fun post => wpX_wrap post (nI len, n, (fun i => nI (t i)), a, M, O, P) (nI tag) (nI (i + 1))) (fun post => wpY_wrap post (nI len, c, (fun i => nI (t i)), b, M, O, P) (nI tag) (nI (i + 1))) ?_ ?_
          · intro post H
            refine br_f q1 (br_f q2 (br_f q3 (br_t q4 (br_f (nI_nlt (a := 5) z (by decide)) ?_))))
            unfold wpX_draftNewPacket
            dsimp only
            refine pd_xput (192 + tag) (nI_add 192 tag) (pd_D_nil 120 a) (by simp) (fun a1 n1 d1 => ?_)
            refine br_f (nI_nle (by omega) (by omega)) ?_
            rw [ei]
            unfold wpX_putPartialPieces
            dsimp only
            refine nm_r esz ⟨len + 1, hX _ (len + 1) 0 a1 n1 (by omega) (by omega) d1 (fun a2 n2 d2 => ?_)⟩
            exact pd_xtail f' hl h1 (by omega) d2 (fun a3 n3 d3 => pd_XKb (by omega) H d3)
          · intro post H
            refine br_f q1 (br_f q2 (pd_yO0 9 rfl (by decide) hj (br_t rfl (br_t (nI_le (b := 5) z (by decide)) ?_))))
            refine pd_yputb (192 + tag) (nI_add 192 tag) (by omega) (pd_D_nil 400 b) (by simp) (fun a1 n1 d1 => ?_)
            refine nm_r (by rw [ei]; exact esz) ⟨len + 1, hY post (len + 1) a1 n1 (by omega) d1 (fun a2 n2 d2 => ?_)⟩
            exact pd_ytail ht f' hl h1 (by omega) d2 H
end
section
/-! unwrap -/
/-- the faults: X's answer c and what Y's inner call gives back, y -/
def pd_cy (len : Nat) (c y : Int32) : Prop := (c = -3 ∧ y = -3) ∨ (c = -4 ∧ y = -4) ∨ (c = -4 ∧ ∃ q, q < len ∧ y = nI q)
/-- the body of a packet: one fault, or one list -/
def pd_Bd (t : Nat → Nat) (len : Nat) (M O P : Nat → Int64) (A : (Int32 → SX → Prop) → Prop) (B : (Int32 → SY → Prop) → Prop) : Prop := (∃ c y : Int32, pd_cy len c y ∧ (∀ post, (∀ a' n', post c (nI len, n', (fun i => nI (t i)), a', M, O, P)) → A post) ∧ (∀ post, (∀ a' n', post y (nI len, n', (fun i => nI (t i)), a', M, O, P)) → B post)) ∨ (∃ L : List Nat, pd_By L ∧ L.length ≤ 120 ∧ (∀ post, (∀ a' n', pd_D 120 a' n' L → post 0 (nI len, n', (fun i => nI (t i)), a', M, O, P)) → A post) ∧ (∀ post, (∀ a' n', pd_D 400 a' n' L → post (nI len) (nI len, n', (fun i => nI (t i)), a', M, O, P)) → B post))
section
variable {n : Int32} {a : Nat → Int32} {t : Nat → Nat} {M O P : Nat → Int64} {L : List Nat} {len : Nat}
theorem pd_x52s {post : Int32 → SX → Prop} {J : Int32 → Int32 → Int32 → Int32 → (Nat → Int32) → (Nat → Int32) → (Nat → Int64) → (Nat → Int64) → (Nat → Int64) → Prop} {x : Int32} {h : Nat} (st sz : Nat) (hl : len ≤ 120) (h1 : 1 ≤ st) (h2 : st ≤ len) (hps : ∀ q : Int32 → Prop, q (nI sz) → wpX_pieceSize q (nI len, n, (fun i => nI (t i)), a, M, O, P) (nI h) (nI (t (st - 1)))) (hz : len < st + sz) (hs : sz < 1000) (H : post (-3) (nI len, n, (fun i => nI (t i)), a, M, O, P)) : wX_draftNewBody_52 post J x (nI h) (nI st) (nI len) n (fun i => nI (t i)) a M O P := by
  have e : nI st - 1 = nI (st - 1) := pk_sub (b := 1) h1
  refine br_t (nI_le h2 (by omega)) ⟨by rw [e]; exact vp_in_nI (by omega) (by decide), ?_⟩
  rw [e, nI_clamp (by omega)]
  refine hps _ ?_
  exact br_f (by rw [nI_add]; exact nI_ge hz (by omega)) H
theorem pd_x52g {post : Int32 → SX → Prop} {J : Int32 → Int32 → Int32 → Int32 → (Nat → Int32) → (Nat → Int32) → (Nat → Int64) → (Nat → Int64) → (Nat → Int64) → Prop} {x : Int32} {h : Nat} (st sz : Nat) (hl : len ≤ 120) (h1 : 1 ≤ st) (hps : ∀ q : Int32 → Prop, q (nI sz) → wpX_pieceSize q (nI len, n, (fun i => nI (t i)), a, M, O, P) (nI h) (nI (t (st - 1)))) (hz : st + sz ≤ len) (hD : pd_D 120 a n L) (hL : L.length < 1000) (H : ∀ a' n', pd_D 120 a' n' (L ++ pd_sl t st sz) → (((224 : Int32) ≤ nI h → ∀ y, y = x + 1 → J (nI (st + sz)) y (nI len) n' (fun i => nI (t i)) a' M O P) ∧ (¬ (224 : Int32) ≤ nI h → ((nI len ≤ nI (st + sz) → post 0 (nI len, n', (fun i => nI (t i)), a', M, O, P)) ∧ (¬ nI len ≤ nI (st + sz) → post (-4) (nI len, n', (fun i => nI (t i)), a', M, O, P)))))) : wX_draftNewBody_52 post J x (nI h) (nI st) (nI len) n (fun i => nI (t i)) a M O P := by
  have e : nI st - 1 = nI (st - 1) := pk_sub (b := 1) h1
  refine br_t (nI_le (by omega) (by omega)) ⟨by rw [e]; exact vp_in_nI (by omega) (by decide), ?_⟩
  rw [e, nI_clamp (by omega)]
  refine hps _ ?_
  refine br_t (by rw [nI_add]; exact nI_le hz (by omega)) ?_
  refine pd_xpw st sz rfl rfl (by omega) hD (by omega) (fun a' n' hD' => ?_)
  exact nm_r (nI_add st sz) (H a' n' hD')
theorem pd_y127s {post : Int32 → SY → Prop} {J : Int32 → Int32 → Int32 → Int32 → (Nat → Int32) → (Nat → Int32) → (Nat → Int64) → (Nat → Int64) → (Nat → Int64) → Prop} {x y : Int32} (st sz : Nat) (hy : y = nI sz) (hz : len < st + sz) (hs : st + sz < 1000) (H : post (-3) (nI len, n, (fun i => nI (t i)), a, M, O, P)) : wY_pieces_127 post J (nI st) x y (nI len) n (fun i => nI (t i)) a M O P := by
  subst hy
  exact br_f (by rw [nI_add]; exact nI_ge hz (by omega)) H
theorem pd_y127g {post : Int32 → SY → Prop} {J : Int32 → Int32 → Int32 → Int32 → (Nat → Int32) → (Nat → Int32) → (Nat → Int64) → (Nat → Int64) → (Nat → Int64) → Prop} {x y : Int32} (ht : ∀ i, t i < 256) (st sz : Nat) (hy : y = nI sz) (hl : len ≤ 120) (hz : st + sz ≤ len) (hD : pd_D 400 a n L) (hL : L.length < 1000) (H : ∀ a' n', pd_D 400 a' n' (L ++ pd_sl t st sz) → J (nI (st + sz)) x (nI len) n' (fun i => nI (t i)) a' M O P) : wY_pieces_127 post J (nI st) x y (nI len) n (fun i => nI (t i)) a M O P := by
  subst hy
  refine br_t (by rw [nI_add]; exact nI_le hz (by omega)) ?_
  refine pd_ypw st sz rfl (nI_add st sz) ht (by omega) hD (by omega) (fun a' n' hD' => ?_)
  exact nm_r (nI_add st sz) (H a' n' hD')
theorem pd_isz1 {post : Int32 → Prop} {h : Nat} (hh : h < 24 ∨ h = 192 ∨ (224 ≤ h ∧ h ≤ 228)) (H : post 1) : wpX_isSizeByte post (nI len, n, (fun i => nI (t i)), a, M, O, P) (nI h) :=
  pk_lt h 24 (fun _ => H) (fun z => pk_eq h 192 (fun _ => H) (fun y => br_f (nI_nlt (b := 224) (by omega) (by omega)) (br_f (nI_nlt (a := 228) (by omega) (by decide)) H)))
theorem pd_isz0 {post : Int32 → Prop} {h : Nat} (h256 : h < 256) (hh : ¬ (h < 24 ∨ h = 192 ∨ (224 ≤ h ∧ h ≤ 228))) (H : post 0) : wpX_isSizeByte post (nI len, n, (fun i => nI (t i)), a, M, O, P) (nI h) :=
  pk_lt h 24 (fun z => absurd (Or.inl z) hh) (fun z => pk_eq h 192 (fun z => absurd (Or.inr (Or.inl z)) hh) (fun y => pk_lt h 224 (fun _ => H) (fun x => pk_lt 228 h (fun _ => H) (fun q => absurd (Or.inr (Or.inr ⟨x, q⟩)) hh))))
end
theorem pd_224 : ∀ h, 224 ≤ h → h < 229 → (1 : Int32) <<< ((nI h - 224) &&& 31) = nI (2 ^ (h - 224)) ∧ 1 ≤ 2 ^ (h - 224) ∧ 2 ^ (h - 224) ≤ 16 := by
  intro h h1 h2
  have e : nI h - 224 = nI (h - 224) := pk_sub (b := 224) h1
  rw [e]
  exact pd_sz (h - 224) (by omega)
theorem pd_news {t : Nat → Nat} {M O P : Nat → Int64} {len : Nat} (ht : ∀ i, t i < 256) (hl : len ≤ 120) : ∀ (d f : Nat) (L : List Nat), len - f < d → 1 ≤ f → f ≤ len → pd_By L → L.length ≤ f → pd_Bd t len M O P (fun post => ∀ (m c : Nat) (a : Nat → Int32) (n : Int32), c < f → len - f < m → pd_D 120 a n L → wX_draftNewBody_4 post m (nI f) (nI c) (nI len) n (fun i => nI (t i)) a M O P) (fun post => ∀ (m : Nat) (a : Nat → Int32) (n : Int32), len - f + 1 < m → pd_D 400 a n L → wY_pieces_4 post m (nI f) 1 (nI len) n (fun i => nI (t i)) a M O P) := by
  intro d
  induction d with
  | zero => intro f L h; exact absurd h (Nat.not_lt_zero _)
  | succ d ih =>
    intro f L hd h1 hf hB hL
    rcases Nat.lt_or_ge f len with z | z
    · have hh : t f < 256 := ht f
      have ecl : (fun i => nI (t i)) (nI f).toNatClampNeg = nI (t f) := pd_cl (by omega)
      -- what both do before the byte is looked at
      have preX : ∀ (post : Int32 → SX → Prop) (m c : Nat) (a : Nat → Int32) (n : Int32), c < f → wpX_isSizeByte (fun r_5 => (((r_5 = 0 → (post (-4) (nI len, n, (fun i => nI (t i)), a, M, O, P))) ∧ (¬ r_5 = 0 → (((nI (t f) = 192 → (wX_draftNewBody_52 post (wX_draftNewBody_4 post m) (nI c) (nI (t f)) (nI f + 2) (nI len) n (fun i => nI (t i)) a M O P)) ∧ (¬ nI (t f) = 192 → (wX_draftNewBody_52 post (wX_draftNewBody_4 post m) (nI c) (nI (t f)) (nI f + 1) (nI len) n (fun i => nI (t i)) a M O P)))))))) (nI len, n, (fun i => nI (t i)), a, M, O, P) (nI (t f)) → wX_draftNewBody_4 post (m + 1) (nI f) (nI c) (nI len) n (fun i => nI (t i)) a M O P := by
        intro post m c a n hc H
        refine br_f (nI_ge (b := 120) (by omega) (by decide)) (br_f (nI_ge z (by omega)) ⟨vp_in_nI (by omega) (by decide), ?_⟩)
        exact nm_r ecl H
      have preY : ∀ (post : Int32 → SY → Prop) (m : Nat) (a : Nat → Int32) (n : Int32), ((nI (t f) ≤ 223 → (wY_pieces_47 post (wY_pieces_4 post m) (nI (f + 1)) (nI (t f)) (nI len) n (fun i => nI (t i)) a M O P)) ∧ (¬ nI (t f) ≤ 223 → (((229 ≤ nI (t f) → (wY_pieces_47 post (wY_pieces_4 post m) (nI (f + 1)) (nI (t f)) (nI len) n (fun i => nI (t i)) a M O P)) ∧ (¬ 229 ≤ nI (t f) → (wY_pieces_48 post (wY_pieces_4 post m) (nI (f + 1)) (nI (t f)) 1 (nI len) n (fun i => nI (t i)) a M O P)))))) → wY_pieces_4 post (m + 1) (nI f) 1 (nI len) n (fun i => nI (t i)) a M O P := by
        intro post m a n H
        refine br_f pd_n10 (br_f (fun q => absurd ((nI_eq (by omega) (by omega)).mp q) (by omega)) (nm_r (nI_1 f) ⟨vp_in_nI (by omega) (by decide), nm_r ecl H⟩))
      generalize ehd : t f = h at hh preX preY
      by_cases hz : h < 24 ∨ h = 192 ∨ (224 ≤ h ∧ h ≤ 228)
      · rcases Nat.lt_or_ge h 224 with g | g
        · -- the last piece: its start and its size
          have hcase : (h = 192 ∧ f + 1 = len) ∨ ∃ st sz, f + 1 ≤ st ∧ st ≤ len ∧ sz < 300 ∧ ((h = 192 ∧ st = f + 2 ∧ sz = 24 + t (f + 1)) ∨ (h < 24 ∧ st = f + 1 ∧ sz = h)) := by
            by_cases q : h = 192
            · rcases Nat.lt_or_ge (f + 1) len with y | y
              · exact Or.inr ⟨f + 2, 24 + t (f + 1), by omega, by omega, by have := ht (f + 1); omega, Or.inl ⟨q, rfl, rfl⟩⟩
              · exact Or.inl ⟨q, by omega⟩
            · exact Or.inr ⟨f + 1, h, by omega, by omega, by omega, Or.inr ⟨by omega, rfl, rfl⟩⟩
          rcases hcase with ⟨q, y⟩ | ⟨st, sz, s1, s2, s3, hs⟩
          · subst q
            refine Or.inl ⟨-3, -3, Or.inl ⟨rfl, rfl⟩, ?_, ?_⟩
            · intro post H m c a n hc hm hD
              obtain ⟨m, rfl⟩ : ∃ m', m = m' + 1 := ⟨m - 1, by omega⟩
              refine preX post m c a n hc ?_
              refine pd_isz1 (by omega) ?_
              have e : nI f + 2 = nI (f + 2) := nI_add f 2
              rw [e]
              exact br_f pd_n10 (br_t rfl (br_f (nI_ge (by omega) (by omega)) (H a n)))
            · intro post H m a n hm hD
              obtain ⟨m, rfl⟩ : ∃ m', m = m' + 1 := ⟨m - 1, by omega⟩
              refine preY post m a n ?_
              refine br_t (by decide) ?_
              unfold wY_pieces_47
              refine br_f (by decide) (br_t rfl ?_)
              exact br_t rfl (br_t (by rw [y]) (H a n))
          · have hpsX : ∀ (a : Nat → Int32) (n : Int32) (q : Int32 → Prop), q (nI sz) → wpX_pieceSize q (nI len, n, (fun i => nI (t i)), a, M, O, P) (nI h) (nI (t (st - 1))) := by
              intro a n q H
              refine br_t (nI_lt (b := 224) g (by decide)) ?_
              rcases hs with ⟨x1, x2, x3⟩ | ⟨x1, x2, x3⟩
              · subst x1
                refine br_t rfl ?_
                have e : (24 : Int32) + nI (t (st - 1)) = nI sz := by
                  rw [x3, x2]
                  exact nI_add 24 _
                rw [e]
                exact H
              · refine br_f (fun q => absurd ((nI_eq (b := 192) (by omega) (by decide)).mp q) (by omega)) ?_
                rw [← x3]
                exact H
            have stX : ∀ (post : Int32 → SX → Prop) (m c : Nat) (a : Nat → Int32) (n : Int32), c < f → wX_draftNewBody_52 post (wX_draftNewBody_4 post m) (nI c) (nI h) (nI st) (nI len) n (fun i => nI (t i)) a M O P → wX_draftNewBody_4 post (m + 1) (nI f) (nI c) (nI len) n (fun i => nI (t i)) a M O P := by
              intro post m c a n hc H
              refine preX post m c a n hc ?_
              refine pd_isz1 hz ?_
              have e2 : nI f + 2 = nI (f + 2) := nI_add f 2
              have e1 : nI f + 1 = nI (f + 1) := nI_add f 1
              rw [e1, e2]
              rcases hs with ⟨x1, x2, x3⟩ | ⟨x1, x2, x3⟩
              · subst x1
                subst x2
                exact br_f pd_n10 (br_t rfl H)
              · subst x2
                exact br_f pd_n10 (br_f (fun q => absurd ((nI_eq (b := 192) (by omega) (by decide)).mp q) (by omega)) H)
            have stY : ∀ (post : Int32 → SY → Prop) (m : Nat) (a : Nat → Int32) (n : Int32), (∀ y, y = nI sz → wY_pieces_127 post (wY_pieces_4 post m) (nI st) 0 y (nI len) n (fun i => nI (t i)) a M O P) → wY_pieces_4 post (m + 1) (nI f) 1 (nI len) n (fun i => nI (t i)) a M O P := by
              intro post m a n H
              refine preY post m a n ?_
              refine br_t (nI_le (b := 223) (by omega) (by decide)) ?_
              unfold wY_pieces_47
              rcases hs with ⟨x1, x2, x3⟩ | ⟨x1, x2, x3⟩
              · subst x1
                subst x2
                refine br_f (by decide) (br_t rfl ?_)
                refine br_t rfl (br_f (fun q => absurd ((nI_eq (by omega) (by omega)).mp q) (by omega)) ?_)
                refine br_t rfl (br_t rfl (nm_r (nI_1 (f + 1)) ⟨vp_in_nI (by omega) (by decide), ?_⟩))
                refine H _ ?_
                rw [pd_cl (by omega), x3]
                exact nI_add 24 _
              · subst x2
                have ne : ¬ nI h = 192 := fun q => absurd ((nI_eq (b := 192) (by omega) (by decide)).mp q) (by omega)
                refine br_t (nI_le (b := 23) (by omega) (by decide)) ?_
                refine br_f ne ?_
                refine br_t rfl (br_f ne ?_)
                exact H _ (by rw [x3])
            rcases Nat.lt_or_ge len (st + sz) with y | y
            · refine Or.inl ⟨-3, -3, Or.inl ⟨rfl, rfl⟩, ?_, ?_⟩
              · intro post H m c a n hc hm hD
                obtain ⟨m, rfl⟩ : ∃ m', m = m' + 1 := ⟨m - 1, by omega⟩
                refine stX post m c a n hc ?_
                exact pd_x52s st sz hl (by omega) s2 (hpsX a n) y (by omega) (H a n)
              · intro post H m a n hm hD
                obtain ⟨m, rfl⟩ : ∃ m', m = m' + 1 := ⟨m - 1, by omega⟩
                refine stY post m a n (fun x hx => ?_)
                exact pd_y127s st sz hx y (by omega) (H a n)
            · rcases Nat.lt_or_ge (st + sz) len with x | x
              · refine Or.inl ⟨-4, nI (st + sz), Or.inr (Or.inr ⟨rfl, st + sz, x, rfl⟩), ?_, ?_⟩
                · intro post H m c a n hc hm hD
                  obtain ⟨m, rfl⟩ : ∃ m', m = m' + 1 := ⟨m - 1, by omega⟩
                  refine stX post m c a n hc ?_
                  refine pd_x52g st sz hl (by omega) (hpsX a n) y hD (by omega) (fun a' n' _ => ?_)
                  exact br_f (nI_ge (b := 224) g (by decide)) (br_f (nI_ge x (by omega)) (H a' n'))
                · intro post H m a n hm hD
                  obtain ⟨m, rfl⟩ : ∃ m', m = m' + 2 := ⟨m - 2, by omega⟩
                  refine stY post (m + 1) a n (fun w hw => ?_)
                  refine pd_y127g ht st sz hw hl y hD (by omega) (fun a' n' _ => ?_)
                  exact br_t rfl (H a' n')
              · have e : st + sz = len := by omega
                refine Or.inr ⟨L ++ pd_sl t st sz, pd_By_app hB (pd_sl_By ht _ _), by rw [pd_app, pd_sl_len]; omega, ?_, ?_⟩
                · intro post H m c a n hc hm hD
                  obtain ⟨m, rfl⟩ : ∃ m', m = m' + 1 := ⟨m - 1, by omega⟩
                  refine stX post m c a n hc ?_
                  refine pd_x52g st sz hl (by omega) (hpsX a n) y hD (by omega) (fun a' n' hD' => ?_)
                  exact br_f (nI_ge (b := 224) g (by decide)) (br_t (nI_le x (by omega)) (H a' n' hD'))
                · intro post H m a n hm hD
                  obtain ⟨m, rfl⟩ : ∃ m', m = m' + 2 := ⟨m - 2, by omega⟩
                  refine stY post (m + 1) a n (fun w hw => ?_)
                  refine pd_y127g ht st sz hw hl y hD (by omega) (fun a' n' hD' => ?_)
                  have q := H a' n' hD'
                  rw [← e] at q
                  rw [← e]
                  exact br_t rfl q
        · -- a piece ahead of others
          have g2 : h < 229 := by omega
          obtain ⟨esz, z1, z2⟩ := pd_224 h g g2
          generalize 2 ^ (h - 224) = sz at esz z1 z2
          have ne : ¬ nI h = 192 := fun q => absurd ((nI_eq (b := 192) (by omega) (by decide)).mp q) (by omega)
          have hpsX : ∀ (a : Nat → Int32) (n : Int32) (q : Int32 → Prop), q (nI sz) → wpX_pieceSize q (nI len, n, (fun i => nI (t i)), a, M, O, P) (nI h) (nI (t (f + 1 - 1))) := by
            intro a n q H
            refine br_f (nI_nlt (b := 224) g (by omega)) ?_
            rw [esz]
            exact H
          have stX : ∀ (post : Int32 → SX → Prop) (m c : Nat) (a : Nat → Int32) (n : Int32), c < f → wX_draftNewBody_52 post (wX_draftNewBody_4 post m) (nI c) (nI h) (nI (f + 1)) (nI len) n (fun i => nI (t i)) a M O P → wX_draftNewBody_4 post (m + 1) (nI f) (nI c) (nI len) n (fun i => nI (t i)) a M O P := by
            intro post m c a n hc H
            refine preX post m c a n hc ?_
            refine pd_isz1 hz ?_
            have e1 : nI f + 1 = nI (f + 1) := nI_add f 1
            rw [e1]
            exact br_f pd_n10 (br_f ne H)
          have stY : ∀ (post : Int32 → SY → Prop) (m : Nat) (a : Nat → Int32) (n : Int32), (∀ y, y = nI sz → wY_pieces_127 post (wY_pieces_4 post m) (nI (f + 1)) 1 y (nI len) n (fun i => nI (t i)) a M O P) → wY_pieces_4 post (m + 1) (nI f) 1 (nI len) n (fun i => nI (t i)) a M O P := by
            intro post m a n H
            refine preY post m a n ?_
            refine br_f (nI_ge (a := 223) (by omega) (by omega)) (br_f (nI_ge (b := 229) g2 (by decide)) ?_)
            refine br_f (nI_ge (a := 23) (by omega) (by omega)) (br_f ne (br_f pd_n10 ?_))
            refine br_f ne ?_
            exact br_f pd_n10 (H _ esz)
          rcases Nat.lt_or_ge len (f + 1 + sz) with y | y
          · refine Or.inl ⟨-3, -3, Or.inl ⟨rfl, rfl⟩, ?_, ?_⟩
            · intro post H m c a n hc hm hD
              obtain ⟨m, rfl⟩ : ∃ m', m = m' + 1 := ⟨m - 1, by omega⟩
              refine stX post m c a n hc ?_
              exact pd_x52s (f + 1) sz hl (by omega) (by omega) (hpsX a n) y (by omega) (H a n)
            · intro post H m a n hm hD
              obtain ⟨m, rfl⟩ : ∃ m', m = m' + 1 := ⟨m - 1, by omega⟩
              refine stY post m a n (fun x hx => ?_)
              exact pd_y127s (f + 1) sz hx y (by omega) (H a n)
          · have goX : ∀ (post : Int32 → SX → Prop), (∀ (m c : Nat) (a : Nat → Int32) (n : Int32), c < f + 1 + sz → len - (f + 1 + sz) < m → pd_D 120 a n (L ++ pd_sl t (f + 1) sz) → wX_draftNewBody_4 post m (nI (f + 1 + sz)) (nI c) (nI len) n (fun i => nI (t i)) a M O P) → ∀ (m c : Nat) (a : Nat → Int32) (n : Int32), c < f → len - f < m → pd_D 120 a n L → wX_draftNewBody_4 post m (nI f) (nI c) (nI len) n (fun i => nI (t i)) a M O P := by
              intro post H m c a n hc hm hD
              obtain ⟨m, rfl⟩ : ∃ m', m = m' + 1 := ⟨m - 1, by omega⟩
              refine stX post m c a n hc ?_
              refine pd_x52g (f + 1) sz hl (by omega) (hpsX a n) y hD (by omega) (fun a' n' hD' => ?_)
              exact br_t (nI_le (a := 224) g (by omega)) (nm_r (nI_1 c) (H m (c + 1) a' n' (by omega) (by omega) hD'))
            have goY : ∀ (post : Int32 → SY → Prop), (∀ (m : Nat) (a : Nat → Int32) (n : Int32), len - (f + 1 + sz) + 1 < m → pd_D 400 a n (L ++ pd_sl t (f + 1) sz) → wY_pieces_4 post m (nI (f + 1 + sz)) 1 (nI len) n (fun i => nI (t i)) a M O P) → ∀ (m : Nat) (a : Nat → Int32) (n : Int32), len - f + 1 < m → pd_D 400 a n L → wY_pieces_4 post m (nI f) 1 (nI len) n (fun i => nI (t i)) a M O P := by
              intro post H m a n hm hD
              obtain ⟨m, rfl⟩ : ∃ m', m = m' + 1 := ⟨m - 1, by omega⟩
              refine stY post m a n (fun x hx => ?_)
              refine pd_y127g ht (f + 1) sz hx hl y hD (by omega) (fun a' n' hD' => ?_)
              exact H m a' n' (by omega) hD'
            rcases ih (f + 1 + sz) (L ++ pd_sl t (f + 1) sz) (by omega) (by omega) y (pd_By_app hB (pd_sl_By ht _ _)) (by rw [pd_app, pd_sl_len]; omega) with ⟨c, y', hc, hX, hY⟩ | ⟨L', hB', hL', hX, hY⟩
            · exact Or.inl ⟨c, y', hc, fun post H => goX post (hX post H), fun post H => goY post (hY post H)⟩
            · exact Or.inr ⟨L', hB', hL', fun post H => goX post (hX post H), fun post H => goY post (hY post H)⟩
      · -- no size
        refine Or.inl ⟨-4, -4, Or.inr (Or.inl ⟨rfl, rfl⟩), ?_, ?_⟩
        · intro post H m c a n hc hm hD
          obtain ⟨m, rfl⟩ : ∃ m', m = m' + 1 := ⟨m - 1, by omega⟩
          refine preX post m c a n hc ?_
          refine pd_isz0 hh hz ?_
          exact br_t rfl (H a n)
        · intro post H m a n hm hD
          obtain ⟨m, rfl⟩ : ∃ m', m = m' + 1 := ⟨m - 1, by omega⟩
          refine preY post m a n ?_
          have ne : ¬ nI h = 192 := fun q => absurd ((nI_eq (b := 192) (by omega) (by decide)).mp q) (by omega)
          have fin : wY_pieces_47 post (wY_pieces_4 post m) (nI (f + 1)) (nI h) (nI len) n (fun i => nI (t i)) a M O P := by
            unfold wY_pieces_47
            exact br_f (nI_ge (a := 23) (by omega) (by omega)) (br_f ne (br_t rfl (H a n)))
          exact pk_le h 223 (fun _ => fin) (fun x => br_t (nI_le (a := 229) (by omega) (by omega)) fin)
    · have e : f = len := by omega
      subst e
      refine Or.inl ⟨-3, -3, Or.inl ⟨rfl, rfl⟩, ?_, ?_⟩
      · intro post H m c a n hc hm hD
        obtain ⟨m, rfl⟩ : ∃ m', m = m' + 1 := ⟨m - 1, by omega⟩
        exact pk_le 120 c (fun _ => H a n) (fun _ => br_t (nI_le (Nat.le_refl _) (by omega)) (H a n))
      · intro post H m a n hm hD
        obtain ⟨m, rfl⟩ : ∃ m', m = m' + 1 := ⟨m - 1, by omega⟩
        exact br_f pd_n10 (br_t rfl (H a n))
end
section
/-! unwrap: old packets, and the call itself -/
theorem pd_olds {t : Nat → Nat} {M O P : Nat → Int64} {len : Nat} (ht : ∀ i, t i < 256) (hl : len ≤ 120) (h0 : 1 ≤ len) (s : Nat) (hs : s = 0 ∨ s = 1 ∨ s = 3) : pd_Bd t len M O P (fun post => ∀ a : Nat → Int32, wpX_draftOldBody post (nI len, 0, (fun i => nI (t i)), a, M, O, P) (nI s)) (fun post => ∀ a : Nat → Int32, wpY_old post (nI len, 0, (fun i => nI (t i)), a, M, O, P) (nI s)) := by
  obtain ⟨st, sz, hst, hsz, h12⟩ : ∃ st sz : Nat, 1 ≤ st ∧ sz < 66000 ∧ ((s = 0 ∧ st = 2 ∧ sz = t 1) ∨ (s = 1 ∧ st = 3 ∧ sz = t 1 * 256 + t 2) ∨ (s = 3 ∧ st = 1 ∧ sz = len - 1)) := by
    have a1 := ht 1
    have a2 := ht 2
    rcases hs with rfl | rfl | rfl
    · exact ⟨2, t 1, by omega, by omega, Or.inl ⟨rfl, rfl, rfl⟩⟩
    · exact ⟨3, t 1 * 256 + t 2, by omega, by omega, Or.inr (Or.inl ⟨rfl, rfl, rfl⟩)⟩
    · exact ⟨1, len - 1, by omega, by omega, Or.inr (Or.inr ⟨rfl, rfl, rfl⟩)⟩
  have toX : ∀ (post : Int32 → SX → Prop) (a : Nat → Int32), wX_draftOldBody_12 post (nI s) (nI st) (nI len) 0 (fun i => nI (t i)) a M O P → wpX_draftOldBody post (nI len, 0, (fun i => nI (t i)), a, M, O, P) (nI s) := by
    intro post a H
    rcases h12 with ⟨x1, x2, x3⟩ | ⟨x1, x2, x3⟩ | ⟨x1, x2, x3⟩
    · subst x1 x2
      exact br_f (by decide) H
    · subst x1 x2
      exact br_f (by decide) H
    · subst x1 x2
      exact br_t rfl H
  have toY : ∀ (post : Int32 → SY → Prop) (a : Nat → Int32), wY_old_12 post (nI s) (nI st) (nI len) 0 (fun i => nI (t i)) a M O P → wpY_old post (nI len, 0, (fun i => nI (t i)), a, M, O, P) (nI s) := by
    intro post a H
    rcases h12 with ⟨x1, x2, x3⟩ | ⟨x1, x2, x3⟩ | ⟨x1, x2, x3⟩
    · subst x1 x2
      exact br_f (by decide) H
    · subst x1 x2
      exact br_f (by decide) H
    · subst x1 x2
      exact br_t rfl H
  rcases Nat.lt_or_ge len st with z | z
  · refine Or.inl ⟨-3, -3, Or.inl ⟨rfl, rfl⟩, ?_, ?_⟩
    · intro post H a
      refine toX post a ?_
      exact br_f (nI_ge z (by omega)) (H a 0)
    · intro post H a
      refine toY post a ?_
      exact br_f (nI_ge z (by omega)) (H a 0)
  · have e1 : nI len - 1 = nI (len - 1) := pk_sub (b := 1) h0
    have eX : nI (t 1) * 256 + nI (t 2) = nI (t 1 * 256 + t 2) := by
      rw [← nI_add, ← pk_mul]
      rfl
    have eY : 256 * nI (t 1) + nI (t 2) = nI (t 1 * 256 + t 2) := by
      rw [← nI_add, Nat.mul_comm, ← pk_mul]
      rfl
    have mX : ∀ (post : Int32 → SX → Prop) (a : Nat → Int32), wX_draftOldBody_68 post (nI st) (nI sz) (nI len) 0 (fun i => nI (t i)) a M O P → wpX_draftOldBody post (nI len, 0, (fun i => nI (t i)), a, M, O, P) (nI s) := by
      intro post a H
      refine toX post a ?_
      refine br_t (nI_le z (by omega)) (nm_r e1 ?_)
      rcases h12 with ⟨x1, x2, x3⟩ | ⟨x1, x2, x3⟩ | ⟨x1, x2, x3⟩
      · subst x1 x2 x3
        exact br_t rfl (nm_e H)
      · subst x1 x2 x3
        exact br_f (by decide) (br_t rfl (nm_r eX H))
      · subst x1 x2 x3
        exact br_f (by decide) (br_f (by decide) H)
    have mY : ∀ (post : Int32 → SY → Prop) (a : Nat → Int32), wY_old_68 post (nI st) (nI sz) (nI len) 0 (fun i => nI (t i)) a M O P → wpY_old post (nI len, 0, (fun i => nI (t i)), a, M, O, P) (nI s) := by
      intro post a H
      refine toY post a ?_
      refine br_t (nI_le z (by omega)) ?_
      rcases h12 with ⟨x1, x2, x3⟩ | ⟨x1, x2, x3⟩ | ⟨x1, x2, x3⟩
      · subst x1 x2 x3
        exact br_f (by decide) (br_t rfl H)
      · subst x1 x2 x3
        rw [← eY] at H
        exact br_f (by decide) (br_f (by decide) H)
      · subst x1 x2 x3
        rw [← e1] at H
        exact br_t rfl H
    have ea : nI st + nI sz = nI (st + sz) := nI_add st sz
    rcases Nat.lt_or_ge len (st + sz) with y | y
    · refine Or.inl ⟨-3, -3, Or.inl ⟨rfl, rfl⟩, ?_, ?_⟩
      · intro post H a
        refine mX post a ?_
        exact br_f (by rw [ea]; exact nI_ge y (by omega)) (H a 0)
      · intro post H a
        refine mY post a ?_
        exact br_f (by rw [ea]; exact nI_ge y (by omega)) (H a 0)
    · have goY : ∀ (post : Int32 → SY → Prop) (a : Nat → Int32), (∀ a' n', pd_D 400 a' n' ([] ++ pd_sl t st sz) → post (nI (st + sz)) (nI len, n', (fun i => nI (t i)), a', M, O, P)) → wpY_old post (nI len, 0, (fun i => nI (t i)), a, M, O, P) (nI s) := by
        intro post a H
        refine mY post a ?_
        refine br_t (by rw [ea]; exact nI_le y (by omega)) ?_
        refine pd_ypw st sz rfl ea ht (by omega) (pd_D_nil 400 a) (by simp) (fun a' n' hD => ?_)
        have q := H a' n' hD
        rw [← ea] at q
        exact q
      rcases Nat.lt_or_ge (st + sz) len with x | x
      · refine Or.inl ⟨-4, nI (st + sz), Or.inr (Or.inr ⟨rfl, st + sz, x, rfl⟩), ?_, ?_⟩
        · intro post H a
          refine mX post a ?_
          exact br_t (by rw [ea]; exact nI_le y (by omega)) (br_f (by rw [ea]; exact nI_ge x (by omega)) (H a 0))
        · intro post H a
          exact goY post a (fun a' n' _ => H a' n')
      · have e : st + sz = len := by omega
        refine Or.inr ⟨[] ++ pd_sl t st sz, pd_By_app pd_By_nil (pd_sl_By ht _ _), by rw [pd_app, pd_sl_len]; simp; omega, ?_, ?_⟩
        · intro post H a
          refine mX post a ?_
          refine br_t (by rw [ea]; exact nI_le y (by omega)) (br_t (by rw [ea]; exact nI_le x (by omega)) ?_)
          refine pd_xpw st sz rfl rfl (by omega) (pd_D_nil 120 a) (by simp) (fun a' n' hD => ?_)
          exact H a' n' hD
        · intro post H a
          refine goY post a (fun a' n' hD => ?_)
          rw [e]
          exact H a' n' hD
section
variable {n : Int32} {a : Nat → Int32} {t : Nat → Nat} {M O P : Nat → Int64} {L : List Nat} {len : Nat}
theorem pd_y135L {post : Int32 → SY → Prop} {x : Int32} (hL : L.length ≤ 120) (hD : pd_D 400 a (nI L.length) L) (H : post x (nI L.length, nI L.length, (fun i => nI (pd_kp t L 0 i)), a, M, O, P)) : ∀ (d i m : Nat), i + d = L.length → d < m → wY_unwrap_135 post x (nI L.length) (nI L.length) m (nI i) (pd_kc (fun i => nI (t i)) L 0 i) a M O P := by
  intro d
  induction d with
  | zero =>
    intro i m hi hm
    obtain ⟨m, rfl⟩ : ∃ m', m = m' + 1 := ⟨m - 1, by omega⟩
    have e : i = L.length - 0 := by omega
    have e2 := pd_kc_e t L 0
    rw [← e] at e2
    refine br_t (nI_le (by omega) (by omega)) ?_
    rw [e2]
    exact H
  | succ d ih =>
    intro i m hi hm
    obtain ⟨m, rfl⟩ : ∃ m', m = m' + 1 := ⟨m - 1, by omega⟩
    refine br_f (nI_ge (by omega) (by omega)) ⟨vp_in_nI (by omega) (by decide), vp_in_nI (by omega) (by decide), ?_⟩
    refine nm_r (e' := pd_kc (fun i => nI (t i)) L 0 (i + 1)) ?_ (nm_r (nI_1 i) (ih (i + 1) m (by omega) (by omega)))
    rw [nI_clamp (by omega), hD.2 i (by omega) (by omega)]
    exact pd_kc_s _ L 0 i
theorem pd_y102k {post : Int32 → SY → Prop} {x : Int32} (hl : len ≤ 120) (hL : L.length ≤ 120) (hD : pd_D 400 a n L) (H : post x (nI (L.length - 0), n, (fun i => nI (pd_kp t L 0 i)), a, M, O, P)) : wY_unwrap_102 post x (nI len) (nI len) n (fun i => nI (t i)) a M O P := by
  have e := hD.1
  subst e
  refine br_t (nI_pos' (by omega)) (br_t (nI_le (Nat.le_refl _) (by omega)) ⟨L.length + 1, ?_⟩)
  have q := pd_y135L hL hD H L.length 0 (L.length + 1) (by omega) (by omega)
  rw [pd_kc_0] at q
  exact q
theorem pd_y102c {post : Int32 → SY → Prop} {x c y : Int32} (hl : len ≤ 120) (h : pd_cy len c y) (H : post c (nI len, n, (fun i => nI (t i)), a, M, O, P)) : wY_unwrap_102 post x y (nI len) n (fun i => nI (t i)) a M O P := by
  rcases h with ⟨rfl, rfl⟩ | ⟨rfl, rfl⟩ | ⟨rfl, q, hq, rfl⟩
  · exact br_f (by decide) H
  · exact br_f (by decide) H
  · exact br_t (nI_pos' (by omega)) (br_f (nI_ge hq (by omega)) H)
theorem pd_x107k {post : Int32 → SX → Prop} {x : Int32} (hL : L.length ≤ 120) (hD : pd_D 120 a n L) (H : post x (nI (L.length - 0), n, (fun i => nI (pd_kp t L 0 i)), a, M, O, P)) : wX_unwrap_107 post x 0 (nI len) n (fun i => nI (t i)) a M O P := by
  refine br_t (by decide) ?_
  refine pd_xkeep 0 rfl (by omega) (by omega) hD (fun z => absurd z (by omega)) (fun _ => ?_)
  exact H
theorem pd_x107c {post : Int32 → SX → Prop} {x c y : Int32} (h : pd_cy len c y) (H : post c (nI len, n, (fun i => nI (t i)), a, M, O, P)) : wX_unwrap_107 post x c (nI len) n (fun i => nI (t i)) a M O P := by
  rcases h with ⟨rfl, rfl⟩ | ⟨rfl, rfl⟩ | ⟨rfl, q, hq, rfl⟩
  · exact br_f (by decide) H
  · exact br_f (by decide) H
  · exact br_f (by decide) H
end
theorem i_vc_unwrap {k : Nat} {u : SX} {v : SY} (I : i_Rel k u v) (hk : k + 5 ≤ 2560) : wpX_unwrap (fun r u' => wpY_unwrap (fun r' v' => r' = r ∧ i_Rel (k + 5) u' v') v) u := by
  have J := I
  obtain ⟨t, len, M, O, P, a, n, b, c, ht, hl, hK, rfl, rfl⟩ := I
  rcases Nat.eq_zero_or_pos len with z | z
  · subst z
    exact br_t rfl (br_t rfl ⟨rfl, J⟩)
  · have n0 : ¬ nI len = 0 := nI_ne0 z (by omega)
    have hh := ht 0
    have e0 : (fun i => nI (t i)) 0 = nI (t 0) := rfl
    have startX : ∀ post, (nI (t 0) < 192 → wX_unwrap_29 post (nI (t 0)) 0 (nI len) n (fun i => nI (t i)) a M O P) ∧ (¬ nI (t 0) < 192 → wX_unwrap_29 post (nI (t 0)) 1 (nI len) n (fun i => nI (t i)) a M O P) → wpX_unwrap post (nI len, n, (fun i => nI (t i)), a, M, O, P) := fun post H => br_f n0 (nm_r e0 H)
    have startY : ∀ post, (nI (t 0) ≤ 191 → wY_unwrap_29 post (nI (t 0)) 0 (nI len) c (fun i => nI (t i)) b M O P) ∧ (¬ nI (t 0) ≤ 191 → wY_unwrap_29 post (nI (t 0)) 1 (nI len) c (fun i => nI (t i)) b M O P) → wpY_unwrap post (nI len, c, (fun i => nI (t i)), b, M, O, P) := fun post H => br_f n0 (nm_r e0 H)
    generalize t 0 = h at hh startX startY
    have bad : (∀ post, post (-1) (nI len, n, (fun i => nI (t i)), a, M, O, P) → wpX_unwrap post (nI len, n, (fun i => nI (t i)), a, M, O, P)) → (∀ post, post (-1) (nI len, c, (fun i => nI (t i)), b, M, O, P) → wpY_unwrap post (nI len, c, (fun i => nI (t i)), b, M, O, P)) → wpX_unwrap (fun r u' => wpY_unwrap (fun r' v' => r' = r ∧ i_Rel (k + 5) u' v') (nI len, c, (fun i => nI (t i)), b, M, O, P)) (nI len, n, (fun i => nI (t i)), a, M, O, P) := fun hX hY => hX _ (hY _ ⟨rfl, J⟩)
    rcases Nat.lt_or_ge h 192 with g | g
    · have lt192 : nI h < 192 := nI_lt (b := 192) g (by decide)
      have le191 : nI h ≤ 191 := nI_le (b := 191) (by omega) (by decide)
      have e3 : nI h &&& 3 = nI (h % 4) := pk_andN (by omega) 2 (by decide)
      rcases Nat.lt_or_ge h 128 with g2 | g2
      · refine bad (fun post H => startX post (br_t lt192 ?_)) (fun post H => startY post (br_t le191 ?_))
        · exact nm_e (br_t rfl (br_t (nI_lt (b := 128) g2 (by decide)) H))
        · exact br_t rfl (br_t (nI_lt (b := 128) g2 (by decide)) H)
      · have nlt : ¬ nI h < 128 := nI_nlt (b := 128) g2 (by omega)
        have eX : (nI h - 128) >>> ((2 : Int32) &&& 31) = nI ((h - 128) / 4) := by
          have e : nI h - 128 = nI (h - 128) := pk_sub (b := 128) g2
          rw [e]
          exact pk_shrN (by omega) _ 2 (by decide)
        have eY : (nI h >>> ((2 : Int32) &&& 31)) &&& 15 = nI ((h - 128) / 4) := by
          have e : nI h >>> ((2 : Int32) &&& 31) = nI (h / 4) := pk_shrN (by omega) _ 2 (by decide)
          rw [e, pk_andN (by omega) 4 (by decide), show h / 4 % 2 ^ 4 = (h - 128) / 4 by omega]
        have s1 : ∀ post, wX_unwrap_53 post (nI h) 0 (nI (h % 4)) (nI ((h - 128) / 4)) (nI len) n (fun i => nI (t i)) a M O P → wpX_unwrap post (nI len, n, (fun i => nI (t i)), a, M, O, P) := by
          intro post H
          refine startX post (br_t lt192 ?_)
          refine nm_r e3 (br_t rfl ?_)
          rw [eX]
          exact H
        have s2 : ∀ post, wY_unwrap_48 post (nI h) 0 (nI ((h - 128) / 4)) (nI len) c (fun i => nI (t i)) b M O P → wpY_unwrap post (nI len, c, (fun i => nI (t i)), b, M, O, P) := by
          intro post H
          refine startY post (br_t le191 ?_)
          refine br_t rfl ?_
          rw [eY]
          exact H
        have hs4 : h % 4 < 4 := Nat.mod_lt _ (by decide)
        have h16 : (h - 128) / 4 < 16 := by omega
        generalize (h - 128) / 4 = tag at s1 s2 h16
        rcases Nat.eq_zero_or_pos tag with y | y
        · subst y
          refine bad (fun post H => s1 post ?_) (fun post H => s2 post ?_)
          · exact br_f nlt (br_t (by decide) H)
          · exact br_f nlt (br_t rfl H)
        · have t1 : ¬ nI tag < 1 := nI_nlt (b := 1) y (by omega)
          have t0 : ¬ nI tag = 0 := nI_ne0 y (by omega)
          have t15 : ¬ 15 < nI tag := nI_nlt (a := 15) (by omega) (by decide)
          rw [← e3] at s1
          by_cases x : h % 4 = 2
          · have e32 : nI h &&& 3 = 2 := by rw [e3, x]; rfl
            refine bad (fun post H => s1 post ?_) (fun post H => s2 post ?_)
            · exact br_f nlt (br_f t1 (br_f t15 (br_t rfl (br_t e32 H))))
            · exact br_f nlt (br_f t0 (br_f t15 (br_t rfl (br_t e32 H))))
          · have e32 : ¬ nI h &&& 3 = 2 := by
              rw [e3]
              intro q
              exact absurd ((nI_eq (b := 2) (by omega) (by decide)).mp q) x
            have r1 : ∀ post, wX_unwrap_86 post 0 (nI (h % 4)) (nI tag) (nI len) n (fun i => nI (t i)) a M O P → wpX_unwrap post (nI len, n, (fun i => nI (t i)), a, M, O, P) := by
              intro post H
              refine s1 post ?_
              rw [← e3] at H
              exact br_f nlt (br_f t1 (br_f t15 (br_t rfl (br_f e32 H))))
            have r2 : ∀ post, wY_unwrap_79 post (nI h) 0 (nI tag) (nI len) c (fun i => nI (t i)) b M O P → wpY_unwrap post (nI len, c, (fun i => nI (t i)), b, M, O, P) := by
              intro post H
              refine s2 post ?_
              exact br_f nlt (br_f t0 (br_f t15 (br_t rfl (br_f e32 H))))
            rcases pd_olds (M := M) (O := O) (P := P) ht hl z (h % 4) (by omega) with ⟨cc, yy, hcy, hX, hY⟩ | ⟨L, hB, hL, hX, hY⟩
            · refine pd_finC (k + 5) (r := cc) ht hl hK (fun post => wpX_unwrap post (nI len, n, (fun i => nI (t i)), a, M, O, P)) (fun post => wpY_unwrap post (nI len, c, (fun i => nI (t i)), b, M, O, P)) ?_ ?_
              · intro post H
                refine r1 post (br_t rfl ?_)
                refine hX _ ?_ a
                intro a' n'
                exact pd_x107c hcy (H a' n')
              · intro post H
                refine r2 post (br_t rfl ?_)
                rw [e3]
                refine hY _ ?_ b
                intro a' n'
                exact pd_y102c hl hcy (H a' n')
            · refine pd_fin (k + 5) (r := nI tag) (L := L) (f := 0) ht hl hK hB (fun post => wpX_unwrap post (nI len, n, (fun i => nI (t i)), a, M, O, P)) (fun post => wpY_unwrap post (nI len, c, (fun i => nI (t i)), b, M, O, P)) ?_ ?_
              · intro post H
                refine r1 post (br_t rfl ?_)
                refine hX _ ?_ a
                intro a' n' hD
                exact pd_x107k hL hD ((H a' n').2 hL)
              · intro post H
                refine r2 post (br_t rfl ?_)
                rw [e3]
                refine hY _ ?_ b
                intro a' n' hD
                exact pd_y102k hl hL hD ((H a' n').2 hL)
    · have nlt192 : ¬ nI h < 192 := nI_nlt (b := 192) g (by omega)
      have nle191 : ¬ nI h ≤ 191 := nI_ge (a := 191) (by omega) (by omega)
      have nlt : ¬ nI h < 128 := nI_nlt (b := 128) (by omega) (by omega)
      have et : nI h - 192 = nI (h - 192) := pk_sub (b := 192) g
      have s1 : ∀ post, (∀ x3, wX_unwrap_53 post (nI h) 1 x3 (nI (h - 192)) (nI len) n (fun i => nI (t i)) a M O P) → wpX_unwrap post (nI len, n, (fun i => nI (t i)), a, M, O, P) := by
        intro post H
        refine startX post (br_f nlt192 ?_)
        refine nm_e (br_f pd_n10 ?_)
        rw [et]
        exact H _
      have s2 : ∀ post, wY_unwrap_48 post (nI h) 1 (nI (h - 192)) (nI len) c (fun i => nI (t i)) b M O P → wpY_unwrap post (nI len, c, (fun i => nI (t i)), b, M, O, P) := by
        intro post H
        refine startY post (br_f nle191 ?_)
        refine br_f pd_n10 ?_
        rw [et]
        exact H
      have h64 : h - 192 < 64 := by omega
      generalize h - 192 = tag at s1 s2 h64
      rcases Nat.eq_zero_or_pos tag with y | y
      · subst y
        refine bad (fun post H => s1 post (fun x3 => ?_)) (fun post H => s2 post ?_)
        · exact br_f nlt (br_t (by decide) H)
        · exact br_f nlt (br_t rfl H)
      · have t1 : ¬ nI tag < 1 := nI_nlt (b := 1) y (by omega)
        have t0 : ¬ nI tag = 0 := nI_ne0 y (by omega)
        rcases Nat.lt_or_ge 15 tag with x | x
        · have t15 : 15 < nI tag := nI_lt (a := 15) x (by omega)
          refine bad (fun post H => s1 post (fun x3 => ?_)) (fun post H => s2 post ?_)
          · exact br_f nlt (br_f t1 (br_t t15 H))
          · exact br_f nlt (br_f t0 (br_t t15 H))
        · have t15 : ¬ 15 < nI tag := nI_nlt (a := 15) x (by decide)
          have r1 : ∀ post, (∀ x3, wX_unwrap_86 post 1 x3 (nI tag) (nI len) n (fun i => nI (t i)) a M O P) → wpX_unwrap post (nI len, n, (fun i => nI (t i)), a, M, O, P) := by
            intro post H
            refine s1 post (fun x3 => ?_)
            exact br_f nlt (br_f t1 (br_f t15 (br_f pd_n10 (H x3))))
          have r2 : ∀ post, wY_unwrap_79 post (nI h) 1 (nI tag) (nI len) c (fun i => nI (t i)) b M O P → wpY_unwrap post (nI len, c, (fun i => nI (t i)), b, M, O, P) := by
            intro post H
            refine s2 post ?_
            exact br_f nlt (br_f t0 (br_f t15 (br_f pd_n10 H)))
          rcases pd_news (M := M) (O := O) (P := P) ht hl (len + 1) 1 [] (by omega) (by omega) z pd_By_nil (by simp) with ⟨cc, yy, hcy, hX, hY⟩ | ⟨L, hB, hL, hX, hY⟩
          · refine pd_finC (k + 5) (r := cc) ht hl hK (fun post => wpX_unwrap post (nI len, n, (fun i => nI (t i)), a, M, O, P)) (fun post => wpY_unwrap post (nI len, c, (fun i => nI (t i)), b, M, O, P)) ?_ ?_
            · intro post H
              refine r1 post (fun x3 => br_f pd_n10 ?_)
              refine ⟨len + 1, hX _ ?_ (len + 1) 0 a 0 (by omega) (by omega) (pd_D_nil 120 a)⟩
              intro a' n'
              exact pd_x107c hcy (H a' n')
            · intro post H
              refine r2 post (br_f pd_n10 ?_)
              refine ⟨len + 2, hY _ ?_ (len + 2) b 0 (by omega) (pd_D_nil 400 b)⟩
              intro a' n'
              exact pd_y102c hl hcy (H a' n')
          · refine pd_fin (k + 5) (r := nI tag) (L := L) (f := 0) ht hl hK hB (fun post => wpX_unwrap post (nI len, n, (fun i => nI (t i)), a, M, O, P)) (fun post => wpY_unwrap post (nI len, c, (fun i => nI (t i)), b, M, O, P)) ?_ ?_
            · intro post H
              refine r1 post (fun x3 => br_f pd_n10 ?_)
              refine ⟨len + 1, hX _ ?_ (len + 1) 0 a 0 (by omega) (by omega) (pd_D_nil 120 a)⟩
              intro a' n' hD
              exact pd_x107k hL hD ((H a' n').2 hL)
            · intro post H
              refine r2 post (br_f pd_n10 ?_)
              refine ⟨len + 2, hY _ ?_ (len + 2) b 0 (by omega) (pd_D_nil 400 b)⟩
              intro a' n' hD
              exact pd_y102k hl hL hD ((H a' n').2 hL)
end
section
/-! pack -/
section
variable {n : Int32} {a : Nat → Int32} {t : Nat → Nat} {M O P : Nat → Int64} {L : List Nat} {len : Nat}
theorem pd_xrunL {post : Int32 → Prop} {i r : Nat} (ht : ∀ i, t i < 256) (hl : len ≤ 120) (hi : i < len) (hR : pd_Rn t len i r) (H : post (nI (min r 66))) : ∀ d c m : Nat, c + d = min r 66 → d < m → 1 ≤ c → wX_runLength_6 post (nI i) (nI len) n (fun i => nI (t i)) a M O P m (nI c) (nI (i + c)) := by
  obtain ⟨r1, r2, r3, r4⟩ := hR
  intro d
  induction d with
  | zero =>
    intro c m hc hm h1
    obtain ⟨m, rfl⟩ : ∃ m', m = m' + 1 := ⟨m - 1, by omega⟩
    have hcr : c ≤ r := by omega
    have H' : post (nI c) := by rw [show c = min r 66 by omega]; exact H
    refine pk_le len (i + c) (fun _ => H') (fun z => pk_le 66 c (fun _ => H') (fun y => ⟨vp_in_nI (by omega) (by decide), vp_in_nI (by omega) (by decide), ?_⟩))
    have e : c = r := by omega
    subst e
    refine br_f ?_ H'
    rw [nI_clamp (by omega), nI_clamp (by omega)]
    intro q
    have a1 := ht (i + c)
    have a2 := ht i
    have q2 := (nI_eq (by omega) (by omega)).mp q
    omega
  | succ d ih =>
    intro c m hc hm h1
    obtain ⟨m, rfl⟩ : ∃ m', m = m' + 1 := ⟨m - 1, by omega⟩
    have hcr : c < r := by omega
    refine br_f (nI_ge (by omega) (by omega)) (br_f (nI_ge (b := 66) (by omega) (by decide)) ⟨vp_in_nI (by omega) (by decide), vp_in_nI (by omega) (by decide), ?_⟩)
    refine br_t ?_ (nm_r (nI_1 c) (nm_r (nI_1 (i + c)) (ih (c + 1) m (by omega) (by omega) (by omega))))
    rw [nI_clamp (by omega), nI_clamp (by omega)]
    exact congrArg nI (r3 c hcr)
theorem pd_xrun {post : Int32 → Prop} {i r : Nat} (ht : ∀ i, t i < 256) (hl : len ≤ 120) (hi : i < len) (hR : pd_Rn t len i r) (H : post (nI (min r 66))) : wpX_runLength post (nI len, n, (fun i => nI (t i)), a, M, O, P) (nI i) := by
  have h1 := hR.1
  exact nm_r (nI_1 i) ⟨66, pd_xrunL ht hl hi hR H (min r 66 - 1) 1 66 (by omega) (by omega) (by omega)⟩
theorem pd_yrunL {post : Int32 → Prop} {i r : Nat} (ht : ∀ i, t i < 256) (hl : len ≤ 120) (hi : i < len) (hR : pd_Rn t len i r) (H : post (nI r)) : ∀ d c m : Nat, c + d = r → d < m → 1 ≤ c → wY_run_2 post (nI i) (nI len) n (fun i => nI (t i)) a M O P m (nI c) := by
  obtain ⟨r1, r2, r3, r4⟩ := hR
  intro d
  induction d with
  | zero =>
    intro c m hc hm h1
    obtain ⟨m, rfl⟩ : ∃ m', m = m' + 1 := ⟨m - 1, by omega⟩
    have e : c = r := by omega
    subst e
    refine pk_le len (i + c) (fun _ => H) (fun z => ⟨by rw [nI_add]; exact vp_in_nI (by omega) (by decide), vp_in_nI (by omega) (by decide), ?_⟩) rfl (nI_add i c)
    refine br_f ?_ H
    rw [nI_add, nI_clamp (by omega), nI_clamp (by omega)]
    intro q
    have a1 := ht (i + c)
    have a2 := ht i
    have q2 := (nI_eq (by omega) (by omega)).mp q
    omega
  | succ d ih =>
    intro c m hc hm h1
    obtain ⟨m, rfl⟩ : ∃ m', m = m' + 1 := ⟨m - 1, by omega⟩
    have hcr : c < r := by omega
    refine br_f (by rw [nI_add]; exact nI_ge (by omega) (by omega)) ⟨by rw [nI_add]; exact vp_in_nI (by omega) (by decide), vp_in_nI (by omega) (by decide), ?_⟩
    refine br_t ?_ (nm_r (nI_1 c) (ih (c + 1) m (by omega) (by omega) (by omega)))
    rw [nI_add, nI_clamp (by omega), nI_clamp (by omega)]
    exact congrArg nI (r3 c hcr)
theorem pd_yrun {post : Int32 → Prop} {i r : Nat} (ht : ∀ i, t i < 256) (hl : len ≤ 120) (hi : i < len) (hR : pd_Rn t len i r) (H : post (nI r)) : wpY_run post (nI len, n, (fun i => nI (t i)), a, M, O, P) (nI i) := by
  have h1 := hR.1
  exact ⟨r + 1, pd_yrunL ht hl hi hR H (r - 1) 1 (r + 1) (by omega) (by omega) (by omega)⟩
end
theorem pd_lits {t : Nat → Nat} {M O P : Nat → Int64} {len f : Nat} (ht : ∀ i, t i < 256) (hl : len ≤ 120) (hf : f < len) : ∀ d c : Nat, c + d = 64 → 1 ≤ c → f + c ≤ len → ∃ q, c ≤ q ∧ q ≤ 64 ∧ f + q ≤ len ∧ (∀ (post : Int32 → Prop) (m : Nat) (a : Nat → Int32) (n : Int32), d < m → post (nI q) → wX_literalLength_6 post (nI len) n (fun i => nI (t i)) a M O P m (nI c) (nI (f + c))) ∧ (∀ (post : Int32 → Prop) (m : Nat) (a : Nat → Int32) (n : Int32), d + 1 < m → post (nI q) → wY_plainFrom_4 post (nI f) (nI len) n (fun i => nI (t i)) a M O P m (nI (c - 1)) 1) := by
  intro d
  induction d with
  | zero =>
    intro c hc h1 h2
    have e : c = 64 := by omega
    subst e
    refine ⟨64, by omega, by omega, h2, ?_, ?_⟩
    · intro post m a n hm H
      obtain ⟨m, rfl⟩ : ∃ m', m = m' + 1 := ⟨m - 1, by omega⟩
      exact pk_le len (f + 64) (fun _ => H) (fun _ => br_t (by decide) H)
    · intro post m a n hm H
      obtain ⟨m, rfl⟩ : ∃ m', m = m' + 2 := ⟨m - 2, by omega⟩
      refine br_f pd_n10 (nm_r (e' := nI 64) (nI_1 63) ?_)
      have fin : wY_plainFrom_31 post (wY_plainFrom_4 post (nI f) (nI len) n (fun i => nI (t i)) a M O P (m + 1)) (nI f) (nI 64) (nI len) n (fun i => nI (t i)) a M O P := by
        unfold wY_plainFrom_31
        exact br_t rfl (br_t rfl H)
      exact pk_le len (f + 64) (fun _ => fin) (fun _ => br_t (by decide) fin) rfl (nI_add f 64)
  | succ d ih =>
    intro c hc h1 h2
    have ec : nI (c - 1) + 1 = nI c := by rw [nI_1, Nat.sub_add_cancel h1]
    -- an end here
    have stop : (f + c = len ∨ ∃ r, f + c < len ∧ pd_Rn t len (f + c) r ∧ 3 ≤ r) → ∃ q, c ≤ q ∧ q ≤ 64 ∧ f + q ≤ len ∧ (∀ (post : Int32 → Prop) (m : Nat) (a : Nat → Int32) (n : Int32), d + 1 < m → post (nI q) → wX_literalLength_6 post (nI len) n (fun i => nI (t i)) a M O P m (nI c) (nI (f + c))) ∧ (∀ (post : Int32 → Prop) (m : Nat) (a : Nat → Int32) (n : Int32), d + 1 + 1 < m → post (nI q) → wY_plainFrom_4 post (nI f) (nI len) n (fun i => nI (t i)) a M O P m (nI (c - 1)) 1) := by
      intro hs
      refine ⟨c, Nat.le_refl _, by omega, h2, ?_, ?_⟩
      · intro post m a n hm H
        obtain ⟨m, rfl⟩ : ∃ m', m = m' + 1 := ⟨m - 1, by omega⟩
        rcases hs with z | ⟨r, z, hR, h3⟩
        · exact br_t (nI_le (by omega) (by omega)) H
        · refine br_f (nI_ge z (by omega)) (br_f (nI_ge (b := 64) (by omega) (by decide)) ?_)
          refine pd_xrun ht hl z hR ?_
          exact br_f (nI_nlt (b := 3) (by omega) (by omega)) H
      · intro post m a n hm H
        obtain ⟨m, rfl⟩ : ∃ m', m = m' + 2 := ⟨m - 2, by omega⟩
        refine br_f pd_n10 (nm_r ec ?_)
        rcases hs with z | ⟨r, z, hR, h3⟩
        · refine br_t (by rw [nI_add]; exact nI_le (by omega) (by omega)) ?_
          unfold wY_plainFrom_31
          exact br_t rfl (br_t rfl H)
        · refine br_f (by rw [nI_add]; exact nI_ge z (by omega)) (br_f (nI_ge (b := 64) (by omega) (by decide)) ?_)
          refine br_f pd_n10 ?_
          rw [nI_add]
          refine pd_yrun ht hl z hR ?_
          have hr := hR.2.1
          exact br_t (nI_le (a := 3) h3 (by omega)) (br_t rfl H)
    rcases Nat.lt_or_ge (f + c) len with z | z
    · obtain ⟨r, hR⟩ := pd_Rn_ex t len (f + c) z
      rcases Nat.lt_or_ge r 3 with y | y
      · obtain ⟨q, q1, q2, q3, hX, hY⟩ := ih (c + 1) (by omega) (by omega) (by omega)
        refine ⟨q, by omega, q2, q3, ?_, ?_⟩
        · intro post m a n hm H
          obtain ⟨m, rfl⟩ : ∃ m', m = m' + 1 := ⟨m - 1, by omega⟩
          refine br_f (nI_ge z (by omega)) (br_f (nI_ge (b := 64) (by omega) (by decide)) ?_)
          refine pd_xrun ht hl z hR ?_
          exact br_t (nI_lt (b := 3) (by omega) (by decide)) (nm_r (nI_1 c) (nm_r (nI_1 (f + c)) (hX post m a n (by omega) H)))
        · intro post m a n hm H
          obtain ⟨m, rfl⟩ : ∃ m', m = m' + 1 := ⟨m - 1, by omega⟩
          refine br_f pd_n10 (nm_r ec ?_)
          refine br_f (by rw [nI_add]; exact nI_ge z (by omega)) (br_f (nI_ge (b := 64) (by omega) (by decide)) ?_)
          refine br_f pd_n10 ?_
          rw [nI_add]
          refine pd_yrun ht hl z hR ?_
          exact br_f (nI_ge (b := 3) y (by decide)) (hY post m a n (by omega) H)
      · exact stop (Or.inr ⟨r, z, hR, y⟩)
    · exact stop (Or.inl (by omega))
theorem pd_packs {t : Nat → Nat} {M O P : Nat → Int64} {len : Nat} (ht : ∀ i, t i < 256) (hl : len ≤ 120) : ∀ (d f : Nat) (L : List Nat), len - f < d → f ≤ len → pd_By L → L.length ≤ 2 * f → ∃ L' : List Nat, pd_By L' ∧ L'.length ≤ 2 * len ∧ (∀ (post : Int32 → SX → Prop) (m c : Nat) (a : Nat → Int32) (n : Int32), c ≤ f → len - f < m → pd_D 120 a n L → pd_XK post (nI (L'.length - 0)) t len M O P L' 0 → wX_pack_9 post m (nI f) (nI c) (nI len) n (fun i => nI (t i)) a M O P) ∧ (∀ (post : Int32 → SY → Prop) (m : Nat) (a : Nat → Int32) (n : Int32), len - f < m → pd_D 400 a n L → pd_YK post (nI (L'.length - 0)) t len M O P L' 0 → wY_pack_7 post m (nI f) (nI len) n (fun i => nI (t i)) a M O P) := by
  intro d
  induction d with
  | zero => intro f L h; exact absurd h (Nat.not_lt_zero _)
  | succ d ih =>
    intro f L hd hf hB hL
    rcases Nat.lt_or_ge f len with z | z
    · obtain ⟨r, hR⟩ := pd_Rn_ex t len f z
      have hr1 := hR.1
      have hr2 := hR.2.1
      rcases Nat.lt_or_ge r 3 with y | y
      · obtain ⟨q, q1, q2, q3, gX, gY⟩ := pd_lits (M := M) (O := O) (P := P) ht hl z 63 1 (by omega) (by omega) (by omega)
        obtain ⟨L', b1, b2, hX, hY⟩ := ih (f + q) ((L ++ [q - 1]) ++ pd_sl t f q) (by omega) q3 (pd_By_app (pd_By_put hB (by omega)) (pd_sl_By ht _ _)) (by rw [pd_app, pd_len1, pd_sl_len]; omega)
        have eq : nI q - 1 = nI (q - 1) := pk_sub (b := 1) q1
        refine ⟨L', b1, b2, ?_, ?_⟩
        · intro post m c a n hc hm hD H
          obtain ⟨m, rfl⟩ : ∃ m', m = m' + 1 := ⟨m - 1, by omega⟩
          refine br_f (nI_ge (b := 120) (by omega) (by decide)) (br_f (nI_ge z (by omega)) ?_)
          refine pd_xrun ht hl z hR ?_
          refine br_t (nI_lt (b := 3) (by omega) (by decide)) ?_
          refine nm_r (nI_1 f) ⟨64, gX _ 64 a n (by omega) ?_⟩
          refine pd_xput (q - 1) eq hD (by omega) (fun a1 n1 d1 => ?_)
          refine pd_xpw f q rfl rfl (by omega) d1 (by rw [pd_len1]; omega) (fun a2 n2 d2 => ?_)
          exact nm_r (nI_add f q) (nm_r (nI_1 c) (hX post m (c + 1) a2 n2 (by omega) (by omega) d2 H))
        · intro post m a n hm hD H
          obtain ⟨m, rfl⟩ : ∃ m', m = m' + 1 := ⟨m - 1, by omega⟩
          refine br_f (nI_ge z (by omega)) ?_
          refine pd_yrun ht hl z hR ?_
          refine br_t (nI_le (b := 2) (by omega) (by decide)) ?_
          refine ⟨65, gY _ 65 a n (by omega) ?_⟩
          refine pd_yputb (q - 1) eq (by omega) hD (by omega) (fun a1 n1 d1 => ?_)
          refine pd_ypw f q rfl (nI_add f q) ht (by omega) d1 (by rw [pd_len1]; omega) (fun a2 n2 d2 => ?_)
          exact nm_r (nI_add f q) (hY post m a2 n2 (by omega) d2 H)
      · obtain ⟨w, hw, hw2⟩ : ∃ w, w = min r 66 ∧ 3 ≤ w := ⟨min r 66, rfl, by omega⟩
        obtain ⟨L', b1, b2, hX, hY⟩ := ih (f + w) ((L ++ [128 + w - 3]) ++ [t f]) (by omega) (by omega) (pd_By_put (pd_By_put hB (by omega)) (ht f)) (by rw [pd_len1, pd_len1]; omega)
        have ew : (128 + nI w) - 3 = nI (128 + w - 3) := by
          have e : (128 : Int32) + nI w = nI (128 + w) := nI_add 128 w
          rw [e]
          exact pk_sub (b := 3) (by omega)
        refine ⟨L', b1, b2, ?_, ?_⟩
        · intro post m c a n hc hm hD H
          obtain ⟨m, rfl⟩ : ∃ m', m = m' + 1 := ⟨m - 1, by omega⟩
          refine br_f (nI_ge (b := 120) (by omega) (by decide)) (br_f (nI_ge z (by omega)) ?_)
          refine pd_xrun ht hl z hR ?_
          rw [← hw]
          refine br_f (nI_nlt (b := 3) hw2 (by omega)) ?_
          refine pd_xput (128 + w - 3) ew hD (by omega) (fun a1 n1 d1 => ?_)
          refine ⟨vp_in_nI (by omega) (by decide), ?_⟩
          refine pd_xput (t f) (pd_cl (by omega)) d1 (by rw [pd_len1]; omega) (fun a2 n2 d2 => ?_)
          exact nm_r (nI_add f w) (nm_r (nI_1 c) (hX post m (c + 1) a2 n2 (by omega) (by omega) d2 H))
        · intro post m a n hm hD H
          obtain ⟨m, rfl⟩ : ∃ m', m = m' + 1 := ⟨m - 1, by omega⟩
          refine br_f (nI_ge z (by omega)) ?_
          refine pd_yrun ht hl z hR ?_
          refine br_f (nI_ge (a := 2) (by omega) (by omega)) ?_
          have fin : wY_pack_38 post (wY_pack_7 post m) (nI f) (nI w) (nI len) n (fun i => nI (t i)) a M O P := by
            unfold wY_pack_38
            refine pd_yputb (128 + w - 3) ew (by omega) hD (by omega) (fun a1 n1 d1 => ?_)
            refine ⟨vp_in_nI (by omega) (by decide), ?_⟩
            refine pd_yputb (t f) (pd_cl (by omega)) (ht f) d1 (by rw [pd_len1]; omega) (fun a2 n2 d2 => ?_)
            exact nm_r (nI_add f w) (hY post m a2 n2 (by omega) d2 H)
          refine pk_le r 66 (fun x => ?_) (fun x => ?_)
          · rw [show r = w by omega]
            exact fin
          · rw [show w = 66 by omega] at fin
            exact fin
    · have e : f = len := by omega
      subst e
      refine ⟨L, hB, hL, ?_, ?_⟩
      · intro post m c a n hc hm hD H
        obtain ⟨m, rfl⟩ : ∃ m', m = m' + 1 := ⟨m - 1, by omega⟩
        have fin : wX_pack_95 post (nI f) n (fun i => nI (t i)) a M O P := pd_XKb (by omega) H hD
        exact pk_le 120 c (fun _ => fin) (fun _ => br_t (nI_le (Nat.le_refl _) (by omega)) fin)
      · intro post m a n hm hD H
        obtain ⟨m, rfl⟩ : ∃ m', m = m' + 1 := ⟨m - 1, by omega⟩
        refine br_t (nI_le (Nat.le_refl _) (by omega)) ?_
        exact pd_YKb (by omega) H hD
theorem i_vc_pack {k : Nat} {u : SX} {v : SY} (I : i_Rel k u v) (hk : k + 5 ≤ 2560) : wpX_pack (fun r u' => wpY_pack (fun r' v' => r' = r ∧ i_Rel (k + 5) u' v') v) u := by
  obtain ⟨t, len, M, O, P, a, n, b, c, ht, hl, hK, rfl, rfl⟩ := I
  obtain ⟨L', b1, b2, hX, hY⟩ := pd_packs (M := M) (O := O) (P := P) ht hl (len + 1) 0 [] (by omega) (by omega) pd_By_nil (by simp)
  exact pd_fin (k + 5) (r := nI (L'.length - 0)) (L := L') (f := 0) ht hl hK b1 (fun post => wpX_pack post (nI len, n, (fun i => nI (t i)), a, M, O, P)) (fun post => wpY_pack post (nI len, c, (fun i => nI (t i)), b, M, O, P)) (fun post H => ⟨len + 1, hX post (len + 1) 0 a 0 (by omega) (by omega) (pd_D_nil 120 a) H⟩) (fun post H => ⟨len + 1, hY post (len + 1) b 0 (by omega) (pd_D_nil 400 b) H⟩)
end
section
/-! unpack -/
section
variable {len n : Int32} {w a : Nat → Int32} {t : Nat → Nat} {M O P : Nat → Int64} {L : List Nat}
theorem pd_xprL {post : SX → Prop} {b c : Nat} (hc : c ≤ 1000) (hL : L.length < 50000) (H : ∀ a' n', pd_D 120 a' n' (L ++ pd_sl (fun _ => b) 0 c) → post (len, n', w, a', M, O, P)) : ∀ (d i m : Nat) (a : Nat → Int32) (n : Int32), i + d = c → d < m → pd_D 120 a n (L ++ pd_sl (fun _ => b) 0 i) → wX_putRun_2 post (nI b) (nI c) m (nI i) len n w a M O P := by
  intro d
  induction d with
  | zero =>
    intro i m a n hi hm hD
    obtain ⟨m, rfl⟩ : ∃ m', m = m' + 1 := ⟨m - 1, by omega⟩
    have e : i = c := by omega
    subst e
    exact br_t (nI_le (Nat.le_refl _) (by omega)) (H a n hD)
  | succ d ih =>
    intro i m a n hi hm hD
    obtain ⟨m, rfl⟩ : ∃ m', m = m' + 1 := ⟨m - 1, by omega⟩
    refine br_f (nI_ge (by omega) (by omega)) ?_
    refine pd_xput b rfl hD (by rw [List.length_append, pd_sl_len]; omega) ?_
    intro a' n' hD'
    refine nm_r (nI_1 i) ?_
    refine ih (i + 1) m a' n' (by omega) (by omega) ?_
    rw [pd_sl, ← List.append_assoc]
    exact hD'
theorem pd_xpr {post : SX → Prop} {x y : Int32} (b c : Nat) (hx : x = nI b) (hy : y = nI c) (hc : c ≤ 1000) (hD : pd_D 120 a n L) (hL : L.length < 50000) (H : ∀ a' n', pd_D 120 a' n' (L ++ pd_sl (fun _ => b) 0 c) → post (len, n', w, a', M, O, P)) : wpX_putRun post (len, n, w, a, M, O, P) x y := by
  subst hx hy
  exact ⟨c + 1, pd_xprL hc hL H c 0 (c + 1) a n (by omega) (by omega) (by rw [pd_sl, List.append_nil]; exact hD)⟩
theorem pd_y126 {post : Int32 → SY → Prop} {J : Int32 → Int32 → Int32 → (Nat → Int32) → (Nat → Int32) → (Nat → Int64) → (Nat → Int64) → (Nat → Int64) → Prop} {f c : Nat} (ht : ∀ i, t i < 256) (hf : f < 120) (hc : c ≤ 1000) (hL : L.length < 50000) (H : ∀ a' n', pd_D 400 a' n' (L ++ pd_sl (fun _ => t f) 0 c) → J (nI (f + 1)) len n' (fun i => nI (t i)) a' M O P) : ∀ (d i m : Nat) (a : Nat → Int32) (n : Int32), i + d = c → d < m → pd_D 400 a n (L ++ pd_sl (fun _ => t f) 0 i) → wY_unpack_126 post J (nI f) (nI c) m (nI i) len n (fun i => nI (t i)) a M O P := by
  intro d
  induction d with
  | zero =>
    intro i m a n hi hm hD
    obtain ⟨m, rfl⟩ : ∃ m', m = m' + 1 := ⟨m - 1, by omega⟩
    have e : i = c := by omega
    subst e
    exact br_t (nI_le (Nat.le_refl _) (by omega)) (nm_r (nI_1 f) (H a n hD))
  | succ d ih =>
    intro i m a n hi hm hD
    obtain ⟨m, rfl⟩ : ∃ m', m = m' + 1 := ⟨m - 1, by omega⟩
    refine br_f (nI_ge (by omega) (by omega)) ⟨vp_in_nI hf (by decide), ?_⟩
    refine pd_yputb (t f) (pd_cl (by omega)) (ht f) hD (by rw [List.length_append, pd_sl_len]; omega) ?_
    intro a' n' hD'
    refine nm_r (nI_1 i) ?_
    refine ih (i + 1) m a' n' (by omega) (by omega) ?_
    rw [pd_sl, ← List.append_assoc]
    exact hD'
end
theorem pd_unps {t : Nat → Nat} {M O P : Nat → Int64} {len : Nat} (ht : ∀ i, t i < 256) (hl : len ≤ 120) : ∀ (d f : Nat) (L : List Nat), len - f < d → f ≤ len → pd_By L → L.length ≤ 120 → (∃ r : Int32, (∀ (post : Int32 → SX → Prop) (m c : Nat) (a : Nat → Int32) (n : Int32), c ≤ f → len - f < m → pd_D 120 a n L → pd_XC post r t len M O P → wX_unpack_9 post m (nI f) (nI c) (nI len) n (fun i => nI (t i)) a M O P) ∧ (∀ (post : Int32 → SY → Prop) (m : Nat) (a : Nat → Int32) (n : Int32), len - f < m → pd_D 400 a n L → pd_YC post r t len M O P → wY_unpack_7 post m (nI f) (nI len) n (fun i => nI (t i)) a M O P)) ∨ (∃ L' : List Nat, pd_By L' ∧ L'.length ≤ 120 ∧ (∀ (post : Int32 → SX → Prop) (m c : Nat) (a : Nat → Int32) (n : Int32), c ≤ f → len - f < m → pd_D 120 a n L → pd_XK post (nI (L'.length - 0)) t len M O P L' 0 → wX_unpack_9 post m (nI f) (nI c) (nI len) n (fun i => nI (t i)) a M O P) ∧ (∀ (post : Int32 → SY → Prop) (m : Nat) (a : Nat → Int32) (n : Int32), len - f < m → pd_D 400 a n L → pd_YK post (nI (L'.length - 0)) t len M O P L' 0 → wY_unpack_7 post m (nI f) (nI len) n (fun i => nI (t i)) a M O P)) := by
  intro d
  induction d with
  | zero => intro f L h; exact absurd h (Nat.not_lt_zero _)
  | succ d ih =>
    intro f L hd hf hB hL
    rcases Nat.lt_or_ge f len with z | z
    · have hh := ht f
      have e1 : nI f + 1 = nI (f + 1) := nI_1 f
      have stX : ∀ (post : Int32 → SX → Prop) (m c : Nat) (a : Nat → Int32) (n : Int32), c ≤ f → ((nI (t f) < 128 → wX_unpack_42 post (wX_unpack_9 post m) (nI f) (nI c) (nI (t f)) 0 (nI len) n (fun i => nI (t i)) a M O P) ∧ (¬ nI (t f) < 128 → wX_unpack_42 post (wX_unpack_9 post m) (nI f) (nI c) (nI (t f)) 1 (nI len) n (fun i => nI (t i)) a M O P)) → wX_unpack_9 post (m + 1) (nI f) (nI c) (nI len) n (fun i => nI (t i)) a M O P := by
        intro post m c a n hc H
        refine br_f (nI_ge (b := 120) (by omega) (by decide)) (br_f (nI_ge z (by omega)) ⟨vp_in_nI (by omega) (by decide), ?_⟩)
        exact nm_r (pd_cl (by omega)) H
      have stY : ∀ (post : Int32 → SY → Prop) (m : Nat) (a : Nat → Int32) (n : Int32), ((191 < nI (t f) → post (-4) (nI len, n, (fun i => nI (t i)), a, M, O, P)) ∧ (¬ 191 < nI (t f) → ((nI (t f) ≤ 63 → wY_unpack_48 post (wY_unpack_7 post m) (nI (f + 1)) (nI (t f)) (nI len) n (fun i => nI (t i)) a M O P) ∧ (¬ nI (t f) ≤ 63 → ((128 ≤ nI (t f) → wY_unpack_48 post (wY_unpack_7 post m) (nI (f + 1)) (nI (t f)) (nI len) n (fun i => nI (t i)) a M O P) ∧ (¬ 128 ≤ nI (t f) → post (-4) (nI len, n, (fun i => nI (t i)), a, M, O, P))))))) → wY_unpack_7 post (m + 1) (nI f) (nI len) n (fun i => nI (t i)) a M O P := by
        intro post m a n H
        exact br_f (nI_ge z (by omega)) (nm_r e1 ⟨vp_in_nI (by omega) (by decide), nm_r (pd_cl (by omega)) H⟩)
      generalize t f = h at hh stX stY
      by_cases hg : h < 64 ∨ (128 ≤ h ∧ h < 192)
      · -- taken: bytes behind the mark; cnt: bytes made; D: what is made
        obtain ⟨tk, ct, D, h1, h2, h3, h4, hc⟩ : ∃ (tk ct : Nat) (D : List Nat), 1 ≤ tk ∧ tk ≤ 64 ∧ ct ≤ 70 ∧ D.length = ct ∧ ((h < 64 ∧ tk = h + 1 ∧ ct = h + 1 ∧ D = pd_sl t (f + 1) ct) ∨ (128 ≤ h ∧ h < 192 ∧ tk = 1 ∧ ct = h - 125 ∧ D = pd_sl (fun _ => t (f + 1)) 0 ct)) := by
          rcases hg with y | ⟨y, x⟩
          · exact ⟨h + 1, h + 1, pd_sl t (f + 1) (h + 1), by omega, by omega, by omega, pd_sl_len _ _ _, Or.inl ⟨y, rfl, rfl, rfl⟩⟩
          · exact ⟨1, h - 125, pd_sl (fun _ => t (f + 1)) 0 (h - 125), by omega, by omega, by omega, pd_sl_len _ _ _, Or.inr ⟨y, x, rfl, rfl, rfl⟩⟩
        have hDB : pd_By D := by
          rcases hc with ⟨_, _, _, x⟩ | ⟨_, _, _, _, x⟩
          · rw [x]; exact pd_sl_By ht _ _
          · rw [x]; exact pd_sl_By (fun _ => ht _) _ _
        have ef : (nI f + 1) + nI tk = nI (f + 1 + tk) := by rw [nI_1, nI_add]
        rcases Nat.lt_or_ge len (f + 1 + tk) with y | y
        · refine Or.inl ⟨-3, ?_, ?_⟩
          · intro post m c a n hc' hm hD H
            obtain ⟨m, rfl⟩ : ∃ m', m = m' + 1 := ⟨m - 1, by omega⟩
            refine stX post m c a n hc' ?_
            have fin : ∀ x4 x5, wX_unpack_83 post (wX_unpack_9 post m) (nI f) (nI c) x4 x5 (nI tk) (nI len) n (fun i => nI (t i)) a M O P := fun x4 x5 => br_f (by rw [ef]; exact nI_ge y (by omega)) (H a n)
            rcases hc with ⟨g1, g2, g3, g4⟩ | ⟨g0, g1, g2, g3, g4⟩
            · refine br_t (nI_lt (b := 128) (by omega) (by decide)) (br_t rfl (br_t (nI_lt (b := 64) g1 (by decide)) (br_t rfl ?_)))
              have q := fin 0 (nI h)
              rw [g2, ← nI_1] at q
              exact q
            · have e : nI h - 128 = nI (h - 128) := pk_sub (b := 128) g0
              refine br_f (nI_nlt (b := 128) g0 (by omega)) (br_f pd_n10 (br_t (by rw [e]; exact nI_lt (b := 64) (by omega) (by decide)) (br_f pd_n10 ?_)))
              have q := fin 1 (nI h - 128)
              rw [g2] at q
              exact q
          · intro post m a n hm hD H
            obtain ⟨m, rfl⟩ : ∃ m', m = m' + 1 := ⟨m - 1, by omega⟩
            refine stY post m a n ?_
            have ef' : nI (f + 1) + nI tk = nI (f + 1 + tk) := nI_add _ _
            have fin : ∀ x2 x3, wY_unpack_77 post (wY_unpack_7 post m) (nI (f + 1)) x2 x3 (nI tk) (nI (f + 1)) (nI len) n (fun i => nI (t i)) a M O P := fun x2 x3 => br_f (by rw [ef']; exact nI_ge y (by omega)) (H a n)
            rcases hc with ⟨g1, g2, g3, g4⟩ | ⟨g0, g1, g2, g3, g4⟩
            · refine br_f (nI_nlt (a := 191) (by omega) (by decide)) (br_t (nI_le (b := 63) (by omega) (by decide)) ?_)
              refine br_f (nI_ge (b := 64) g1 (by decide)) (br_f (nI_ge (b := 64) g1 (by decide)) ?_)
              have q := fin (nI h) (nI h + 1)
              rw [g2, ← nI_1 h] at q
              exact q
            · refine br_f (nI_nlt (a := 191) (by omega) (by decide)) (br_f (nI_ge (a := 63) (by omega) (by omega)) (br_t (nI_le (a := 128) g0 (by omega)) ?_))
              refine br_t (nI_le (a := 64) (by omega) (by omega)) (br_t (nI_le (a := 64) (by omega) (by omega)) ?_)
              have q := fin (nI h) (nI h - 125)
              rw [g2] at q
              exact q
        · have wt := ht (f + 1)
          -- X: to the look at the count
          have mX : ∀ (post : Int32 → SX → Prop) (m c : Nat) (a : Nat → Int32) (n : Int32), c ≤ f → pd_D 120 a n L → (∀ a' n', pd_D 120 a' n' (L ++ D) → wX_unpack_134 post (wX_unpack_9 post m) (nI f) (nI c) (nI tk) (nI len) n' (fun i => nI (t i)) a' M O P) → wX_unpack_9 post (m + 1) (nI f) (nI c) (nI len) n (fun i => nI (t i)) a M O P := by
            intro post m c a n hc' hD H
            refine stX post m c a n hc' ?_
            rcases hc with ⟨g1, g2, g3, g4⟩ | ⟨g0, g1, g2, g3, g4⟩
            · have eh : nI h + 1 = nI tk := by rw [nI_1, g2]
              refine br_t (nI_lt (b := 128) (by omega) (by decide)) (br_t rfl (br_t (nI_lt (b := 64) g1 (by decide)) (br_t rfl ?_)))
              rw [eh]
              refine br_t (by rw [ef]; exact nI_le y (by omega)) (br_t rfl ?_)
              refine pd_xpw (f + 1) tk e1 rfl (by omega) hD (by omega) (fun a' n' hD' => ?_)
              refine H a' n' ?_
              rw [g4, g3, ← g2]
              exact hD'
            · have e : nI h - 128 = nI (h - 128) := pk_sub (b := 128) g0
              subst g2
              refine br_f (nI_nlt (b := 128) g0 (by omega)) (br_f pd_n10 (br_t (by rw [e]; exact nI_lt (b := 64) (by omega) (by decide)) (br_f pd_n10 ?_)))
              refine br_t ?_ (br_f pd_n10 ⟨by rw [e1]; exact vp_in_nI (by omega) (by decide), ?_⟩)
              · have q : (nI f + 1) + nI 1 ≤ nI len := by rw [ef]; exact nI_le y (by omega)
                exact q
              refine pd_xpr (t (f + 1)) ct (by rw [e1, nI_clamp (by omega)]) ?_ (by omega) hD (by omega) (fun a' n' hD' => ?_)
              · rw [e, g3]
                have e3 : nI (h - 128) + 3 = nI (h - 128 + 3) := nI_add _ 3
                rw [e3, show h - 128 + 3 = h - 125 by omega]
              · refine H a' n' ?_
                rw [g4]
                exact hD'
          have mY : ∀ (post : Int32 → SY → Prop) (m : Nat) (a : Nat → Int32) (n : Int32), pd_D 400 a n L → (120 < L.length + ct → post (-2) (nI len, n, (fun i => nI (t i)), a, M, O, P)) → (L.length + ct ≤ 120 → ∀ a' n', pd_D 400 a' n' (L ++ D) → wY_unpack_7 post m (nI (f + 1 + tk)) (nI len) n' (fun i => nI (t i)) a' M O P) → wY_unpack_7 post (m + 1) (nI f) (nI len) n (fun i => nI (t i)) a M O P := by
            intro post m a n hD H1 H2
            refine stY post m a n ?_
            have ef' : nI (f + 1) + nI tk = nI (f + 1 + tk) := nI_add _ _
            have en : n + nI ct = nI (L.length + ct) := by rw [hD.1, nI_add]
            rcases hc with ⟨g1, g2, g3, g4⟩ | ⟨g0, g1, g2, g3, g4⟩
            · have eh : nI h + 1 = nI tk := by rw [nI_1, g2]
              have etc : tk = ct := by omega
              refine br_f (nI_nlt (a := 191) (by omega) (by decide)) (br_t (nI_le (b := 63) (by omega) (by decide)) ?_)
              refine br_f (nI_ge (b := 64) g1 (by decide)) (br_f (nI_ge (b := 64) g1 (by decide)) ?_)
              rw [eh]
              refine br_t (by rw [ef']; exact nI_le y (by omega)) (pk_le (L.length + ct) 120 (fun q => ?_) (fun q => H1 q) (by rw [etc]; exact en))
              refine br_f (nI_ge (b := 64) g1 (by decide)) ?_
              refine pd_ypw (f + 1) tk rfl ef' ht (by omega) hD (by omega) (fun a' n' hD' => ?_)
              refine nm_r ef' (H2 q a' n' ?_)
              rw [g4, ← etc]
              exact hD'
            · have eh : nI h - 125 = nI ct := by rw [g3]; exact pk_sub (b := 125) (by omega)
              subst g2
              refine br_f (nI_nlt (a := 191) (by omega) (by decide)) (br_f (nI_ge (a := 63) (by omega) (by omega)) (br_t (nI_le (a := 128) g0 (by omega)) ?_))
              refine br_t (nI_le (a := 64) (by omega) (by omega)) (br_t (nI_le (a := 64) (by omega) (by omega)) ?_)
              rw [eh]
              refine br_t ?_ (pk_le (L.length + ct) 120 (fun q => ?_) (fun q => H1 q) en)
              · have q : nI (f + 1) + nI 1 ≤ nI len := by rw [ef']; exact nI_le y (by omega)
                exact q
              refine br_t (nI_le (a := 64) (by omega) (by omega)) ⟨ct + 1, ?_⟩
              refine pd_y126 (L := L) ht (by omega) (by omega) (by omega) (fun a' n' hD' => ?_) ct 0 (ct + 1) a n (by omega) (by omega) (by rw [pd_sl, List.append_nil]; exact hD)
              refine H2 q a' n' ?_
              rw [g4]
              exact hD'
          rcases Nat.lt_or_ge 120 (L.length + ct) with x | x
          · refine Or.inl ⟨-2, ?_, ?_⟩
            · intro post m c a n hc' hm hD H
              obtain ⟨m, rfl⟩ : ∃ m', m = m' + 1 := ⟨m - 1, by omega⟩
              refine mX post m c a n hc' hD (fun a' n' hD' => ?_)
              exact br_f (by rw [hD'.1, pd_app, h4]; exact nI_ge (a := 120) x (by omega)) (H a' n')
            · intro post m a n hm hD H
              obtain ⟨m, rfl⟩ : ∃ m', m = m' + 1 := ⟨m - 1, by omega⟩
              exact mY post m a n hD (fun _ => H a n) (fun q => absurd q (by omega))
          · have goX : ∀ (post : Int32 → SX → Prop), (∀ (m c : Nat) (a : Nat → Int32) (n : Int32), c ≤ f + 1 + tk → len - (f + 1 + tk) < m → pd_D 120 a n (L ++ D) → wX_unpack_9 post m (nI (f + 1 + tk)) (nI c) (nI len) n (fun i => nI (t i)) a M O P) → ∀ (m c : Nat) (a : Nat → Int32) (n : Int32), c ≤ f → len - f < m → pd_D 120 a n L → wX_unpack_9 post m (nI f) (nI c) (nI len) n (fun i => nI (t i)) a M O P := by
              intro post H m c a n hc' hm hD
              obtain ⟨m, rfl⟩ : ∃ m', m = m' + 1 := ⟨m - 1, by omega⟩
              refine mX post m c a n hc' hD (fun a' n' hD' => ?_)
              have ea : nI f + (1 + nI tk) = nI (f + 1 + tk) := by
                have e : (1 : Int32) + nI tk = nI (1 + tk) := nI_add 1 tk
                rw [e, nI_add, Nat.add_assoc]
              exact br_t (by rw [hD'.1, pd_app, h4]; exact nI_le (b := 120) x (by decide)) (nm_r ea (nm_r (nI_1 c) (H m (c + 1) a' n' (by omega) (by omega) hD')))
            have goY : ∀ (post : Int32 → SY → Prop), (∀ (m : Nat) (a : Nat → Int32) (n : Int32), len - (f + 1 + tk) < m → pd_D 400 a n (L ++ D) → wY_unpack_7 post m (nI (f + 1 + tk)) (nI len) n (fun i => nI (t i)) a M O P) → ∀ (m : Nat) (a : Nat → Int32) (n : Int32), len - f < m → pd_D 400 a n L → wY_unpack_7 post m (nI f) (nI len) n (fun i => nI (t i)) a M O P := by
              intro post H m a n hm hD
              obtain ⟨m, rfl⟩ : ∃ m', m = m' + 1 := ⟨m - 1, by omega⟩
              exact mY post m a n hD (fun q => absurd q (by omega)) (fun _ a' n' hD' => H m a' n' (by omega) hD')
            rcases ih (f + 1 + tk) (L ++ D) (by omega) y (pd_By_app hB hDB) (by rw [pd_app, h4]; exact x) with ⟨r, hX, hY⟩ | ⟨L', hB', hL', hX, hY⟩
            · refine Or.inl ⟨r, ?_, ?_⟩
              · intro post m c a n hc' hm hD H
                exact goX post (fun m c a n p1 p2 p3 => hX post m c a n p1 p2 p3 H) m c a n hc' hm hD
              · intro post m a n hm hD H
                exact goY post (fun m a n p2 p3 => hY post m a n p2 p3 H) m a n hm hD
            · refine Or.inr ⟨L', hB', hL', ?_, ?_⟩
              · intro post m c a n hc' hm hD H
                exact goX post (fun m c a n p1 p2 p3 => hX post m c a n p1 p2 p3 H) m c a n hc' hm hD
              · intro post m a n hm hD H
                exact goY post (fun m a n p2 p3 => hY post m a n p2 p3 H) m a n hm hD
      · refine Or.inl ⟨-4, ?_, ?_⟩
        · intro post m c a n hc hm hD H
          obtain ⟨m, rfl⟩ : ∃ m', m = m' + 1 := ⟨m - 1, by omega⟩
          refine stX post m c a n hc ?_
          refine pk_lt h 128 (fun y => ?_) (fun y => ?_)
          · exact br_t rfl (br_f (nI_nlt (b := 64) (by omega) (by omega)) (H a n))
          · have e : nI h - 128 = nI (h - 128) := pk_sub (b := 128) y
            exact br_f pd_n10 (br_f (by rw [e]; exact nI_nlt (b := 64) (by omega) (by omega)) (H a n))
        · intro post m a n hm hD H
          obtain ⟨m, rfl⟩ : ∃ m', m = m' + 1 := ⟨m - 1, by omega⟩
          refine stY post m a n ?_
          exact pk_lt 191 h (fun _ => H a n) (fun y => br_f (nI_ge (a := 63) (by omega) (by omega)) (br_f (nI_ge (b := 128) (by omega) (by decide)) (H a n)))
    · have e : f = len := by omega
      subst e
      refine Or.inr ⟨L, hB, hL, ?_, ?_⟩
      · intro post m c a n hc hm hD H
        obtain ⟨m, rfl⟩ : ∃ m', m = m' + 1 := ⟨m - 1, by omega⟩
        have fin : wX_unpack_159 post (nI f) n (fun i => nI (t i)) a M O P := pd_XKb (by omega) H hD
        exact pk_le 120 c (fun _ => fin) (fun _ => br_t (nI_le (Nat.le_refl _) (by omega)) fin)
      · intro post m a n hm hD H
        obtain ⟨m, rfl⟩ : ∃ m', m = m' + 1 := ⟨m - 1, by omega⟩
        refine br_t (nI_le (Nat.le_refl _) (by omega)) ?_
        exact pd_YKb (by omega) H hD
theorem i_vc_unpack {k : Nat} {u : SX} {v : SY} (I : i_Rel k u v) (hk : k + 5 ≤ 2560) : wpX_unpack (fun r u' => wpY_unpack (fun r' v' => r' = r ∧ i_Rel (k + 5) u' v') v) u := by
  obtain ⟨t, len, M, O, P, a, n, b, c, ht, hl, hK, rfl, rfl⟩ := I
  rcases pd_unps (M := M) (O := O) (P := P) ht hl (len + 1) 0 [] (by omega) (by omega) pd_By_nil (by simp) with ⟨r, hX, hY⟩ | ⟨L', b1, b2, hX, hY⟩
  · exact pd_finC (k + 5) (r := r) ht hl hK (fun post => wpX_unpack post (nI len, n, (fun i => nI (t i)), a, M, O, P)) (fun post => wpY_unpack post (nI len, c, (fun i => nI (t i)), b, M, O, P)) (fun post H => ⟨len + 1, hX post (len + 1) 0 a 0 (by omega) (by omega) (pd_D_nil 120 a) H⟩) (fun post H => ⟨len + 1, hY post (len + 1) b 0 (by omega) (pd_D_nil 400 b) H⟩)
  · exact pd_fin (k + 5) (r := nI (L'.length - 0)) (L := L') (f := 0) ht hl hK b1 (fun post => wpX_unpack post (nI len, n, (fun i => nI (t i)), a, M, O, P)) (fun post => wpY_unpack post (nI len, c, (fun i => nI (t i)), b, M, O, P)) (fun post H => ⟨len + 1, hX post (len + 1) 0 a 0 (by omega) (by omega) (pd_D_nil 120 a) H⟩) (fun post H => ⟨len + 1, hY post (len + 1) b 0 (by omega) (pd_D_nil 400 b) H⟩)
end
section
/-! the cipher and the feedback as they walk; encipher, decipher -/
section
variable {len n : Int32} {w a : Nat → Int32} {t : Nat → Nat} {M O P : Nat → Int64} {L : List Nat}
theorem pd_xcipL {post : Int32 → Prop} {x key : Int32} (H : post (pd_cip x key)) : ∀ d i m : Nat, i + d = 6 → d < m → wX_cipher_14 post key len n w a M O P m (pd_cp key x i).1 (pd_cp key x i).2 (nI i) := by
  intro d
  induction d with
  | zero =>
    intro i m hi hm
    obtain ⟨m, rfl⟩ : ∃ m', m = m' + 1 := ⟨m - 1, by omega⟩
    have e : i = 6 := by omega
    subst e
    exact br_t (by decide) H
  | succ d ih =>
    intro i m hi hm
    obtain ⟨m, rfl⟩ : ∃ m', m = m' + 1 := ⟨m - 1, by omega⟩
    refine br_f (nI_ge (b := 6) (by omega) (by decide)) ?_
    exact nm_e (nm_e (nm_e (nm_e (nm_r (nI_1 i) (ih (i + 1) m (by omega) (by omega))))))
theorem pd_xcip {post : Int32 → Prop} {x key : Int32} (H : post (pd_cip x key)) : wpX_cipher post (len, n, w, a, M, O, P) x key := nm_e (nm_e ⟨7, pd_xcipL H 6 0 7 (by omega) (by omega)⟩)
theorem pd_yturn {post : Int32 → Prop} {key : Int32} {i : Nat} (hi : i < 6) (H : post (pd_tr key i)) : wpY_turned post key ((7 * nI i) - (7 * nI i) / 32 * 32) := by
  by_cases z : i = 0
  · subst z
    rw [pd_tr0] at H
    exact br_t (by decide) H
  · refine br_f (fun q => z ((pd_by7 i hi).mp q)) ?_
    rw [← pd_tr1 i hi, ← pd_tr2 i hi]
    exact H
theorem pd_yencL {post : Int32 → Prop} {x key : Int32} (H : post (pd_cip x key)) : ∀ d i m : Nat, i + d = 6 → d < m → wY_enciphered_13 post key m (pd_cp key x i).1 (pd_cp key x i).2 (nI i) := by
  intro d
  induction d with
  | zero =>
    intro i m hi hm
    obtain ⟨m, rfl⟩ : ∃ m', m = m' + 1 := ⟨m - 1, by omega⟩
    have e : i = 6 := by omega
    subst e
    exact br_t (by decide) H
  | succ d ih =>
    intro i m hi hm
    obtain ⟨m, rfl⟩ : ∃ m', m = m' + 1 := ⟨m - 1, by omega⟩
    refine br_f (nI_ge (b := 6) (by omega) (by decide)) ⟨by decide, ?_⟩
    refine pd_yturn (by omega) ?_
    exact nm_e (nm_e (nm_e (nm_r (pd_rnY key x i) (nm_r (nI_1 i) (ih (i + 1) m (by omega) (by omega))))))
theorem pd_yenc {post : Int32 → Prop} {x key : Int32} (H : post (pd_cip x key)) : wpY_enciphered post x key := nm_e (nm_e ⟨7, pd_yencL H 6 0 7 (by omega) (by omega)⟩)
def pd_uI (u : Bool) : Int32 := if u then 1 else 0
theorem pd_xfbL {post : SX → Prop} {key : Int32} {u : Bool} (hL : L.length < 1000) (hD : pd_D 120 a (nI L.length) L) (H : post (len, nI L.length, w, pd_mx (pd_ot key u (fun i => L.getD i 0)) a (min L.length 120), M, O, P)) : ∀ d i m : Nat, i + d = min L.length 120 → d < m → wX_feedback_8 post key (pd_uI u) len (nI L.length) m (pd_st key u (fun i => L.getD i 0) i).1 (pd_st key u (fun i => L.getD i 0) i).2 (nI i) w (pd_mx (pd_ot key u (fun i => L.getD i 0)) a i) M O P := by
  intro d
  induction d with
  | zero =>
    intro i m hi hm
    obtain ⟨m, rfl⟩ : ∃ m', m = m' + 1 := ⟨m - 1, by omega⟩
    have e : min L.length 120 = i := by omega
    rw [e] at H
    exact pk_le L.length i (fun _ => H) (fun z => br_t (nI_le (a := 120) (by omega) (by omega)) H)
  | succ d ih =>
    intro i m hi hm
    obtain ⟨m, rfl⟩ : ∃ m', m = m' + 1 := ⟨m - 1, by omega⟩
    have er : nI i - nI i / 4 * 4 = nI (i % 4) := pk_rem (d := 4) (by omega) (by decide) (by decide)
    have q := ih (i + 1) m (by omega) (by omega)
    rw [pd_st_s] at q
    have go : ∀ mk, mk = pd_mk key u (fun i => L.getD i 0) i → wX_feedback_43 post (wX_feedback_8 post key (pd_uI u) len (nI L.length) m) key (pd_uI u) (pd_st key u (fun i => L.getD i 0) i).1 mk (nI i) (nI (i % 4)) len (nI L.length) w (pd_mx (pd_ot key u (fun i => L.getD i 0)) a i) M O P := by
      intro mk hmk
      have hv : vp_in (nI i) 120 := vp_in_nI (by omega) (by decide)
      refine ⟨hv, nm_r (e' := nI (L.getD i 0)) ?_ ?_⟩
      · rw [nI_clamp (by omega), pd_mx_hi _ _ (Nat.le_refl i)]
        exact hD.2 i (by omega) (by omega)
      · refine pd_xbw (i % 4) (Nat.mod_lt _ (by decide)) rfl ?_
        refine nm_r (e' := nI (pd_ot key u (fun i => L.getD i 0) i)) ?_ ⟨hv, nm_r (e' := pd_mx (pd_ot key u (fun i => L.getD i 0)) a (i + 1)) ?_ ?_⟩
        · rw [nx_xor, hmk]
          rfl
        · rw [nI_clamp (by omega)]
          exact pd_mx_s _ _ _
        · rw [← hmk] at q
          cases u with
          | false => exact br_t rfl (nm_e (nm_r (nI_1 i) q))
          | true => exact br_f pd_n10 (nm_e (nm_r (nI_1 i) q))
    refine br_f (nI_ge (by omega) (by omega)) (br_f (nI_ge (b := 120) (by omega) (by decide)) ⟨by decide, nm_r er ?_⟩)
    refine pk_eq (i % 4) 0 (fun z => ?_) (fun z => ?_)
    · refine pd_xcip ?_
      refine go _ ?_
      unfold pd_mk
      rw [if_pos z]
    · refine go _ ?_
      unfold pd_mk
      rw [if_neg z]
theorem pd_xfb {post : SX → Prop} {key uI : Int32} (u : Bool) (hu : uI = pd_uI u) (hL : L.length < 1000) (hD : pd_D 120 a n L) (H : post (len, n, w, pd_mx (pd_ot key u (fun i => L.getD i 0)) a (min L.length 120), M, O, P)) : wpX_feedback post (len, n, w, a, M, O, P) key uI := by
  subst hu
  have e := hD.1
  subst e
  have q := pd_xfbL hL hD H (min L.length 120) 0 (L.length + 1) (by omega) (by omega)
  rw [pd_mx_0] at q
  exact ⟨L.length + 1, q⟩
/-- the word as Y gathers it -/
def pd_ac (key : Int32) (u : Bool) (f : Nat → Nat) (j : Nat) : Nat → Int32
  | 0 => 0
  | k + 1 => pd_ac key u f j k ||| nI (pd_nb key u f (j + k)) <<< (nI (24 - 8 * k) &&& 31)
theorem pd_ac4 (key : Int32) (u : Bool) (f : Nat → Nat) (j : Nat) : pd_ac key u f j 4 = (pd_st key u f (j + 4)).1 := (pd_st4 key u f j).symm
theorem pd_yfdL {post : SY → Prop} {key : Int32} {u : Bool} (hL : L.length ≤ 120) (hD : pd_D 400 a (nI L.length) L) (H : post (len, nI L.length, w, pd_mx (pd_ot key u (fun i => L.getD i 0)) a L.length, M, O, P)) : ∀ (d j m : Nat) (bf : Int32), L.length - j < d → j % 4 = 0 → j ≤ L.length + 3 → d ≤ m → (j ≤ L.length → bf = (pd_st key u (fun i => L.getD i 0) j).1) → wY_feed_5 post key (pd_uI u) len (nI L.length) m bf (nI j) w (pd_mx (pd_ot key u (fun i => L.getD i 0)) a (min j L.length)) M O P := by
  intro d
  induction d with
  | zero => intro j m bf h; exact absurd h (Nat.not_lt_zero _)
  | succ d ih =>
    intro j m bf hd hj hj3 hm hbf
    obtain ⟨m, rfl⟩ : ∃ m', m = m' + 1 := ⟨m - 1, by omega⟩
    rcases Nat.lt_or_ge j L.length with z | z
    · have ebf := hbf (by omega)
      subst ebf
      refine br_f (nI_ge z (by omega)) ?_
      refine pd_yenc ?_
      have inn : ∀ e k mm : Nat, k + e = 4 → e < mm → j + k ≤ L.length → wY_feed_26 post (wY_feed_5 post key (pd_uI u) len (nI L.length) m) key (pd_uI u) (nI j) (pd_cip (pd_st key u (fun i => L.getD i 0) j).1 key) len (nI L.length) mm (pd_ac key u (fun i => L.getD i 0) j k) (nI k) w (pd_mx (pd_ot key u (fun i => L.getD i 0)) a (j + k)) M O P := by
        intro e
        induction e with
        | zero =>
          intro k mm hk hmm hjk
          obtain ⟨mm, rfl⟩ : ∃ m', mm = m' + 1 := ⟨mm - 1, by omega⟩
          have ek : k = 4 := by omega
          subst ek
          refine br_t (by decide) (nm_r (nI_add j 4) ?_)
          have q := ih (j + 4) m (pd_ac key u (fun i => L.getD i 0) j 4) (by omega) (by omega) (by omega) (by omega) (fun _ => pd_ac4 _ _ _ _)
          rw [show min (j + 4) L.length = j + 4 by omega] at q
          exact q
        | succ e ihe =>
          intro k mm hk hmm hjk
          obtain ⟨mm, rfl⟩ : ∃ m', mm = m' + 1 := ⟨mm - 1, by omega⟩
          have ejk : nI j + nI k = nI (j + k) := nI_add j k
          refine br_f (nI_ge (b := 4) (by omega) (by decide)) ?_
          rcases Nat.lt_or_ge (j + k) L.length with y | y
          · have hv : vp_in (nI j + nI k) 400 := by rw [ejk]; exact vp_in_nI (by omega) (by decide)
            have hk4 : k < 4 := by omega
            have emod : (j + k) % 4 = k := by omega
            have eot : nI (L.getD (j + k) 0) ^^^ ((((pd_cip (pd_st key u (fun i => L.getD i 0) j).1 key).toUInt32 >>> ((24 - 8 * nI k : Int32).toUInt32 &&& Int32.toUInt32 31)).toInt32) &&& 255) = nI (pd_ot key u (fun i => L.getD i 0) (j + k)) := by
              rw [pd_byX _ hk4, nx_xor]
              unfold pd_ot
              rw [pd_mk4 key u (fun i => L.getD i 0) hj k hk4, emod]
            have q := ihe (k + 1) mm (by omega) (by omega) (by omega)
            have ee : pd_ac key u (fun i => L.getD i 0) j (k + 1) = pd_ac key u (fun i => L.getD i 0) j k ||| nI (pd_nb key u (fun i => L.getD i 0) (j + k)) <<< ((24 - 8 * nI k : Int32) &&& 31) := by
              rw [pd_c24 k hk4]
              rfl
            rw [ee] at q
            refine br_f (by rw [ejk]; exact nI_ge y (by omega)) ⟨hv, nm_r (e' := nI (L.getD (j + k) 0)) ?_ (nm_r eot ⟨hv, nm_r (e' := pd_mx (pd_ot key u (fun i => L.getD i 0)) a (j + (k + 1))) ?_ ?_⟩)⟩
            · rw [ejk, nI_clamp (by omega), pd_mx_hi _ _ (Nat.le_refl _)]
              exact hD.2 _ (by omega) (by omega)
            · rw [ejk, nI_clamp (by omega)]
              exact pd_mx_s _ _ _
            · cases u with
              | false => exact br_t rfl (nm_e (nm_r (nI_1 k) q))
              | true => exact br_f pd_n10 (nm_e (nm_r (nI_1 k) q))
          · refine br_t (by rw [ejk]; exact nI_le y (by omega)) (nm_r (nI_add j 4) ?_)
            have q := ih (j + 4) m (pd_ac key u (fun i => L.getD i 0) j k) (by omega) (by omega) (by omega) (by omega) (fun h => absurd h (by omega))
            rw [show min (j + 4) L.length = j + k by omega] at q
            exact q
      have q := inn 4 0 5 (by omega) (by omega) (by omega)
      rw [show min j L.length = j + 0 by omega]
      exact ⟨5, q⟩
    · rw [show min j L.length = L.length by omega]
      exact br_t (nI_le z (by omega)) H
theorem pd_yfd {post : SY → Prop} {key uI : Int32} (u : Bool) (hu : uI = pd_uI u) (hL : L.length ≤ 120) (hD : pd_D 400 a n L) (H : post (len, n, w, pd_mx (pd_ot key u (fun i => L.getD i 0)) a L.length, M, O, P)) : wpY_feed post (len, n, w, a, M, O, P) key uI := by
  subst hu
  have e := hD.1
  subst e
  have q := pd_yfdL hL hD H (L.length + 1) 0 (L.length + 1) 0 (by omega) (by omega) (by omega) (by omega) (fun _ => rfl)
  rw [show min 0 L.length = 0 by omega, pd_mx_0] at q
  exact ⟨L.length + 1, q⟩
theorem pd_y78L {post : Int32 → SY → Prop} (hL : L.length ≤ 120) (h6 : 6 ≤ L.length) (hD : pd_D 400 a (nI L.length) L) (H : post (nI (L.length - 6)) (nI (L.length - 6), nI L.length, (fun i => nI (pd_kp t L 6 i)), a, M, O, P)) : ∀ (d i m : Nat), i + 6 + d = L.length → d < m → wY_decipher_78 post (nI (L.length - 6)) (nI L.length) m (nI i) (pd_kc (fun i => nI (t i)) L 6 i) a M O P := by
  intro d
  induction d with
  | zero =>
    intro i m hi hm
    obtain ⟨m, rfl⟩ : ∃ m', m = m' + 1 := ⟨m - 1, by omega⟩
    have e : i = L.length - 6 := by omega
    have e2 := pd_kc_e t L 6
    rw [← e] at e2
    refine br_t (nI_le (by omega) (by omega)) ?_
    rw [e2]
    exact H
  | succ d ih =>
    intro i m hi hm
    obtain ⟨m, rfl⟩ : ∃ m', m = m' + 1 := ⟨m - 1, by omega⟩
    have e6 : nI i + 6 = nI (i + 6) := nI_add i 6
    refine br_f (nI_ge (by omega) (by omega)) ⟨by rw [e6]; exact vp_in_nI (by omega) (by decide), vp_in_nI (by omega) (by decide), ?_⟩
    refine nm_r (e' := pd_kc (fun i => nI (t i)) L 6 (i + 1)) ?_ (nm_r (nI_1 i) (ih (i + 1) m (by omega) (by omega)))
    rw [e6, nI_clamp (by omega), nI_clamp (by omega), hD.2 (i + 6) (by omega) (by omega)]
    exact pd_kc_s _ L 6 i
end
theorem i_vc_encipher {k : Nat} {u : SX} {v : SY} (I : i_Rel k u v) (hk : k + 5 ≤ 2560) (v1 : Int32) (v2 : Int32) : wpX_encipher (fun r u' => wpY_encipher (fun r' v' => r' = r ∧ i_Rel (k + 5) u' v') v v1 v2) u v1 v2 := by
  obtain ⟨t, len, M, O, P, a, n, b, c, ht, hl, hK, rfl, rfl⟩ := I
  have l0 : (pd_LW [] v2).length = 4 := pd_LW_len [] v2
  obtain ⟨L, hLe, hLl, hLB⟩ : ∃ L, L = ((pd_LW [] v2 ++ [pd_by v2 2]) ++ [pd_by v2 3]) ++ pd_sl t 0 len ∧ L.length = len + 6 ∧ pd_By L := by
    refine ⟨_, rfl, ?_, ?_⟩
    · rw [pd_app, pd_len1, pd_len1, pd_sl_len, l0]
      omega
    · exact pd_By_app (pd_By_put (pd_By_put (pd_LW_By pd_By_nil v2) (pd_by_lt _ _)) (pd_by_lt _ _)) (pd_sl_By ht _ _)
  have hFl := pd_FL_len v1 false L
  refine pd_fin (k + 5) (r := nI ((pd_FL v1 false L).length - 0)) (L := pd_FL v1 false L) (f := 0) ht hl hK (pd_FL_By hLB) (fun post => wpX_encipher post (nI len, n, (fun i => nI (t i)), a, M, O, P) v1 v2) (fun post => wpY_encipher post (nI len, c, (fun i => nI (t i)), b, M, O, P) v1 v2) ?_ ?_
  · intro post H
    unfold wpX_encipher
    dsimp only
    refine pd_xpwd (pd_D_nil 120 a) (by simp) (fun a1 n1 d1 => ?_)
    refine pd_xput (pd_by v2 2) (d1.2 2 (by omega) (by omega)) d1 (by omega) (fun a2 n2 d2 => ?_)
    refine pd_xput (pd_by v2 3) (d2.2 3 (by rw [pd_len1]; omega) (by omega)) d2 (by rw [pd_len1]; omega) (fun a3 n3 d3 => ?_)
    refine pd_xpw 0 len rfl rfl (by omega) d3 (by rw [pd_len1, pd_len1]; omega) (fun a4 n4 d4 => ?_)
    rw [← hLe] at d4
    refine pd_xfb false rfl (by omega) d4 ?_
    rcases Nat.lt_or_ge 120 L.length with z | z
    · exact br_f (by rw [d4.1]; exact nI_ge (a := 120) z (by omega)) ((H _ _).1 (by omega))
    · rw [show min L.length 120 = L.length by omega]
      exact pd_XKb (by omega) H (pd_FL_D d4 z)
  · intro post H
    unfold wpY_encipher
    dsimp only
    refine pd_ypwd (pd_D_nil 400 b) (by simp) (fun a1 n1 d1 => ?_)
    refine pd_yput (pd_by v2 2) (pd_byS v2 (k := 2) (by omega)) d1 (by omega) (fun a2 n2 d2 => ?_)
    refine pd_yput (pd_by v2 3) (pd_by3 v2) d2 (by rw [pd_len1]; omega) (fun a3 n3 d3 => ?_)
    refine pd_ypw 0 len rfl (by rw [Nat.zero_add]) ht (by omega) d3 (by rw [pd_len1, pd_len1]; omega) (fun a4 n4 d4 => ?_)
    rw [← hLe] at d4
    rcases Nat.lt_or_ge 120 L.length with z | z
    · exact br_f (by rw [d4.1]; exact nI_ge (a := 120) z (by omega)) ((H _ _).1 (by omega))
    · refine br_t (by rw [d4.1]; exact nI_le (b := 120) z (by decide)) ?_
      refine pd_yfd false rfl z d4 ?_
      exact pd_YKb (by omega) H (pd_FL_D d4 (by omega))
theorem i_vc_decipher {k : Nat} {u : SX} {v : SY} (I : i_Rel k u v) (hk : k + 5 ≤ 2560) (v1 : Int32) : wpX_decipher (fun r u' => wpY_decipher (fun r' v' => r' = r ∧ i_Rel (k + 5) u' v') v v1) u v1 := by
  have J := I
  obtain ⟨t, len, M, O, P, a, n, b, c, ht, hl, hK, rfl, rfl⟩ := I
  rcases Nat.lt_or_ge len 6 with z | z
  · have q : ¬ 6 ≤ nI len := nI_ge (b := 6) z (by decide)
    exact br_f q (br_f q ⟨rfl, J⟩)
  · have q : 6 ≤ nI len := nI_le (a := 6) z (by omega)
    obtain ⟨L, hLe, hLl, hLB⟩ : ∃ L, L = [] ++ pd_sl t 0 len ∧ L.length = len ∧ pd_By L := ⟨_, rfl, by rw [pd_app, pd_sl_len]; simp, pd_By_app pd_By_nil (pd_sl_By ht _ _)⟩
    have hFl := pd_FL_len v1 true L
    have hFB := pd_FL_By (key := v1) (u := true) hLB
    -- both to the look at the bytes
    have gX : ∀ post : Int32 → SX → Prop, (∀ a' n', pd_D 120 a' n' (pd_FL v1 true L) → ((a' 4 = a' 2 → ((a' 5 = a' 3 → wpX_keepDraft post (nI len, n', (fun i => nI (t i)), a', M, O, P) 6) ∧ (¬ a' 5 = a' 3 → post (-4) (nI len, n', (fun i => nI (t i)), a', M, O, P)))) ∧ (¬ a' 4 = a' 2 → post (-4) (nI len, n', (fun i => nI (t i)), a', M, O, P)))) → wpX_decipher post (nI len, n, (fun i => nI (t i)), a, M, O, P) v1 := by
      intro post H
      refine br_t q ?_
      refine pd_xpw 0 len rfl rfl (by omega) (pd_D_nil 120 a) (by simp) (fun a4 n4 d4 => ?_)
      rw [← hLe] at d4
      refine pd_xfb true rfl (by omega) d4 ?_
      rw [show min L.length 120 = L.length by omega]
      exact H _ _ (pd_FL_D d4 (by omega))
    have gY : ∀ post : Int32 → SY → Prop, (∀ a' n', pd_D 400 a' n' (pd_FL v1 true L) → ((a' 4 = a' 2 → ((a' 5 = a' 3 → ∀ y, y = nI len - 6 → ∃ m, wY_decipher_78 post y n' m 0 (fun i => nI (t i)) a' M O P) ∧ (¬ a' 5 = a' 3 → post (-4) (nI len, n', (fun i => nI (t i)), a', M, O, P)))) ∧ (¬ a' 4 = a' 2 → post (-4) (nI len, n', (fun i => nI (t i)), a', M, O, P)))) → wpY_decipher post (nI len, c, (fun i => nI (t i)), b, M, O, P) v1 := by
      intro post H
      refine br_t q ?_
      refine pd_ypw 0 len rfl (by rw [Nat.zero_add]) ht (by omega) (pd_D_nil 400 b) (by simp) (fun a4 n4 d4 => ?_)
      rw [← hLe] at d4
      refine pd_yfd true rfl (by omega) d4 ?_
      exact H _ _ (pd_FL_D d4 (by omega))
    have cmp : ∀ (cap : Nat) (a' : Nat → Int32) (n' : Int32) (i j : Nat), 120 ≤ cap → i < 6 → j < 6 → pd_D cap a' n' (pd_FL v1 true L) → (a' i = a' j ↔ (pd_FL v1 true L).getD i 0 = (pd_FL v1 true L).getD j 0) := by
      intro cap a' n' i j h0 h1 h2 hD
      rw [hD.2 i (by omega) (by omega), hD.2 j (by omega) (by omega)]
      have b1 := pd_By_get hFB i
      have b2 := pd_By_get hFB j
      exact nI_eq (by omega) (by omega)
    generalize pd_FL v1 true L = F at gX gY cmp hFl hFB
    by_cases h42 : F.getD 4 0 = F.getD 2 0
    · by_cases h53 : F.getD 5 0 = F.getD 3 0
      · refine pd_fin (k + 5) (r := nI (F.length - 6)) (L := F) (f := 6) ht hl hK hFB (fun post => wpX_decipher post (nI len, n, (fun i => nI (t i)), a, M, O, P) v1) (fun post => wpY_decipher post (nI len, c, (fun i => nI (t i)), b, M, O, P) v1) ?_ ?_
        · intro post H
          refine gX post (fun a' n' hD => ?_)
          refine br_t ((cmp 120 a' n' 4 2 (by omega) (by omega) (by omega) hD).mpr h42) (br_t ((cmp 120 a' n' 5 3 (by omega) (by omega) (by omega) hD).mpr h53) ?_)
          exact pd_xkeep 6 rfl (by omega) (by omega) hD (H a' n').1 (H a' n').2
        · intro post H
          refine gY post (fun a' n' hD => ?_)
          refine br_t ((cmp 400 a' n' 4 2 (by omega) (by omega) (by omega) hD).mpr h42) (br_t ((cmp 400 a' n' 5 3 (by omega) (by omega) (by omega) hD).mpr h53) ?_)
          have el : nI len - 6 = nI (F.length - 6) := by rw [hFl, hLl]; exact pk_sub (b := 6) z
          refine nm_r el ⟨F.length + 1, ?_⟩
          have en := hD.1
          subst en
          have q := pd_y78L (by omega) (by omega) hD ((H a' _).2 (by omega)) (F.length - 6) 0 (F.length + 1) (by omega) (by omega)
          rw [pd_kc_0] at q
          exact q
      · refine pd_finC (k + 5) (r := -4) ht hl hK (fun post => wpX_decipher post (nI len, n, (fun i => nI (t i)), a, M, O, P) v1) (fun post => wpY_decipher post (nI len, c, (fun i => nI (t i)), b, M, O, P) v1) ?_ ?_
        · intro post H
          refine gX post (fun a' n' hD => ?_)
          exact br_t ((cmp 120 a' n' 4 2 (by omega) (by omega) (by omega) hD).mpr h42) (br_f (fun e => h53 ((cmp 120 a' n' 5 3 (by omega) (by omega) (by omega) hD).mp e)) (H a' n'))
        · intro post H
          refine gY post (fun a' n' hD => ?_)
          exact br_t ((cmp 400 a' n' 4 2 (by omega) (by omega) (by omega) hD).mpr h42) (br_f (fun e => h53 ((cmp 400 a' n' 5 3 (by omega) (by omega) (by omega) hD).mp e)) (H a' n'))
    · refine pd_finC (k + 5) (r := -4) ht hl hK (fun post => wpX_decipher post (nI len, n, (fun i => nI (t i)), a, M, O, P) v1) (fun post => wpY_decipher post (nI len, c, (fun i => nI (t i)), b, M, O, P) v1) ?_ ?_
      · intro post H
        refine gX post (fun a' n' hD => ?_)
        exact br_f (fun e => h42 ((cmp 120 a' n' 4 2 (by omega) (by omega) (by omega) hD).mp e)) (H a' n')
      · intro post H
        refine gY post (fun a' n' hD => ?_)
        exact br_f (fun e => h42 ((cmp 400 a' n' 4 2 (by omega) (by omega) (by omega) hD).mp e)) (H a' n')
end
section
/-! key -/
def pd_Pr (x : Int32) : Prop := ∃ p, x = nI p ∧ 257 ≤ p ∧ p ≤ 46337 ∧ ¬ ∃ d, 2 ≤ d ∧ d ≤ 215 ∧ p % d = 0
section
variable {len n : Int32} {w a : Nat → Int32} {t : Nat → Nat} {M O P : Nat → Int64}
theorem pd_xpmL {post : Int32 → Prop} {p : Nat} (hp1 : 257 ≤ p) (hp2 : p ≤ 46337) (h1 : (¬ ∃ d, 2 ≤ d ∧ d ≤ 215 ∧ p % d = 0) → post 1) (h0 : (∃ d, 2 ≤ d ∧ d ≤ 215 ∧ p % d = 0) → post 0) : ∀ e d m : Nat, d + e = 216 → e < m → 2 ≤ d → (∀ c, 2 ≤ c → c < d → ¬ p % c = 0) → wX_isKeyPrime_17 post (nI p) len n w a M O P m (nI d) := by
  intro e
  induction e with
  | zero =>
    intro d m hd hm h2 hc
    obtain ⟨m, rfl⟩ : ∃ m', m = m' + 1 := ⟨m - 1, by omega⟩
    have ed : d = 216 := by omega
    subst ed
    exact br_t (by decide) (h1 (fun ⟨c, c1, c2, c3⟩ => hc c c1 (by omega) c3))
  | succ e ih =>
    intro d m hd hm h2 hc
    obtain ⟨m, rfl⟩ : ∃ m', m = m' + 1 := ⟨m - 1, by omega⟩
    have er : nI p - nI p / nI d * nI d = nI (p % d) := pk_rem (by omega) (by omega) (by omega)
    have hb : p % d < d := Nat.mod_lt _ (by omega)
    refine br_f (nI_nlt (a := 215) (by omega) (by decide)) ⟨nI_ne0 (by omega) (by omega), pk_eq (p % d) 0 (fun z => h0 ⟨d, h2, by omega, z⟩) (fun z => nm_r (nI_1 d) (ih (d + 1) m (by omega) (by omega) (by omega) ?_)) er⟩
    intro c c1 c2
    rcases Nat.lt_or_ge c d with y | y
    · exact hc c c1 y
    · rw [show c = d by omega]
      exact z
theorem pd_ypmL {post : Int32 → Prop} {p : Nat} (hp1 : 257 ≤ p) (hp2 : p ≤ 46337) (h1 : (¬ ∃ d, 2 ≤ d ∧ d ≤ 215 ∧ p % d = 0) → post 1) (h0 : (∃ d, 2 ≤ d ∧ d ≤ 215 ∧ p % d = 0) → post 0) : ∀ e d m : Nat, d + e = 217 → e < m → 2 ≤ d → (∀ c, 2 ≤ c → c < d → ¬ p % c = 0) → wY_prime_17 post (nI p) m (nI d) := by
  have stop : ∀ d, p < d * d → (∀ c, 2 ≤ c → c < d → ¬ p % c = 0) → post 1 := by
    intro d hd hc
    refine h1 (fun h => ?_)
    obtain ⟨c, c1, c2, c3⟩ := (pd_pr hp1 hp2).mp h
    refine hc c c1 ?_ c3
    apply Nat.lt_of_not_le
    intro y
    have := Nat.mul_le_mul y y
    omega
  intro e
  induction e with
  | zero =>
    intro d m hd hm h2 hc
    obtain ⟨m, rfl⟩ : ∃ m', m = m' + 1 := ⟨m - 1, by omega⟩
    have ed : d = 217 := by omega
    subst ed
    exact br_t (by rw [pk_mul]; exact nI_lt (by omega) (by decide)) (stop 217 (by omega) hc)
  | succ e ih =>
    intro d m hd hm h2 hc
    obtain ⟨m, rfl⟩ : ∃ m', m = m' + 1 := ⟨m - 1, by omega⟩
    have er : nI p - nI p / nI d * nI d = nI (p % d) := pk_rem (by omega) (by omega) (by omega)
    have hb : p % d < d := Nat.mod_lt _ (by omega)
    have hdd : d * d ≤ 217 * 217 := Nat.mul_le_mul (by omega) (by omega)
    refine pk_lt p (d * d) (fun y => stop d y hc) (fun y => ⟨nI_ne0 (by omega) (by omega), pk_eq (p % d) 0 (fun z => h0 ((pd_pr hp1 hp2).mpr ⟨d, h2, y, z⟩)) (fun z => nm_r (nI_1 d) (ih (d + 1) m (by omega) (by omega) (by omega) ?_)) er⟩) rfl (pk_mul d d)
    intro c c1 c2
    rcases Nat.lt_or_ge c d with x | x
    · exact hc c c1 x
    · rw [show c = d by omega]
      exact z
theorem pd_prc (x : Int32) : (x < 257 ∧ ¬ pd_Pr x) ∨ (¬ x < 257 ∧ ¬ x ≤ 46337 ∧ ¬ pd_Pr x) ∨ ∃ p, x = nI p ∧ 257 ≤ p ∧ p ≤ 46337 := by
  rcases pd_cs 257 x with h | ⟨j, hj, hj2, rfl⟩
  · rcases h with z | ⟨j, h1, h2, rfl⟩
    · refine Or.inl ⟨Int32.lt_trans z (by decide), ?_⟩
      rintro ⟨p, rfl, p1, p2, _⟩
      exact nI_pos (by omega) z
    · rcases Nat.lt_or_ge 46337 j with y | y
      · refine Or.inr (Or.inl ⟨nI_nlt (b := 257) h1 h2, nI_ge (a := 46337) y h2, ?_⟩)
        rintro ⟨p, e, p1, p2, _⟩
        have := (nI_eq h2 (by omega)).mp e
        omega
      · exact Or.inr (Or.inr ⟨j, rfl, h1, y⟩)
  · refine Or.inl ⟨nI_lt (b := 257) hj (by decide), ?_⟩
    rintro ⟨p, e, p1, p2, _⟩
    have := (nI_eq hj2 (by omega)).mp e
    omega
theorem pd_Prn {p : Nat} (h1 : 257 ≤ p) (h2 : p ≤ 46337) : pd_Pr (nI p) ↔ ¬ ∃ d, 2 ≤ d ∧ d ≤ 215 ∧ p % d = 0 := by
  constructor
  · rintro ⟨q, e, q1, q2, q3⟩
    have := (nI_eq (by omega) (by omega)).mp e
    subst this
    exact q3
  · intro h
    exact ⟨p, rfl, h1, h2, h⟩
theorem pd_xkp {post : Int32 → Prop} {x : Int32} (h1 : pd_Pr x → post 1) (h0 : ¬ pd_Pr x → post 0) : wpX_isKeyPrime post (len, n, w, a, M, O, P) x := by
  rcases pd_prc x with ⟨z, h⟩ | ⟨z, y, h⟩ | ⟨p, rfl, p1, p2⟩
  · exact br_t z (h0 h)
  · exact br_f z (br_f y (h0 h))
  · refine br_f (nI_nlt (b := 257) p1 (by omega)) (br_t (nI_le (b := 46337) p2 (by decide)) ⟨215, ?_⟩)
    exact pd_xpmL p1 p2 (fun h => h1 ((pd_Prn p1 p2).mpr h)) (fun h => h0 (fun q => (pd_Prn p1 p2).mp q h)) 214 2 215 (by omega) (by omega) (by omega) (fun c c1 c2 => absurd c2 (by omega))
theorem pd_ykp {post : Int32 → Prop} {x : Int32} (h1 : pd_Pr x → post 1) (h0 : ¬ pd_Pr x → post 0) : wpY_prime post x := by
  rcases pd_prc x with ⟨z, h⟩ | ⟨z, y, h⟩ | ⟨p, rfl, p1, p2⟩
  · exact br_t z (h0 h)
  · exact br_f z (br_f y (h0 h))
  · refine br_f (nI_nlt (b := 257) p1 (by omega)) (br_t (nI_le (b := 46337) p2 (by decide)) ⟨216, ?_⟩)
    exact pd_ypmL p1 p2 (fun h => h1 ((pd_Prn p1 p2).mpr h)) (fun h => h0 (fun q => (pd_Prn p1 p2).mp q h)) 215 2 216 (by omega) (by omega) (by omega) (fun c c1 c2 => absurd c2 (by omega))
theorem pd_lI (n : Nat) : lN n = Int64.ofInt n := Int64.ofInt_eq_ofNat.symm
theorem pd_x78 {post : Int64 → Prop} {e m r0 : Nat} {f0 f1 : Int} (hm : 1 < m) (hm2 : m < 2 ^ 31) (h : pd_EI e m r0 0 f0 f1) (hr : r0 ≤ m) (H : ∀ d, pd_Inv e m d → post (lN d)) : wX_inverse_78 post (lN m) (lN r0) (Int64.ofInt f0) len n w a M O P := by
  obtain ⟨g1, g2, g3, g4⟩ := pd_EI_e hm h
  by_cases z : r0 = 1
  · obtain ⟨d, ed, hd⟩ := g4 z
    have q := H d hd
    have et : (Int64.ofInt f0).toInt = f0 := Int64.toInt_ofInt_of_le (by omega) (by omega)
    refine br_t (by rw [z]; rfl) ?_
    by_cases y : f0 < 0
    · rw [if_pos y] at ed
      refine br_f ?_ ?_
      · rw [Int64.le_iff_toInt_le, et]
        intro x
        have : (0 : Int64).toInt = 0 := rfl
        omega
      · rw [pd_lI m, ← Int64.ofInt_add, ← ed, ← pd_lI]
        exact q
    · rw [if_neg y] at ed
      refine br_t ?_ ?_
      · rw [Int64.le_iff_toInt_le, et]
        have : (0 : Int64).toInt = 0 := rfl
        omega
      · rw [← ed, ← pd_lI]
        exact q
  · refine br_f ?_ (H 0 (Or.inr ⟨by omega, rfl⟩))
    intro y
    exact z ((lN_eq (b := 1) (by omega) (by decide)).mp y)
theorem pd_xinvL {post : Int64 → Prop} {e m : Nat} (hm : 1 < m) (hm2 : m < 2 ^ 31) (H : ∀ d, pd_Inv e m d → post (lN d)) : ∀ (d : Nat) (r0 r1 : Nat) (f0 f1 : Int) (st mm : Nat), st + d = 64 → d < mm → pd_EI e m r0 r1 f0 f1 → r0 ≤ m → r0 * r1 < 2 ^ d → wX_inverse_15 post (lN m) len n w a M O P mm (lN r0) (lN r1) (Int64.ofInt f0) (Int64.ofInt f1) (nI st) := by
  intro d
  induction d with
  | zero =>
    intro r0 r1 f0 f1 st mm hst hmm hE hr hp
    obtain ⟨mm, rfl⟩ : ∃ m', mm = m' + 1 := ⟨mm - 1, by omega⟩
    have est : st = 64 := by omega
    subst est
    have hlt := hE.1
    have h1 : r1 = 0 := by
      apply Nat.eq_zero_of_not_pos
      intro y
      have := Nat.mul_le_mul (show 1 ≤ r0 by omega) y
      omega
    subst h1
    exact br_t (by decide) (pd_x78 hm hm2 hE hr H)
  | succ d ih =>
    intro r0 r1 f0 f1 st mm hst hmm hE hr hp
    obtain ⟨mm, rfl⟩ : ∃ m', mm = m' + 1 := ⟨mm - 1, by omega⟩
    have hlt := hE.1
    refine br_f (nI_ge (b := 64) (by omega) (by decide)) ?_
    rcases Nat.eq_zero_or_pos r1 with z | z
    · subst z
      exact br_t rfl (pd_x78 hm hm2 hE hr H)
    · have ne : ¬ lN r1 = 0 := fun y => absurd ((lN_eq (b := 0) (by omega) (by decide)).mp y) (by omega)
      have ed : lN r0 / lN r1 = lN (r0 / r1) := pk_lDiv (by omega) z (by omega)
      have em : lN r0 - lN (r0 / r1) * lN r1 = lN (r0 % r1) := by
        rw [lN_mul, lN_sub (Nat.div_mul_le_self r0 r1)]
        exact congrArg lN (by have := Nat.div_add_mod' r0 r1; omega)
      have ef : Int64.ofInt f0 - lN (r0 / r1) * Int64.ofInt f1 = Int64.ofInt (f0 - (r0 / r1 : Nat) * f1) := by
        rw [pd_lI, ← Int64.ofInt_mul, ← Int64.ofInt_sub]
      have hE' := pd_EI_s hE z
      have hh := pd_half hlt z hp
      exact br_f ne ⟨ne, nm_r ed (nm_r em (nm_r ef (nm_r (nI_1 st) (ih r1 (r0 % r1) f1 _ (st + 1) mm (by omega) (by omega) hE' (by omega) hh))))⟩
theorem pd_xinv {post : Int64 → Prop} {x y : Int64} (e m : Nat) (hx : x = lN e) (hy : y = lN m) (hm2 : m < 2 ^ 31) (he : 1 ≤ e) (he2 : e ≤ 65537) (hem : e < m) (H : ∀ d, pd_Inv e m d → post (lN d)) : wpX_inverse post (len, n, w, a, M, O, P) x y := by
  subst hx hy
  refine ⟨65, ?_⟩
  have hp : m * e ≤ 2 ^ 31 * 65537 := Nat.mul_le_mul (by omega) he2
  exact pd_xinvL (by omega) hm2 H 64 m e 0 1 0 65 (by omega) (by omega) (pd_EI_0 hem) (Nat.le_refl _) (by omega)
theorem pd_y59 {post : Int32 → SY → Prop} {x1 x2 x3 : Int32} {e m dd : Nat} (he : 3 ≤ e) (he2 : e ≤ 65537) (hm2 : m < 2 ^ 31) (hI : pd_Inv e m dd) (H : wY_key_113 post x1 x2 x3 (nI e) (lN dd) len n w a M O P) : ∀ g j mm : Nat, j + g = e → g + 1 < mm → 1 ≤ j → (∀ i, 1 ≤ i → i < j → ¬ (i * m + 1) % e = 0) → wY_key_59 post x1 x2 x3 (nI e) (lN m) len n w a M O P mm 0 (lN j) := by
  have el : (nI e).toInt64 = lN e := nI_l (by omega)
  intro g
  induction g with
  | zero =>
    intro j mm hj hmm h1 hno
    obtain ⟨mm, rfl⟩ : ∃ m', mm = m' + 1 := ⟨mm - 1, by omega⟩
    have ej : j = e := by omega
    subst ej
    refine br_t (by rw [el]; exact (lN_le (by omega) (by omega)).mpr (Nat.le_refl _)) ?_
    rcases hI with ⟨i1, i2, i, i3⟩ | ⟨i1, i2⟩
    · obtain ⟨p1, p2, p3, p4, p5, p6⟩ := pd_ys (by omega) i2 i3
      exact absurd p3 (hno i p1 p2)
    · subst i2
      exact H
  | succ g ih =>
    intro j mm hj hmm h1 hno
    obtain ⟨mm, rfl⟩ : ∃ m', mm = m' + 2 := ⟨mm - 2, by omega⟩
    have hb : j * m ≤ 65537 * 2 ^ 31 := Nat.mul_le_mul (by omega) (by omega)
    have en : (lN j * lN m) + 1 = lN (j * m + 1) := by rw [lN_mul, lN_1]
    have ne : ¬ lN e = 0 := fun y => absurd ((lN_eq (b := 0) (by omega) (by decide)).mp y) (by omega)
    have er : lN (j * m + 1) - lN (j * m + 1) / lN e * lN e = lN ((j * m + 1) % e) := pk_lRem (by omega) (by omega) (by omega)
    have ed : lN (j * m + 1) / lN e = lN ((j * m + 1) / e) := pk_lDiv (by omega) (by omega) (by omega)
    have hlt : (j * m + 1) % e < e := Nat.mod_lt _ (by omega)
    unfold wY_key_59
    rw [el, en, er, ed]
    refine br_f (fun y => absurd ((lN_le (by omega) (by omega)).mp y) (by omega)) (br_t rfl ⟨ne, ?_⟩)
    by_cases z : (j * m + 1) % e = 0
    · refine br_t (by rw [z]; rfl) ⟨ne, ?_⟩
      rcases hI with ⟨i1, i2, i, i3⟩ | ⟨i1, i2⟩
      · obtain ⟨p1, p2, p3, p4, p5, p6⟩ := pd_ys (by omega) i2 i3
        have ej := p6 j (by omega) z
        subst ej
        refine nm_r (by rw [p4]) (nm_r (lN_1 j) ?_)
        have nd : ¬ lN dd = 0 := fun y => absurd ((lN_eq (b := 0) (by omega) (by decide)).mp y) (by omega)
        exact br_c (fun _ => H) (fun _ => br_f nd H)
      · exact absurd z (pd_yn i1 j)
    · refine br_f (fun y => z ((lN_eq (b := 0) (by omega) (by decide)).mp y)) (nm_r (lN_1 j) (ih (j + 1) (mm + 1) (by omega) (by omega) (by omega) ?_))
      intro i i1 i2
      rcases Nat.lt_or_ge i j with x | x
      · exact hno i i1 x
      · rw [show i = j by omega]
        exact z
end
theorem pd_K_upd {M O P : Nat → Int64} {k m e d : Nat} (hK : pd_K M O P) (h0 : 0 < m) (h1 : m < 2 ^ 31) (h2 : e < 2 ^ 31) (h3 : d < 2 ^ 31) : pd_K (vp_updL M k (lN m)) (vp_updL O k (lN e)) (vp_updL P k (lN d)) := by
  intro j hj
  by_cases z : j = k
  · subst z
    exact Or.inr ⟨m, e, d, pk_uLs, pk_uLs, pk_uLs, h0, h1, h2, h3⟩
  · rw [pk_uLn z, pk_uLn z, pk_uLn z]
    exact hK j hj
theorem i_vc_key {k : Nat} {u : SX} {v : SY} (I : i_Rel k u v) (hk : k + 5 ≤ 2560) (v1 : Int32) (v2 : Int32) (v3 : Int32) (v4 : Int32) : wpX_key (fun r u' => wpY_key (fun r' v' => r' = r ∧ i_Rel (k + 5) u' v') v v1 v2 v3 v4) u v1 v2 v3 v4 := by
  have J := I
  obtain ⟨t, len, M, O, P, a, n, b, c, ht, hl, hK, rfl, rfl⟩ := I
  by_cases good : (∃ j, j < 3 ∧ v1 = nI j) ∧ pd_Pr v2 ∧ pd_Pr v3 ∧ ¬ v2 = v3 ∧ ¬ v4 < 3 ∧ v4 ≤ 65537
  · obtain ⟨⟨j, hj, rfl⟩, hp, hq, hne, he1, he2⟩ := good
    have hp' := hp
    have hq' := hq
    obtain ⟨p, rfl, p1, p2, _⟩ := hp'
    obtain ⟨q, rfl, q1, q2, _⟩ := hq'
    have hpq : p ≠ q := fun h => hne (congrArg nI h)
    obtain ⟨e, g1, g2, rfl⟩ : ∃ e, 3 ≤ e ∧ e ≤ 65537 ∧ v4 = nI e := by
      rcases pd_cs 65538 v4 with h | ⟨e, h1, h2, rfl⟩
      · rcases h with z | ⟨e, h1, h2, rfl⟩
        · exact absurd (Int32.lt_trans z (by decide)) he1
        · exact absurd he2 (nI_ge (a := 65537) (by omega) h2)
      · refine ⟨e, ?_, by omega, rfl⟩
        apply Nat.le_of_not_lt
        intro y
        exact he1 (nI_lt (b := 3) y (by decide))
    have ep : (nI p).toInt64 = lN p := nI_l (by omega)
    have eq : (nI q).toInt64 = lN q := nI_l (by omega)
    have ee : (nI e).toInt64 = lN e := nI_l (by omega)
    have ephi : ((nI p).toInt64 - 1) * ((nI q).toInt64 - 1) = lN ((p - 1) * (q - 1)) := by
      have a1 : lN p - 1 = lN (p - 1) := lN_sub (b := 1) (by omega)
      have a2 : lN q - 1 = lN (q - 1) := lN_sub (b := 1) (by omega)
      rw [ep, eq, a1, a2, lN_mul]
    have epq : (nI p).toInt64 * (nI q).toInt64 = lN (p * q) := by rw [ep, eq, lN_mul]
    have hphi1 : (p - 1) * (q - 1) ≤ 46336 * 46336 := Nat.mul_le_mul (by omega) (by omega)
    have hphi2 : 65792 ≤ (p - 1) * (q - 1) := by
      rcases Nat.lt_or_ge p q with z | z
      · have := Nat.mul_le_mul (show 256 ≤ p - 1 by omega) (show 257 ≤ q - 1 by omega)
        omega
      · have := Nat.mul_le_mul (show 257 ≤ p - 1 by omega) (show 256 ≤ q - 1 by omega)
        omega
    have hm1 : p * q ≤ 46337 * 46337 := Nat.mul_le_mul p2 q2
    have hm0 : 1 * 1 ≤ p * q := Nat.mul_le_mul (by omega) (by omega)
    have hv : vp_in (nI j) 3 := vp_in_nI hj (by decide)
    have ecl : (nI j).toNatClampNeg = j := nI_clamp (by omega)
    have kneg : ¬ nI j < 0 := nI_pos (by omega)
    have k3 : ¬ 3 ≤ nI j := nI_ge (b := 3) hj (by decide)
    refine br_f kneg (br_f k3 (br_f hne (br_f he1 (br_t he2 ?_))))
    refine pd_xkp (fun _ => ?_) (fun h => absurd hp h)
    refine br_f pd_n10 ?_
    refine pd_xkp (fun _ => ?_) (fun h => absurd hq h)
    refine br_f pd_n10 ?_
    refine pd_xinv e ((p - 1) * (q - 1)) ee ephi (by omega) (by omega) g2 (by omega) (fun dd hI => ?_)
    have hdd : dd < 2 ^ 31 := by
      rcases hI with ⟨_, i2, _⟩ | ⟨_, i2⟩ <;> omega
    -- Y up to its search
    have hY : ∀ post : Int32 → SY → Prop, wY_key_113 post (nI j) (nI p) (nI q) (nI e) (lN dd) (nI len) c (fun i => nI (t i)) b M O P → wpY_key post (nI len, c, (fun i => nI (t i)), b, M, O, P) (nI j) (nI p) (nI q) (nI e) := by
      intro post H
      unfold wpY_key
      dsimp only
      refine pd_yO0 3 rfl (by decide) hj ?_
      refine br_t rfl ?_
      refine pd_ykp (fun _ => ?_) (fun h => absurd hp h)
      refine br_f pd_n10 ?_
      refine pd_ykp (fun _ => ?_) (fun h => absurd hq h)
      refine br_f pd_n10 (br_f hne (br_f he1 (br_t he2 (nm_r ephi ⟨e + 1, ?_⟩))))
      exact pd_y59 g1 g2 (by omega) hI H (e - 1) 1 (e + 1) (by omega) (by omega) (by omega) (fun i i1 i2 => absurd i2 (by omega))
    by_cases z : dd = 0
    · subst z
      refine br_t rfl (hY _ ?_)
      exact br_t rfl ⟨rfl, J⟩
    · have nd : ¬ lN dd = 0 := fun y => z ((lN_eq (b := 0) hdd (by decide)).mp y)
      refine br_f nd ⟨hv, nm_r (by rw [ecl, epq]) ⟨hv, nm_r (by rw [ecl, ee]) ⟨hv, nm_r (by rw [ecl]) (hY _ ?_)⟩⟩⟩
      refine br_f nd ⟨hv, nm_r (by rw [ecl, epq]) ⟨hv, nm_r (by rw [ecl, ee]) ⟨hv, nm_r (by rw [ecl]) ⟨rfl, ?_⟩⟩⟩⟩
      exact pd_R _ ht hl (pd_K_upd hK (by omega) (by omega) (by omega) hdd) _ _ _ _
  · have hX : ∀ post : Int32 → SX → Prop, post (-1) (nI len, n, (fun i => nI (t i)), a, M, O, P) → wpX_key post (nI len, n, (fun i => nI (t i)), a, M, O, P) v1 v2 v3 v4 := by
      intro post H
      rcases pd_cs 3 v1 with h | ⟨j, hj, _, rfl⟩
      · rcases h with z | ⟨j, h1, h2, rfl⟩
        · exact br_t z H
        · exact br_f (nI_pos h2) (br_t (nI_le (a := 3) h1 h2) H)
      · refine br_f (nI_pos (by omega)) (br_f (nI_ge (b := 3) hj (by decide)) (br_c (fun _ => H) (fun hne => br_c (fun _ => H) (fun he1 => br_c (fun he2 => ?_) (fun _ => H)))))
        refine pd_xkp (fun hp => ?_) (fun h => br_t rfl H)
        refine br_f pd_n10 ?_
        refine pd_xkp (fun hq => ?_) (fun h => br_t rfl H)
        exact absurd ⟨⟨j, hj, rfl⟩, hp, hq, hne, he1, he2⟩ good
    have hY : ∀ post : Int32 → SY → Prop, post (-1) (nI len, c, (fun i => nI (t i)), b, M, O, P) → wpY_key post (nI len, c, (fun i => nI (t i)), b, M, O, P) v1 v2 v3 v4 := by
      intro post H
      unfold wpY_key
      dsimp only
      rcases pd_cs 3 v1 with h | ⟨j, hj, _, rfl⟩
      · refine pd_yO1 3 rfl h ?_
        exact br_f pd_n10 H
      · refine pd_yO0 3 rfl (by decide) hj ?_
        refine br_t rfl ?_
        refine pd_ykp (fun hp => ?_) (fun h => br_t rfl H)
        refine br_f pd_n10 ?_
        refine pd_ykp (fun hq => ?_) (fun h => br_t rfl H)
        exact br_f pd_n10 (br_c (fun _ => H) (fun hne => br_c (fun _ => H) (fun he1 => br_c (fun he2 => absurd ⟨⟨j, hj, rfl⟩, hp, hq, hne, he1, he2⟩ good) (fun _ => H))))
    exact hX _ (hY _ ⟨rfl, J⟩)
end
section
/-! sign, verify, raise -/
section
variable {len n : Int32} {w a : Nat → Int32} {t : Nat → Nat} {M O P : Nat → Int64} {L : List Nat}
def pd_nok (M : Nat → Int64) (x : Int32) : Prop := pd_bad 3 x ∨ ∃ j, j < 3 ∧ x = nI j ∧ M j = 0
theorem pd_xk0 {post : Int32 → Prop} {x : Int32} (h : pd_nok M x) (H : post 0) : wpX_isKey post (len, n, w, a, M, O, P) x := by
  rcases h with (z | ⟨j, h1, h2, rfl⟩) | ⟨j, hj, rfl, h0⟩
  · exact br_t z H
  · exact br_f (nI_pos h2) (br_t (nI_le (a := 3) h1 h2) H)
  · refine br_f (nI_pos (by omega)) (br_f (nI_ge (b := 3) hj (by decide)) ⟨vp_in_nI hj (by decide), br_t ?_ H⟩)
    rw [nI_clamp (by omega), h0]
    decide
theorem pd_xk1 {post : Int32 → Prop} {j m : Nat} (hj : j < 3) (hM : M j = lN m) (h0 : 0 < m) (h1 : m < 2 ^ 31) (H : post 1) : wpX_isKey post (len, n, w, a, M, O, P) (nI j) := by
  refine br_f (nI_pos (by omega)) (br_f (nI_ge (b := 3) hj (by decide)) ⟨vp_in_nI hj (by decide), br_f ?_ H⟩)
  rw [nI_clamp (by omega), hM]
  intro q
  exact absurd ((lN_le (b := 0) h1 (by decide)).mp q) (by omega)
theorem pd_yk1 {post : Int32 → Prop} {x : Int32} (h : pd_nok M x) (H : post 1) : wpY_none post (len, n, w, a, M, O, P) x := by
  unfold wpY_none
  dsimp only
  rcases h with h | ⟨j, hj, rfl, h0⟩
  · refine pd_yO1 3 rfl h ?_
    exact br_f pd_n10 H
  · refine pd_yO0 3 rfl (by decide) hj ?_
    refine br_t rfl ⟨vp_in_nI hj (by decide), br_t ?_ H⟩
    rw [nI_clamp (by omega), h0]
theorem pd_yk0 {post : Int32 → Prop} {j m : Nat} (hj : j < 3) (hM : M j = lN m) (h0 : 0 < m) (h1 : m < 2 ^ 31) (H : post 0) : wpY_none post (len, n, w, a, M, O, P) (nI j) := by
  unfold wpY_none
  dsimp only
  refine pd_yO0 3 rfl (by decide) hj ?_
  refine br_t rfl ⟨vp_in_nI hj (by decide), br_f ?_ H⟩
  rw [nI_clamp (by omega), hM]
  intro q
  exact absurd ((lN_eq (b := 0) h1 (by decide)).mp q) (by omega)
theorem pd_ks (hK : pd_K M O P) (x : Int32) : pd_nok M x ∨ ∃ j m e d : Nat, j < 3 ∧ x = nI j ∧ M j = lN m ∧ O j = lN e ∧ P j = lN d ∧ 0 < m ∧ m < 2 ^ 31 ∧ e < 2 ^ 31 ∧ d < 2 ^ 31 := by
  rcases pd_cs 3 x with h | ⟨j, hj, _, rfl⟩
  · exact Or.inl (Or.inl h)
  · rcases hK j hj with z | ⟨m, e, d, h⟩
    · exact Or.inl (Or.inr ⟨j, hj, rfl, z⟩)
    · exact Or.inr ⟨j, m, e, d, hj, rfl, h⟩
end
theorem pd_reds {t : Nat → Nat} {M O P : Nat → Int64} {j m : Nat} (hj : j < 3) (hM : M j = lN m) (h0 : 0 < m) (h1 : m < 2 ^ 31) (c : Nat) (hc : c ≤ 120) : ∃ r : Nat, r < m ∧ (∀ (post : Int64 → Prop) (len n : Int32) (a : Nat → Int32), post (lN r) → wpX_hashBelowModulus post (len, n, (fun i => nI (t i)), a, M, O, P) (nI j) (nI c)) ∧ (∀ (post : Int64 → Prop) (len n : Int32) (a : Nat → Int32), post (lN r) → wpY_reduced post (len, n, (fun i => nI (t i)), a, M, O, P) (nI j) (nI c)) := by
  obtain ⟨h, hh, e1, e2, e3⟩ := pd_uns (pd_he (pd_hs t c))
  have ne : ¬ lN m = 0 := fun q => absurd ((lN_eq (b := 0) h1 (by decide)).mp q) (by omega)
  have er : lN h - lN h / lN m * lN m = lN (h % m) := pk_lRem (by omega) h0 (by omega)
  have hv : vp_in (nI j) 3 := vp_in_nI hj (by decide)
  have ecl : M (nI j).toNatClampNeg = lN m := by rw [nI_clamp (by omega), hM]
  refine ⟨h % m, Nat.mod_lt _ h0, ?_, ?_⟩
  · intro post len n a H
    unfold wpX_hashBelowModulus
    dsimp only
    refine pd_xh c hc ?_
    refine nm_r e1 ⟨hv, ?_⟩
    rw [ecl, er]
    exact ⟨ne, H⟩
  · intro post len n a H
    unfold wpY_reduced
    dsimp only
    refine pd_yh c hc ?_
    by_cases z : (pd_he (pd_hs t c)).toInt64 < 0
    · refine br_f (Int64.not_le.mpr z) ⟨hv, ?_⟩
      rw [ecl, e2 z, er]
      exact ⟨ne, H⟩
    · refine br_t (Int64.not_lt.mp z) ⟨hv, ?_⟩
      rw [ecl, e3 z, er]
      exact ⟨ne, H⟩
theorem pd_sh64 : ∀ i, i < 32 → (((nI i).toInt64 &&& 63).toBitVec.smod 64).toNat = i := by decide +kernel
theorem pd_pwL {M O P : Nat → Int64} {w : Nat → Int32} {e m : Nat} (he : e < 2 ^ 31) (h0 : 0 < m) (h1 : m < 2 ^ 31) : ∀ (d i : Nat) (x y : Int64), i + d = 31 → e / 2 ^ i < 2 ^ d → ∃ r : Int64, (e / 2 ^ i = 0 → r = x) ∧ (∀ (post : Int64 → Prop) (mm : Nat) (len n : Int32) (a : Nat → Int32), d < mm → post r → wX_power_9 post (lN e) (lN m) len n w a M O P mm x y (nI i)) ∧ (∀ (post : Int64 → Prop) (mm : Nat), d < mm → post r → wY_power_12 post (lN m) mm x y (lN (e / 2 ^ i))) := by
  have ne : ¬ lN m = 0 := fun q => absurd ((lN_eq (b := 0) h1 (by decide)).mp q) (by omega)
  intro d
  induction d with
  | zero =>
    intro i x y hi hq
    have ei : i = 31 := by omega
    subst ei
    have e0 : e / 2 ^ 31 = 0 := by omega
    refine ⟨x, fun _ => rfl, ?_, ?_⟩
    · intro post mm len n a hm H
      obtain ⟨mm, rfl⟩ : ∃ m', mm = m' + 1 := ⟨mm - 1, by omega⟩
      exact br_t (by decide) H
    · intro post mm hm H
      obtain ⟨mm, rfl⟩ : ∃ m', mm = m' + 1 := ⟨mm - 1, by omega⟩
      rw [e0]
      exact br_t (by decide) H
  | succ d ih =>
    intro i x y hi hq
    have hdiv : e / 2 ^ (i + 1) = e / 2 ^ i / 2 := by rw [Nat.pow_succ, Nat.div_div_eq_div_mul]
    have hle : e / 2 ^ i ≤ e := Nat.div_le_self _ _
    have ebit : (lN e >>> ((nI i).toInt64 &&& 63)) &&& 1 = lN (e / 2 ^ i % 2) := by
      rw [pf_shr (pd_sh64 i (by omega)) (by omega), g_and1 (by omega)]
    have esh : lN (e / 2 ^ i) >>> ((1 : Int32).toInt64 &&& 63) = lN (e / 2 ^ (i + 1)) := by
      rw [hdiv]
      exact pf_shr (d := 1) (by decide) (by omega)
    have eand : lN (e / 2 ^ i) &&& 1 = lN (e / 2 ^ i % 2) := g_and1 (by omega)
    have hq2 : e / 2 ^ (i + 1) < 2 ^ d := by
      rw [hdiv]
      rw [Nat.pow_succ] at hq
      omega
    generalize hqq : e / 2 ^ i = q at *
    by_cases b1 : q % 2 = 1
    · obtain ⟨r, h3, hX, hY⟩ := ih (i + 1) ((x * y) - (x * y) / lN m * lN m) ((y * y) - (y * y) / lN m * lN m) (by omega) hq2
      refine ⟨r, fun z => absurd z (by omega), ?_, ?_⟩
      · intro post mm len n a hm H
        obtain ⟨mm, rfl⟩ : ∃ m', mm = m' + 1 := ⟨mm - 1, by omega⟩
        refine br_f (nI_ge (b := 31) (by omega) (by decide)) (br_t (by rw [ebit, b1]; rfl) ⟨ne, nm_e ?_⟩)
        exact ⟨ne, nm_e (nm_r (nI_1 i) (hX post mm len n a (by omega) H))⟩
      · intro post mm hm H
        obtain ⟨mm, rfl⟩ : ∃ m', mm = m' + 1 := ⟨mm - 1, by omega⟩
        refine br_f (fun z => absurd ((lN_le (b := 0) (by omega) (by decide)).mp z) (by omega)) (br_f (by rw [eand, b1]; decide) ⟨ne, nm_e ?_⟩)
        exact ⟨ne, nm_e (nm_r esh (hY post mm (by omega) H))⟩
    · have b0 : q % 2 = 0 := by omega
      obtain ⟨r, h3, hX, hY⟩ := ih (i + 1) x ((y * y) - (y * y) / lN m * lN m) (by omega) hq2
      have goX : ∀ (post : Int64 → Prop) (mm : Nat) (len n : Int32) (a : Nat → Int32), d + 1 < mm → post r → wX_power_9 post (lN e) (lN m) len n w a M O P mm x y (nI i) := by
        intro post mm len n a hm H
        obtain ⟨mm, rfl⟩ : ∃ m', mm = m' + 1 := ⟨mm - 1, by omega⟩
        refine br_f (nI_ge (b := 31) (by omega) (by decide)) (br_f (by rw [ebit, b0]; decide) ?_)
        exact ⟨ne, nm_e (nm_r (nI_1 i) (hX post mm len n a (by omega) H))⟩
      rcases Nat.eq_zero_or_pos q with z | z
      · have er : r = x := h3 (by omega)
        refine ⟨r, fun _ => er, goX, ?_⟩
        intro post mm hm H
        obtain ⟨mm, rfl⟩ : ∃ m', mm = m' + 1 := ⟨mm - 1, by omega⟩
        rw [z]
        rw [er] at H
        exact br_t (by decide) H
      · refine ⟨r, fun y => absurd y (by omega), goX, ?_⟩
        intro post mm hm H
        obtain ⟨mm, rfl⟩ : ∃ m', mm = m' + 1 := ⟨mm - 1, by omega⟩
        refine br_f (fun z => absurd ((lN_le (b := 0) (by omega) (by decide)).mp z) (by omega)) (br_t (by rw [eand, b0]; rfl) ?_)
        exact ⟨ne, nm_e (nm_r esh (hY post mm (by omega) H))⟩
theorem pd_pows {M O P : Nat → Int64} {w : Nat → Int32} {b e m : Nat} (hb : b < m) (he : e < 2 ^ 31) (h1 : m < 2 ^ 31) : ∃ r : Int64, (∀ (post : Int64 → Prop) (len n : Int32) (a : Nat → Int32), post r → wpX_power post (len, n, w, a, M, O, P) (lN b) (lN e) (lN m)) ∧ (∀ (post : Int64 → Prop), post r → wpY_power post (lN b) (lN e) (lN m)) := by
  have ne : ¬ lN m = 0 := fun q => absurd ((lN_eq (b := 0) h1 (by decide)).mp q) (by omega)
  have em : lN b - lN b / lN m * lN m = lN b := by
    rw [pk_lRem (by omega) (by omega) (by omega), Nat.mod_eq_of_lt hb]
  obtain ⟨r, _, hX, hY⟩ := pd_pwL (M := M) (O := O) (P := P) (w := w) he (by omega) h1 31 0 1 (lN b) (by omega) (by rw [Nat.pow_zero, Nat.div_one]; exact he)
  rw [Nat.pow_zero, Nat.div_one] at hY
  exact ⟨r, fun post len n a H => ⟨32, hX post 32 len n a (by omega) H⟩, fun post H => ⟨ne, nm_r em ⟨32, hY post 32 (by omega) H⟩⟩⟩
theorem i_vc_sign {k : Nat} {u : SX} {v : SY} (I : i_Rel k u v) (hk : k + 5 ≤ 2560) (v1 : Int32) : wpX_sign (fun r u' => wpY_sign (fun r' v' => r' = r ∧ i_Rel (k + 5) u' v') v v1) u v1 := by
  have J := I
  obtain ⟨t, len, M, O, P, a, n, b, c, ht, hl, hK, rfl, rfl⟩ := I
  rcases pd_ks hK v1 with h | ⟨j, m, e, d, hj, rfl, eM, eO, eP, m0, m1, e1, d1⟩
  · unfold wpX_sign wpY_sign
    dsimp only
    refine pd_xk0 h ?_
    refine br_t rfl ?_
    refine pd_yk1 h ?_
    exact br_f pd_n10 ⟨rfl, J⟩
  · obtain ⟨r, hr, hX, hY⟩ := pd_reds (t := t) (O := O) (P := P) hj eM m0 m1 len hl
    obtain ⟨s, gX, gY⟩ := pd_pows (M := M) (O := O) (P := P) (w := fun i => nI (t i)) hr d1 m1
    have hv : vp_in (nI j) 3 := vp_in_nI hj (by decide)
    have cM : M (nI j).toNatClampNeg = lN m := by rw [nI_clamp (by omega), eM]
    have cP : P (nI j).toNatClampNeg = lN d := by rw [nI_clamp (by omega), eP]
    have hll : (pd_LW ([] ++ pd_sl t 0 len) s.toInt32).length = len + 4 := by rw [pd_LW_len, pd_app, pd_sl_len]; simp
    refine pd_fin (k + 5) (r := nI ((pd_LW ([] ++ pd_sl t 0 len) s.toInt32).length - 0)) (L := pd_LW ([] ++ pd_sl t 0 len) s.toInt32) (f := 0) ht hl hK (pd_LW_By (pd_By_app pd_By_nil (pd_sl_By ht _ _)) _) (fun post => wpX_sign post (nI len, n, (fun i => nI (t i)), a, M, O, P) (nI j)) (fun post => wpY_sign post (nI len, c, (fun i => nI (t i)), b, M, O, P) (nI j)) ?_ ?_
    · intro post H
      unfold wpX_sign
      dsimp only
      refine pd_xk1 hj eM m0 m1 ?_
      refine br_f pd_n10 ?_
      refine hX _ _ _ _ ?_
      refine ⟨hv, hv, ?_⟩
      rw [cM, cP]
      refine gX _ _ _ _ ?_
      refine pd_xpw 0 len rfl rfl (by omega) (pd_D_nil 120 a) (by simp) (fun a1 n1 d1 => ?_)
      refine pd_xpwd d1 (by rw [pd_app, pd_sl_len]; simp; omega) (fun a2 n2 d2 => ?_)
      exact pd_XKb (by omega) H d2
    · intro post H
      unfold wpY_sign
      dsimp only
      refine pd_yk0 hj eM m0 m1 ?_
      refine br_t rfl ?_
      refine hY _ _ _ _ ?_
      refine ⟨hv, hv, ?_⟩
      rw [cM, cP]
      refine gY _ ?_
      refine pd_ypw 0 len rfl (by rw [Nat.zero_add]) ht (by omega) (pd_D_nil 400 b) (by simp) (fun a1 n1 d1 => ?_)
      refine pd_ypwd d1 (by rw [pd_app, pd_sl_len]; simp; omega) (fun a2 n2 d2 => ?_)
      exact pd_YKb (by omega) H d2
def pd_wd (t : Nat → Nat) (f : Nat) : Nat → Nat
  | 0 => 0
  | k + 1 => pd_wd t f k * 256 + t (f + k)
theorem pd_wd_lt {t : Nat → Nat} (ht : ∀ i, t i < 256) (f : Nat) : ∀ k, pd_wd t f k < 256 ^ k := by
  intro k
  induction k with
  | zero => exact Nat.zero_lt_one
  | succ k ih =>
    have := ht (f + k)
    rw [pd_wd, Nat.pow_succ]
    omega
theorem pd_256k : ∀ k, k ≤ 4 → 256 ^ k ≤ 4294967296 := by
  intro k hk
  exact Nat.le_trans (Nat.pow_le_pow_right (by decide) hk) (by decide)
section
variable {len n : Int32} {w a : Nat → Int32} {t : Nat → Nat} {M O P : Nat → Int64} {L : List Nat}
theorem pd_xwdL {post : Int64 → Prop} {f : Nat} (ht : ∀ i, t i < 256) (hf : f + 4 ≤ 120) (H : post (lN (pd_wd t f 4))) : ∀ d i m : Nat, i + d = 4 → d < m → wX_wordAt_5 post (nI f) len n (fun i => nI (t i)) a M O P m (lN (pd_wd t f i)) (nI i) := by
  intro d
  induction d with
  | zero =>
    intro i m hi hm
    obtain ⟨m, rfl⟩ : ∃ m', m = m' + 1 := ⟨m - 1, by omega⟩
    have e : i = 4 := by omega
    subst e
    exact br_t (by decide) H
  | succ d ih =>
    intro i m hi hm
    obtain ⟨m, rfl⟩ : ∃ m', m = m' + 1 := ⟨m - 1, by omega⟩
    have ea : nI f + nI i = nI (f + i) := nI_add f i
    have hb := ht (f + i)
    have h4 := pd_wd_lt ht f i
    have h5 := pd_256k i (by omega)
    refine br_f (nI_ge (b := 4) (by omega) (by decide)) ⟨by rw [ea]; exact vp_in_nI (by omega) (by decide), nm_r (e' := lN (pd_wd t f (i + 1))) ?_ (nm_r (nI_1 i) (ih (i + 1) m (by omega) (by omega)))⟩
    rw [ea, nI_clamp (by omega), nI_l (by omega)]
    have es : lN (pd_wd t f i) <<< ((8 : Int32).toInt64 &&& 63) = lN (pd_wd t f i * 2 ^ 8) := wb_shl _ (k := 8) (by decide)
    rw [es]
    exact g_or (k := 8) rfl hb (by omega)
theorem pd_xwd {post : Int64 → Prop} (f : Nat) (ht : ∀ i, t i < 256) (hf : f + 4 ≤ 120) (H : post (lN (pd_wd t f 4))) : wpX_wordAt post (len, n, (fun i => nI (t i)), a, M, O, P) (nI f) := ⟨5, pd_xwdL ht hf H 4 0 5 (by omega) (by omega)⟩
theorem pd_ywdL {post : Int32 → SY → Prop} {f : Nat} {x : Int32} (ht : ∀ i, t i < 256) (hf : f + 4 ≤ 120) (H : ∀ m, wY_verify_31 post x (nI (f + 4)) n (fun i => nI (t i)) a M O P (m + 1) (lN (pd_wd t f 4)) (nI (f + 4))) : ∀ d i m : Nat, i + d = 4 → d < m → wY_verify_31 post x (nI (f + 4)) n (fun i => nI (t i)) a M O P m (lN (pd_wd t f i)) (nI (f + i)) := by
  intro d
  induction d with
  | zero =>
    intro i m hi hm
    obtain ⟨m, rfl⟩ : ∃ m', m = m' + 1 := ⟨m - 1, by omega⟩
    have e : i = 4 := by omega
    subst e
    exact H m
  | succ d ih =>
    intro i m hi hm
    obtain ⟨m, rfl⟩ : ∃ m', m = m' + 1 := ⟨m - 1, by omega⟩
    have hb := ht (f + i)
    refine br_f (nI_ge (by omega) (by omega)) ⟨vp_in_nI (by omega) (by decide), nm_r (e' := lN (pd_wd t f (i + 1))) ?_ (nm_r (nI_1 (f + i)) (ih (i + 1) m (by omega) (by omega)))⟩
    rw [nI_clamp (by omega), nI_l (by omega)]
    have es : lN (pd_wd t f i) * 256 = lN (pd_wd t f i * 256) := lN_mul _ 256
    rw [es, lN_add]
    rfl
end
theorem i_vc_verify {k : Nat} {u : SX} {v : SY} (I : i_Rel k u v) (hk : k + 5 ≤ 2560) (v1 : Int32) : wpX_verify (fun r u' => wpY_verify (fun r' v' => r' = r ∧ i_Rel (k + 5) u' v') v v1) u v1 := by
  have J := I
  obtain ⟨t, len, M, O, P, a, n, b, c, ht, hl, hK, rfl, rfl⟩ := I
  rcases pd_ks hK v1 with h | ⟨j, m, e, d, hj, rfl, eM, eO, eP, m0, m1, e1, d1⟩
  · unfold wpX_verify wpY_verify
    dsimp only
    refine pd_xk0 h ?_
    refine br_t rfl ?_
    refine pd_yk1 h ?_
    exact br_f pd_n10 ⟨rfl, J⟩
  · have hv : vp_in (nI j) 3 := vp_in_nI hj (by decide)
    have cM : M (nI j).toNatClampNeg = lN m := by rw [nI_clamp (by omega), eM]
    have cO : O (nI j).toNatClampNeg = lN e := by rw [nI_clamp (by omega), eO]
    rcases Nat.lt_or_ge len 4 with z | z
    · have q : ¬ 4 ≤ nI len := nI_ge (b := 4) z (by decide)
      unfold wpX_verify wpY_verify
      dsimp only
      refine pd_xk1 hj eM m0 m1 ?_
      refine br_f pd_n10 (br_f q ?_)
      refine pd_yk0 hj eM m0 m1 ?_
      exact br_t rfl (br_f q ⟨rfl, J⟩)
    · obtain ⟨f, rfl⟩ : ∃ f, len = f + 4 := ⟨len - 4, by omega⟩
      have q : 4 ≤ nI (f + 4) := nI_le (a := 4) z (by omega)
      have e4 : nI (f + 4) - 4 = nI f := by
        have := pk_sub (a := f + 4) (b := 4) (by omega)
        rw [Nat.add_sub_cancel] at this
        exact this
      obtain ⟨r, hr, hX, hY⟩ := pd_reds (t := t) (O := O) (P := P) hj eM m0 m1 f (by omega)
      have hw : pd_wd t f 4 < 4294967296 := pd_wd_lt ht f 4
      -- both to the look at the word
      have gX : ∀ post : Int32 → SX → Prop, ((lN (pd_wd t f 4) < lN m → wpX_power (fun r_24 => wpX_hashBelowModulus (fun r_32 => ((r_24 = r_32 → post (nI f) (nI f, n, (fun i => nI (t i)), a, M, O, P)) ∧ (¬ r_24 = r_32 → post (-4) (nI (f + 4), n, (fun i => nI (t i)), a, M, O, P)))) (nI (f + 4), n, (fun i => nI (t i)), a, M, O, P) (nI j) (nI f)) (nI (f + 4), n, (fun i => nI (t i)), a, M, O, P) (lN (pd_wd t f 4)) (lN e) (lN m)) ∧ (¬ lN (pd_wd t f 4) < lN m → post (-4) (nI (f + 4), n, (fun i => nI (t i)), a, M, O, P))) → wpX_verify post (nI (f + 4), n, (fun i => nI (t i)), a, M, O, P) (nI j) := by
        intro post H
        unfold wpX_verify
        dsimp only
        refine pd_xk1 hj eM m0 m1 ?_
        refine br_f pd_n10 (br_t q (nm_r e4 ?_))
        refine pd_xwd f ht (by omega) ?_
        refine ⟨hv, ?_⟩
        rw [cM, cO]
        exact ⟨fun x => ⟨hv, hv, H.1 x⟩, H.2⟩
      have gY : ∀ post : Int32 → SY → Prop, ((lN m ≤ lN (pd_wd t f 4) → post (-4) (nI (f + 4), c, (fun i => nI (t i)), b, M, O, P)) ∧ (¬ lN m ≤ lN (pd_wd t f 4) → wpY_power (fun r_25 => ((r_25 = lN r → post (nI f) (nI f, c, (fun i => nI (t i)), b, M, O, P)) ∧ (¬ r_25 = lN r → post (-4) (nI (f + 4), c, (fun i => nI (t i)), b, M, O, P)))) (lN (pd_wd t f 4)) (lN e) (lN m))) → wpY_verify post (nI (f + 4), c, (fun i => nI (t i)), b, M, O, P) (nI j) := by
        intro post H
        unfold wpY_verify
        dsimp only
        refine pd_yk0 hj eM m0 m1 ?_
        refine br_t rfl (br_t q (nm_r e4 ⟨5, ?_⟩))
        refine pd_ywdL ht (by omega) (fun mm => ?_) 4 0 5 (by omega) (by omega)
        refine br_t (nI_le (Nat.le_refl _) (by omega)) ?_
        rw [e4]
        refine hY _ _ _ _ ?_
        refine ⟨hv, ?_⟩
        rw [cM, cO]
        refine ⟨H.1, fun x => ⟨hv, hv, ?_⟩⟩
        have hp := H.2 x
        have conv : (fun r_25 => ((r_25 = lN r → ∀ f_length_27, f_length_27 = nI f → post f_length_27 (f_length_27, c, (fun i => nI (t i)), b, M, O, P)) ∧ (¬ r_25 = lN r → post (-4) (nI (f + 4), c, (fun i => nI (t i)), b, M, O, P)))) = (fun r_25 => ((r_25 = lN r → post (nI f) (nI f, c, (fun i => nI (t i)), b, M, O, P)) ∧ (¬ r_25 = lN r → post (-4) (nI (f + 4), c, (fun i => nI (t i)), b, M, O, P)))) := by
          funext r25
          apply propext
          constructor
          · exact fun h => ⟨fun x => h.1 x _ rfl, h.2⟩
          · exact fun h => ⟨fun x y ey => by rw [ey]; exact h.1 x, h.2⟩
        rw [← conv] at hp
        exact hp
      generalize pd_wd t f 4 = W at gX gY hw
      rcases Nat.lt_or_ge W m with y | y
      · obtain ⟨s, pX, pY⟩ := pd_pows (M := M) (O := O) (P := P) (w := fun i => nI (t i)) y e1 m1
        have lt1 : lN W < lN m := (pk_lLT (by omega) (by omega)).mpr y
        have nle : ¬ lN m ≤ lN W := fun q => absurd ((pk_lLE (by omega) (by omega)).mp q) (by omega)
        refine gX _ (br_t lt1 ?_)
        refine pX _ _ _ _ ?_
        refine hX _ _ _ _ ?_
        by_cases x : s = lN r
        · refine br_t x (gY _ (br_f nle ?_))
          refine pY _ ?_
          exact br_t x ⟨rfl, pd_R _ ht (by omega) hK _ _ _ _⟩
        · refine br_f x (gY _ (br_f nle ?_))
          refine pY _ ?_
          exact br_f x ⟨rfl, J⟩
      · have nlt : ¬ lN W < lN m := fun q => absurd ((pk_lLT (by omega) (by omega)).mp q) (by omega)
        have le1 : lN m ≤ lN W := (pk_lLE (by omega) (by omega)).mpr y
        exact gX _ (br_f nlt (gY _ (br_t le1 ⟨rfl, J⟩)))
theorem i_vc_raise {k : Nat} {u : SX} {v : SY} (I : i_Rel k u v) (hk : k + 5 ≤ 2560) (v1 : Int32) (a1 : Int64) (v4 : Int32) : wpX_raise (fun r => wpY_raise (fun r' => r' = r ∧ i_Rel (k + 5) u v) v v1 a1 (lw_bz v4)) u v1 a1 (lw_bz v4) := by
  have J := I
  obtain ⟨t, len, M, O, P, a, n, b, c, ht, hl, hK, rfl, rfl⟩ := I
  unfold wpX_raise wpY_raise
  dsimp only
  generalize lw_bz v4 = sc
  rcases pd_ks hK v1 with h | ⟨j, m, e, d, hj, rfl, eM, eO, eP, m0, m1, e1, d1⟩
  · refine pd_xk0 h ?_
    refine br_t rfl ?_
    refine pd_yk1 h ?_
    exact br_f pd_n10 ⟨rfl, J⟩
  · have hv : vp_in (nI j) 3 := vp_in_nI hj (by decide)
    have cM : M (nI j).toNatClampNeg = lN m := by rw [nI_clamp (by omega), eM]
    have cO : O (nI j).toNatClampNeg = lN e := by rw [nI_clamp (by omega), eO]
    have cP : P (nI j).toNatClampNeg = lN d := by rw [nI_clamp (by omega), eP]
    refine pd_xk1 hj eM m0 m1 ?_
    refine br_f pd_n10 ?_
    by_cases z : a1 < 0
    · refine br_t z ?_
      refine pd_yk0 hj eM m0 m1 ?_
      exact br_t rfl (br_t z ⟨rfl, J⟩)
    · obtain ⟨B, hB, rfl⟩ := pk_lOf z
      refine br_f z ⟨hv, ?_⟩
      rw [cM]
      rcases Nat.lt_or_ge B m with y | y
      · have lt1 : lN B < lN m := (pk_lLT hB (by omega)).mpr y
        refine br_t lt1 ?_
        by_cases x : sc = 0
        · refine br_t x ⟨hv, hv, ?_⟩
          rw [cM, cO]
          obtain ⟨s, pX, pY⟩ := pd_pows (M := M) (O := O) (P := P) (w := fun i => nI (t i)) y e1 m1
          refine pX _ _ _ _ ?_
          refine pd_yk0 hj eM m0 m1 ?_
          refine br_t rfl (br_f z ⟨hv, ?_⟩)
          refine br_t lt1 (br_t x ⟨hv, hv, ?_⟩)
          rw [cM]
          refine pY _ ?_
          exact ⟨rfl, J⟩
        · refine br_f x ⟨hv, hv, ?_⟩
          rw [cM, cP]
          obtain ⟨s, pX, pY⟩ := pd_pows (M := M) (O := O) (P := P) (w := fun i => nI (t i)) y d1 m1
          refine pX _ _ _ _ ?_
          refine pd_yk0 hj eM m0 m1 ?_
          refine br_t rfl (br_f z ⟨hv, ?_⟩)
          refine br_t lt1 (br_f x ⟨hv, hv, ?_⟩)
          rw [cM]
          refine pY _ ?_
          exact ⟨rfl, J⟩
      · have nlt : ¬ lN B < lN m := fun q => absurd ((pk_lLT hB (by omega)).mp q) (by omega)
        refine br_f nlt ?_
        refine pd_yk0 hj eM m0 m1 ?_
        refine br_t rfl (br_f z ⟨hv, ?_⟩)
        exact br_f nlt ⟨rfl, J⟩
end
section
/-! letters and the checksum, as they walk; letters -/
section
variable {len n : Int32} {w a : Nat → Int32} {t : Nat → Nat} {M O P : Nat → Int64} {L : List Nat}
theorem pd_crcW25 {post : Int32 → Prop} {J : Int32 → Int32 → Prop} {x2 x4 : Int32} : ∀ (d b m : Nat) (x : Int32), b + d = 8 → d < m → (∀ y, y = x4 + 1 → J (pd_x8 d x) y) → wX_crcOf__work_25 post J x2 x4 len n w a M O P m x (nI b) := by
  intro d
  induction d with
  | zero =>
    intro b m x hb hm H
    obtain ⟨m, rfl⟩ : ∃ m', m = m' + 1 := ⟨m - 1, by omega⟩
    have e : b = 8 := by omega
    subst e
    exact br_t (by decide) H
  | succ d ih =>
    intro b m x hb hm H
    obtain ⟨m, rfl⟩ : ∃ m', m = m' + 1 := ⟨m - 1, by omega⟩
    have e : pd_x8 (d + 1) x = pd_x8 d (pd_xs x) := rfl
    rw [e] at H
    refine br_f (nI_ge (b := 8) (by omega) (by decide)) (nm_e ?_)
    by_cases z : (x <<< ((1 : Int32) &&& 31)) &&& 16777216 = 0
    · have q : pd_xs x = x <<< ((1 : Int32) &&& 31) := if_pos z
      rw [q] at H
      exact br_t z (nm_r (nI_1 b) (ih (b + 1) m _ (by omega) (by omega) H))
    · have q : pd_xs x = (x <<< ((1 : Int32) &&& 31)) ^^^ 25578747 := if_neg z
      rw [q] at H
      exact br_f z (nm_e (nm_r (nI_1 b) (ih (b + 1) m _ (by omega) (by omega) H)))
theorem pd_crcW6 {post : Int32 → Prop} {g : Nat → Nat} {c : Nat} (hc : c ≤ 120) (hg : ∀ i, i < c → w i = nI (g i)) (H : post (pd_cr g c)) : ∀ d i m : Nat, i + d = c → d < m → wX_crcOf__work_6 post (nI c) len n w a M O P m (pd_cr g i) (nI i) := by
  intro d
  induction d with
  | zero =>
    intro i m hi hm
    obtain ⟨m, rfl⟩ : ∃ m', m = m' + 1 := ⟨m - 1, by omega⟩
    have e : i = c := by omega
    subst e
    exact br_t (nI_le (Nat.le_refl _) (by omega)) H
  | succ d ih =>
    intro i m hi hm
    obtain ⟨m, rfl⟩ : ∃ m', m = m' + 1 := ⟨m - 1, by omega⟩
    refine br_f (nI_ge (by omega) (by omega)) ⟨vp_in_nI (by omega) (by decide), nm_r (e' := pd_cr g i ^^^ (nI (g i) <<< ((16 : Int32) &&& 31))) ?_ ⟨9, ?_⟩⟩
    · rw [nI_clamp (by omega), hg i (by omega)]
    · refine pd_crcW25 8 0 9 _ (by omega) (by omega) (fun y hy => ?_)
      rw [hy, nI_1]
      exact ih (i + 1) m (by omega) (by omega)
theorem pd_crcW {post : Int32 → Prop} {x : Int32} {g : Nat → Nat} (c : Nat) (hx : x = nI c) (hc : c ≤ 120) (hg : ∀ i, i < c → w i = nI (g i)) (H : post (pd_cr g c)) : wpX_crcOf__work post (len, n, w, a, M, O, P) x := by
  subst hx
  exact ⟨c + 1, pd_crcW6 hc hg H c 0 (c + 1) (by omega) (by omega)⟩
theorem pd_crcD25 {post : Int32 → Prop} {J : Int32 → Int32 → Prop} {x2 x4 : Int32} : ∀ (d b m : Nat) (x : Int32), b + d = 8 → d < m → (∀ y, y = x4 + 1 → J (pd_x8 d x) y) → wX_crcOf__draft_25 post J x2 x4 len n w a M O P m x (nI b) := by
  intro d
  induction d with
  | zero =>
    intro b m x hb hm H
    obtain ⟨m, rfl⟩ : ∃ m', m = m' + 1 := ⟨m - 1, by omega⟩
    have e : b = 8 := by omega
    subst e
    exact br_t (by decide) H
  | succ d ih =>
    intro b m x hb hm H
    obtain ⟨m, rfl⟩ : ∃ m', m = m' + 1 := ⟨m - 1, by omega⟩
    have e : pd_x8 (d + 1) x = pd_x8 d (pd_xs x) := rfl
    rw [e] at H
    refine br_f (nI_ge (b := 8) (by omega) (by decide)) (nm_e ?_)
    by_cases z : (x <<< ((1 : Int32) &&& 31)) &&& 16777216 = 0
    · have q : pd_xs x = x <<< ((1 : Int32) &&& 31) := if_pos z
      rw [q] at H
      exact br_t z (nm_r (nI_1 b) (ih (b + 1) m _ (by omega) (by omega) H))
    · have q : pd_xs x = (x <<< ((1 : Int32) &&& 31)) ^^^ 25578747 := if_neg z
      rw [q] at H
      exact br_f z (nm_e (nm_r (nI_1 b) (ih (b + 1) m _ (by omega) (by omega) H)))
theorem pd_crcD6 {post : Int32 → Prop} {g : Nat → Nat} {c : Nat} (hc : c ≤ 120) (hg : ∀ i, i < c → a i = nI (g i)) (H : post (pd_cr g c)) : ∀ d i m : Nat, i + d = c → d < m → wX_crcOf__draft_6 post (nI c) len n w a M O P m (pd_cr g i) (nI i) := by
  intro d
  induction d with
  | zero =>
    intro i m hi hm
    obtain ⟨m, rfl⟩ : ∃ m', m = m' + 1 := ⟨m - 1, by omega⟩
    have e : i = c := by omega
    subst e
    exact br_t (nI_le (Nat.le_refl _) (by omega)) H
  | succ d ih =>
    intro i m hi hm
    obtain ⟨m, rfl⟩ : ∃ m', m = m' + 1 := ⟨m - 1, by omega⟩
    refine br_f (nI_ge (by omega) (by omega)) ⟨vp_in_nI (by omega) (by decide), nm_r (e' := pd_cr g i ^^^ (nI (g i) <<< ((16 : Int32) &&& 31))) ?_ ⟨9, ?_⟩⟩
    · rw [nI_clamp (by omega), hg i (by omega)]
    · refine pd_crcD25 8 0 9 _ (by omega) (by omega) (fun y hy => ?_)
      rw [hy, nI_1]
      exact ih (i + 1) m (by omega) (by omega)
theorem pd_crcD {post : Int32 → Prop} {x : Int32} {g : Nat → Nat} (c : Nat) (hx : x = nI c) (hc : c ≤ 120) (hg : ∀ i, i < c → a i = nI (g i)) (H : post (pd_cr g c)) : wpX_crcOf__draft post (len, n, w, a, M, O, P) x := by
  subst hx
  exact ⟨c + 1, pd_crcD6 hc hg H c 0 (c + 1) (by omega) (by omega)⟩
theorem pd_ychkL {post : Int32 → Prop} {b : Int32} : ∀ (k m : Nat) (c x : Int32), k < m → k ≤ 8 → x = nI k + (-1) → post (pd_y8 b k c) → wY_checked_5 post b m c x := by
  intro k
  induction k with
  | zero =>
    intro m c x hm hk hx H
    obtain ⟨m, rfl⟩ : ∃ m', m = m' + 1 := ⟨m - 1, by omega⟩
    subst hx
    exact br_t (by decide) H
  | succ k ih =>
    intro m c x hm hk hx H
    obtain ⟨m, rfl⟩ : ∃ m', m = m' + 1 := ⟨m - 1, by omega⟩
    rw [pk_m1] at hx
    subst hx
    have e : pd_y8 b (k + 1) c = pd_y8 b k (pd_yc c b k) := rfl
    rw [e] at H
    refine br_f (nI_pos (by omega)) (nm_e (nm_e ?_))
    by_cases z : pd_yt c b k = 0
    · have q : pd_yc c b k = (c <<< ((1 : Int32) &&& 31)) &&& 16777215 := if_pos z
      rw [q] at H
      exact br_t z (nm_e (ih m _ _ (by omega) (by omega) rfl H))
    · have q : pd_yc c b k = ((c <<< ((1 : Int32) &&& 31)) &&& 16777215) ^^^ 8801531 := if_neg z
      rw [q] at H
      exact br_f z (nm_e (nm_e (ih m _ _ (by omega) (by omega) rfl H)))
theorem pd_ychk {post : Int32 → Prop} {c : Int32} {b : Nat} (hb : b < 256) (hc : ∀ i, 24 ≤ i → bt c i = false) (H : post (pd_cb c b)) : wpY_checked post c (nI b) := by
  refine ⟨9, pd_ychkL 8 9 c 7 (by omega) (by omega) (by decide) ?_⟩
  rw [(pd_cbY hb hc).1]
  exact H
theorem pd_let_1 {v : Nat} (h : v < 26) : pd_let v = 65 + v := if_pos h
theorem pd_let_2 {v : Nat} (h : ¬ v < 26) (h2 : v < 52) : pd_let v = 71 + v := (if_neg h).trans (if_pos h2)
theorem pd_let_3 {v : Nat} (h : ¬ v < 52) (h2 : v < 62) : pd_let v = v - 4 := (if_neg (by omega)).trans ((if_neg h).trans (if_pos h2))
theorem pd_let_4 : pd_let 62 = 43 := by decide
theorem pd_let_5 : pd_let 63 = 47 := by decide
theorem pd_e65 (v : Nat) : 65 + nI v = nI (65 + v) := nI_add 65 v
theorem pd_e97 (v : Nat) : (97 + nI v) - 26 = nI (71 + v) := by
  have e : (97 : Int32) + nI v = nI (97 + v) := nI_add 97 v
  rw [e, show 71 + v = 97 + v - 26 by omega]
  exact pk_sub (b := 26) (by omega)
theorem pd_e48 {v : Nat} (h : 52 ≤ v) : (48 + nI v) - 52 = nI (v - 4) := by
  have e : (48 : Int32) + nI v = nI (48 + v) := nI_add 48 v
  rw [e, show v - 4 = 48 + v - 52 by omega]
  exact pk_sub (b := 52) (by omega)
theorem pd_xlet {post : Int32 → Prop} {v : Nat} (hv : v < 64) (H : post (nI (pd_let v))) : wpX_letterOf post (len, n, w, a, M, O, P) (nI v) := by
  refine pk_le 26 v (fun h1 => pk_le 52 v (fun h2 => pk_le 62 v (fun h3 => pk_eq v 62 (fun h4 => ?_) (fun h4 => ?_)) (fun h3 => ?_)) (fun h2 => ?_)) (fun h1 => ?_)
  · subst h4
    rw [pd_let_4] at H
    exact H
  · rw [show v = 63 by omega, pd_let_5] at H
    exact H
  · rw [pd_e48 h2, ← pd_let_3 (by omega) h3]
    exact H
  · rw [pd_e97, ← pd_let_2 (by omega) h2]
    exact H
  · rw [pd_e65, ← pd_let_1 h1]
    exact H
theorem pd_ylet {post : Int32 → Prop} {v : Nat} (hv : v < 64) (H : post (nI (pd_let v))) : wpY_letter post (nI v) := by
  refine pk_le 26 v (fun h1 => pk_le 52 v (fun h2 => pk_le 62 v (fun h3 => pk_eq v 62 (fun h4 => ?_) (fun h4 => ?_)) (fun h3 => ?_)) (fun h2 => ?_)) (fun h1 => ?_)
  · subst h4
    rw [pd_let_4] at H
    exact H
  · rw [show v = 63 by omega, pd_let_5] at H
    exact H
  · rw [pd_e48 h2, ← pd_let_3 (by omega) h3]
    exact H
  · rw [pd_e97, ← pd_let_2 (by omega) h2]
    exact H
  · rw [pd_e65, ← pd_let_1 h1]
    exact H
/-- six bits of a word: those of letter i -/
def pd_sx (b : Int32) (i : Nat) : Nat := (b >>> ((18 - 6 * nI i : Int32) &&& 31)).toBitVec.toNat % 2 ^ 6
theorem pd_sx_lt (b : Int32) (i : Nat) : pd_sx b i < 64 := Nat.mod_lt _ (by decide)
theorem pd_sx_e (b : Int32) (i : Nat) : (b >>> ((18 - 6 * nI i : Int32) &&& 31)) &&& 63 = nI (pd_sx b i) := pk_and _ 6 (by decide)
/-- letter i of a word of which c letters count -/
def pd_g (b : Int32) (c i : Nat) : Nat := if i < c then pd_let (pd_sx b i) else 61
theorem pd_g_lt (b : Int32) (c i : Nat) : pd_g b c i < 256 := by
  unfold pd_g
  split
  · exact pd_let_lt _ (pd_sx_lt _ _)
  · omega
theorem pd_xplL {post : SX → Prop} {b : Int32} {c : Nat} (hc : c ≤ 4) (hL : L.length < 50000) (H : ∀ a' n', pd_D 120 a' n' (L ++ pd_sl (pd_g b c) 0 4) → post (len, n', w, a', M, O, P)) : ∀ (d i m : Nat) (a : Nat → Int32) (n : Int32), i + d = 4 → d < m → pd_D 120 a n (L ++ pd_sl (pd_g b c) 0 i) → wX_putLetters_2 post b (nI c) m (nI i) len n w a M O P := by
  intro d
  induction d with
  | zero =>
    intro i m a n hi hm hD
    obtain ⟨m, rfl⟩ : ∃ m', m = m' + 1 := ⟨m - 1, by omega⟩
    have e : i = 4 := by omega
    subst e
    exact br_t (by decide) (H a n hD)
  | succ d ih =>
    intro i m a n hi hm hD
    obtain ⟨m, rfl⟩ : ∃ m', m = m' + 1 := ⟨m - 1, by omega⟩
    refine br_f (nI_ge (b := 4) (by omega) (by decide)) ?_
    rw [pd_sx_e]
    refine pd_xlet (pd_sx_lt b i) ?_
    have fin : ∀ z, z = nI (pd_g b c i) → wX_putLetters_38 post (wX_putLetters_2 post b (nI c) m) b (nI c) (nI i) z len n w a M O P := by
      intro z hz
      unfold wX_putLetters_38
      refine pd_xput (pd_g b c i) hz hD (by rw [List.length_append, pd_sl_len]; omega) (fun a' n' hD' => ?_)
      refine nm_r (nI_1 i) (ih (i + 1) m a' n' (by omega) (by omega) ?_)
      rw [pd_sl, ← List.append_assoc, Nat.zero_add]
      exact hD'
    refine pk_le c i (fun z => fin _ ?_) (fun z => fin _ ?_)
    · unfold pd_g
      rw [if_neg (by omega)]
      rfl
    · unfold pd_g
      rw [if_pos z]
theorem pd_xpl {post : SX → Prop} {b x : Int32} (c : Nat) (hx : x = nI c) (hc : c ≤ 4) (hD : pd_D 120 a n L) (hL : L.length < 50000) (H : ∀ a' n', pd_D 120 a' n' (L ++ pd_sl (pd_g b c) 0 4) → post (len, n', w, a', M, O, P)) : wpX_putLetters post (len, n, w, a, M, O, P) b x := by
  subst hx
  exact ⟨5, pd_xplL hc hL H 4 0 5 a n (by omega) (by omega) (by rw [pd_sl, List.append_nil]; exact hD)⟩
theorem pd_ypl {post : SY → Prop} {x : Int32} (v : Nat) (hv : v < 64) (hx : x &&& 63 = nI v) (hD : pd_D 400 a n L) (hL : L.length < 50000) (H : ∀ a' n', pd_D 400 a' n' (L ++ [pd_let v]) → post (len, n', w, a', M, O, P)) : wpY_putLetter post (len, n, w, a, M, O, P) x := by
  unfold wpY_putLetter
  dsimp only
  rw [hx]
  refine pd_ylet hv ?_
  refine pd_yputb (pd_let v) rfl (pd_let_lt v hv) hD (by omega) (fun a' n' hD' => ?_)
  exact H a' n' hD'
theorem pd_sl4 (L : List Nat) (g : Nat → Nat) : (((L ++ [g 0]) ++ [g 1]) ++ [g 2]) ++ [g 3] = L ++ pd_sl g 0 4 := by simp [pd_sl]
theorem pd_shr0 (x : Int32) : x >>> ((0 : Int32) &&& 31) = x := by
  apply b_ext
  intro i hi
  have e := b_sshr 0 (by omega) x hi
  refine e.trans ?_
  rw [Nat.zero_add, if_pos hi]
theorem pd_186 {post : Int32 → SY → Prop} {c : Int32} {l : Nat} (hL : L.length < 1000) (hD : pd_D 400 a n L) (H : pd_YK post (nI ((L ++ pd_sl (pd_g c 4) 0 4).length - 0)) t l M O P (L ++ pd_sl (pd_g c 4) 0 4) 0) : ∃ m, wY_letters_186 post c m 18 (nI l) n (fun i => nI (t i)) a M O P := by
  have g0 : ∀ i, i < 4 → pd_let (pd_sx c i) = pd_g c 4 i := fun i hi => (if_pos hi).symm
  refine ⟨5, br_f (by decide) ?_⟩
  refine pd_ypl (pd_sx c 0) (pd_sx_lt _ _) (pd_sx_e c 0) hD (by omega) (fun a1 n1 d1 => ?_)
  refine nm_r (e' := 12) (by decide) (br_f (by decide) ?_)
  refine pd_ypl (pd_sx c 1) (pd_sx_lt _ _) (pd_sx_e c 1) d1 (by rw [pd_len1]; omega) (fun a2 n2 d2 => ?_)
  refine nm_r (e' := 6) (by decide) (br_f (by decide) ?_)
  refine pd_ypl (pd_sx c 2) (pd_sx_lt _ _) (pd_sx_e c 2) d2 (by rw [pd_len1, pd_len1]; omega) (fun a3 n3 d3 => ?_)
  refine nm_r (e' := 0) (by decide) (br_f (by decide) ?_)
  refine pd_ypl (pd_sx c 3) (pd_sx_lt _ _) (pd_sx_e c 3) d3 (by rw [pd_len1, pd_len1, pd_len1]; omega) (fun a4 n4 d4 => ?_)
  refine nm_r (e' := -6) (by decide) (br_t (by decide) ?_)
  rw [g0 0 (by omega), g0 1 (by omega), g0 2 (by omega), g0 3 (by omega), pd_sl4] at d4
  exact pd_YKb (by rw [List.length_append, pd_sl_len]; omega) H d4
theorem pd_152 {post : Int32 → SY → Prop} {l : Nat} (ht : ∀ i, t i < 256) (hl : l ≤ 120) (hL : L.length < 900) (hD : pd_D 400 a n L) (H : pd_YK post (nI (((L ++ [61]) ++ pd_sl (pd_g (pd_cr t l) 4) 0 4).length - 0)) t l M O P ((L ++ [61]) ++ pd_sl (pd_g (pd_cr t l) 4) 0 4) 0) : ∀ d i m : Nat, i + d = l → d < m → wY_letters_152 post (nI l) n (fun i => nI (t i)) a M O P m (pd_cr t i) (nI i) := by
  intro d
  induction d with
  | zero =>
    intro i m hi hm
    obtain ⟨m, rfl⟩ : ∃ m', m = m' + 1 := ⟨m - 1, by omega⟩
    have e : i = l := by omega
    subst e
    refine br_t (nI_le (Nat.le_refl _) (by omega)) ?_
    refine pd_yputb 61 rfl (by decide) hD (by omega) (fun a' n' hD' => ?_)
    exact pd_186 (by rw [pd_len1]; omega) hD' H
  | succ d ih =>
    intro i m hi hm
    obtain ⟨m, rfl⟩ : ∃ m', m = m' + 1 := ⟨m - 1, by omega⟩
    refine br_f (nI_ge (by omega) (by omega)) ⟨vp_in_nI (by omega) (by decide), ?_⟩
    rw [nI_clamp (by omega)]
    refine pd_ychk (ht i) (pd_cr24 (fun j _ => ht j)) ?_
    exact nm_r (nI_1 i) (ih (i + 1) m (by omega) (by omega))
end
theorem pd_lets {t : Nat → Nat} {M O P : Nat → Int64} {len : Nat} (ht : ∀ i, t i < 256) (hl : len ≤ 120) : ∀ (d f : Nat) (L : List Nat), len - f < d → f ≤ len + 2 → pd_By L → L.length ≤ 2 * f → ∃ L' : List Nat, pd_By L' ∧ L'.length < 1000 ∧ (∀ (post : Int32 → SX → Prop) (m : Nat) (a : Nat → Int32) (n : Int32), d ≤ m → pd_D 120 a n L → pd_XK post (nI (L'.length - 0)) t len M O P L' 0 → wX_letters_7 post m (nI f) (nI len) n (fun i => nI (t i)) a M O P) ∧ (∀ (post : Int32 → SY → Prop) (m : Nat) (a : Nat → Int32) (n : Int32), d ≤ m → pd_D 400 a n L → pd_YK post (nI (L'.length - 0)) t len M O P L' 0 → wY_letters_7 post m (nI f) (nI len) n (fun i => nI (t i)) a M O P) := by
  intro d
  induction d with
  | zero => intro f L h; exact absurd h (Nat.not_lt_zero _)
  | succ d ih =>
    intro f L hd hf hB hL
    rcases Nat.lt_or_ge f len with z | z
    · -- the bits and how many letters they make
      obtain ⟨b1, b2, c, hb1, hb2, hc, hc4⟩ : ∃ (b1 b2 : Int32) (c : Nat), ((f + 1 < len ∧ b1 = nI (t (f + 1)) <<< ((8 : Int32) &&& 31)) ∨ (len ≤ f + 1 ∧ b1 = 0)) ∧ ((f + 2 < len ∧ b2 = nI (t (f + 2))) ∨ (len ≤ f + 2 ∧ b2 = 0)) ∧ ((f + 2 < len ∧ c = 4) ∨ (len ≤ f + 2 ∧ c = len - f + 1)) ∧ 2 ≤ c ∧ c ≤ 4 := by
        rcases Nat.lt_or_ge (f + 2) len with y | y
        · exact ⟨_, _, 4, Or.inl ⟨by omega, rfl⟩, Or.inl ⟨y, rfl⟩, Or.inl ⟨y, rfl⟩, by omega, by omega⟩
        · rcases Nat.lt_or_ge (f + 1) len with x | x
          · exact ⟨_, _, len - f + 1, Or.inl ⟨x, rfl⟩, Or.inr ⟨y, rfl⟩, Or.inr ⟨y, rfl⟩, by omega, by omega⟩
          · exact ⟨_, _, len - f + 1, Or.inr ⟨x, rfl⟩, Or.inr ⟨y, rfl⟩, Or.inr ⟨y, rfl⟩, by omega, by omega⟩
      obtain ⟨B, hBe⟩ : ∃ B, B = ((nI (t f) <<< ((16 : Int32) &&& 31)) ||| b1) ||| b2 := ⟨_, rfl⟩
      obtain ⟨L', p1, p2, hX, hY⟩ := ih (f + 3) (L ++ pd_sl (pd_g B c) 0 4) (by omega) (by omega) (pd_By_app hB (pd_sl_By (pd_g_lt B c) _ _)) (by rw [pd_app, pd_sl_len]; omega)
      have e1 : nI f + 1 = nI (f + 1) := nI_1 f
      have e2 : nI f + 2 = nI (f + 2) := nI_add f 2
      have e3 : nI f + 3 = nI (f + 3) := nI_add f 3
      have ed : nI len - nI f = nI (len - f) := pk_sub (by omega)
      refine ⟨L', p1, p2, ?_, ?_⟩
      · intro post m a n hm hD H
        obtain ⟨m, rfl⟩ : ∃ m', m = m' + 1 := ⟨m - 1, by omega⟩
        have f89 : wX_letters_89 post (wX_letters_7 post m) (nI f) (nI c) B (nI len) n (fun i => nI (t i)) a M O P := by
          unfold wX_letters_89
          refine pd_xpl c rfl hc4.2 hD (by omega) (fun a' n' hD' => ?_)
          exact nm_r e3 (hX post m a' n' (by omega) hD' H)
        have f73 : wX_letters_73 post (wX_letters_7 post m) (nI f) (nI (len - f)) b2 ((nI (t f) <<< ((16 : Int32) &&& 31)) ||| b1) (nI len) n (fun i => nI (t i)) a M O P := by
          refine nm_r hBe.symm (pk_le (len - f) 2 (fun y => ?_) (fun y => ?_))
          · rcases hc with ⟨x, _⟩ | ⟨_, x⟩
            · omega
            · rw [nI_1, ← x]
              exact f89
          · rcases hc with ⟨_, x⟩ | ⟨x, _⟩
            · rw [x] at f89
              exact f89
            · omega
        have f53 : wX_letters_53 post (wX_letters_7 post m) (nI f) (nI (len - f)) b1 (nI (t f) <<< ((16 : Int32) &&& 31)) (nI len) n (fun i => nI (t i)) a M O P := by
          refine nm_e (pk_le (len - f) 2 (fun y => ?_) (fun y => ⟨by rw [e2]; exact vp_in_nI (by omega) (by decide), ?_⟩))
          · rcases hb2 with ⟨x, _⟩ | ⟨_, x⟩
            · omega
            · rw [x] at f73
              exact f73
          · rcases hb2 with ⟨_, x⟩ | ⟨x, _⟩
            · rw [e2, nI_clamp (by omega)]
              rw [x] at f73
              exact f73
            · omega
        refine br_f (nI_ge z (by omega)) (nm_r ed ⟨vp_in_nI (by omega) (by decide), nm_r (e' := nI (t f) <<< ((16 : Int32) &&& 31)) (by rw [nI_clamp (by omega)]) (pk_le (len - f) 1 (fun y => ?_) (fun y => ⟨by rw [e1]; exact vp_in_nI (by omega) (by decide), ?_⟩))⟩)
        · rcases hb1 with ⟨x, _⟩ | ⟨_, x⟩
          · omega
          · rw [x] at f53
            exact f53
        · rcases hb1 with ⟨_, x⟩ | ⟨x, _⟩
          · rw [e1, nI_clamp (by omega)]
            rw [x] at f53
            exact f53
          · omega
      · intro post m a n hm hD H
        obtain ⟨m, rfl⟩ : ∃ m', m = m' + 1 := ⟨m - 1, by omega⟩
        have gi : ∀ i, i < c → pd_let (pd_sx B i) = pd_g B c i := fun i hi => (if_pos hi).symm
        have gn : ∀ i, ¬ i < c → 61 = pd_g B c i := fun i hi => (if_neg hi).symm
        have s3 : B &&& 63 = nI (pd_sx B 3) := by
          have q := pd_sx_e B 3
          rw [show ((18 - 6 * nI 3 : Int32) &&& 31) = ((0 : Int32) &&& 31) by decide, pd_shr0] at q
          exact q
        have f117 : ∀ (D : List Nat) a1 n1, D.length < 600 → D ++ [pd_g B c 3] = L ++ pd_sl (pd_g B c) 0 4 → pd_D 400 a1 n1 D → wY_letters_117 post (wY_letters_7 post m) (nI f) B (nI len) n1 (fun i => nI (t i)) a1 M O P := by
          intro D a1 n1 hDl eD hD1
          have fin : ∀ a2 n2, pd_D 400 a2 n2 (D ++ [pd_g B c 3]) → ∀ y, y = nI f + 3 → wY_letters_7 post m y (nI len) n2 (fun i => nI (t i)) a2 M O P := by
            intro a2 n2 d2
            rw [eD] at d2
            exact nm_r e3 (hY post m a2 n2 (by omega) d2 H)
          refine pk_le len (f + 2) (fun y => ?_) (fun y => ?_) rfl e2
          · refine pd_yputb 61 rfl (by decide) hD1 (by omega) (fun a2 n2 d2 => ?_)
            rw [gn 3 (by omega)] at d2
            exact fin a2 n2 d2
          · refine pd_ypl (pd_sx B 3) (pd_sx_lt _ _) s3 hD1 (by omega) (fun a2 n2 d2 => ?_)
            rw [gi 3 (by omega)] at d2
            exact fin a2 n2 d2
        have f72 : wY_letters_72 post (wY_letters_7 post m) (nI f) b2 ((nI (t f) <<< ((16 : Int32) &&& 31)) ||| b1) (nI len) n (fun i => nI (t i)) a M O P := by
          refine nm_r hBe.symm ?_
          refine pd_ypl (pd_sx B 0) (pd_sx_lt _ _) (pd_sx_e B 0) hD (by omega) (fun a1 n1 d1 => ?_)
          refine pd_ypl (pd_sx B 1) (pd_sx_lt _ _) (pd_sx_e B 1) d1 (by rw [pd_len1]; omega) (fun a2 n2 d2 => ?_)
          rw [gi 0 (by omega), gi 1 (by omega)] at d2
          refine pk_le len (f + 1) (fun y => ?_) (fun y => ?_) rfl e1
          · refine pd_yputb 61 rfl (by decide) d2 (by rw [pd_len1, pd_len1]; omega) (fun a3 n3 d3 => ?_)
            rw [gn 2 (by omega)] at d3
            exact f117 _ a3 n3 (by rw [pd_len1, pd_len1, pd_len1]; omega) (pd_sl4 L (pd_g B c)) d3
          · refine pd_ypl (pd_sx B 2) (pd_sx_lt _ _) (pd_sx_e B 2) d2 (by rw [pd_len1, pd_len1]; omega) (fun a3 n3 d3 => ?_)
            rw [gi 2 (by omega)] at d3
            exact f117 _ a3 n3 (by rw [pd_len1, pd_len1, pd_len1]; omega) (pd_sl4 L (pd_g B c)) d3
        have f49 : wY_letters_49 post (wY_letters_7 post m) (nI f) b1 (nI (t f) <<< ((16 : Int32) &&& 31)) (nI len) n (fun i => nI (t i)) a M O P := by
          refine pk_le len (f + 2) (fun y => ?_) (fun y => ⟨by rw [e2]; exact vp_in_nI (by omega) (by decide), ?_⟩) rfl e2
          · rcases hb2 with ⟨x, _⟩ | ⟨_, x⟩
            · omega
            · rw [x] at f72
              exact f72
          · rcases hb2 with ⟨_, x⟩ | ⟨x, _⟩
            · rw [e2, nI_clamp (by omega)]
              rw [x] at f72
              exact f72
            · omega
        refine br_f (nI_ge z (by omega)) ⟨vp_in_nI (by omega) (by decide), ?_⟩
        rw [nI_clamp (by omega)]
        refine pk_le len (f + 1) (fun y => ?_) (fun y => ⟨by rw [e1]; exact vp_in_nI (by omega) (by decide), ?_⟩) rfl e1
        · rcases hb1 with ⟨x, _⟩ | ⟨_, x⟩
          · omega
          · rw [x] at f49
            exact f49
        · rcases hb1 with ⟨_, x⟩ | ⟨x, _⟩
          · rw [e1, nI_clamp (by omega)]
            rw [x] at f49
            exact f49
          · omega
    · have hlen : ((L ++ [61]) ++ pd_sl (pd_g (pd_cr t len) 4) 0 4).length < 1000 := by rw [pd_app, pd_len1, pd_sl_len]; omega
      refine ⟨(L ++ [61]) ++ pd_sl (pd_g (pd_cr t len) 4) 0 4, pd_By_app (pd_By_put hB (by decide)) (pd_sl_By (pd_g_lt _ _) _ _), hlen, ?_, ?_⟩
      · intro post m a n hm hD H
        obtain ⟨m, rfl⟩ : ∃ m', m = m' + 1 := ⟨m - 1, by omega⟩
        refine br_t (nI_le z (by omega)) ?_
        refine pd_xput 61 rfl hD (by omega) (fun a1 n1 d1 => ?_)
        refine pd_crcW len rfl hl (fun i _ => rfl) ?_
        refine pd_xpl 4 rfl (by omega) d1 (by rw [pd_len1]; omega) (fun a2 n2 d2 => ?_)
        exact pd_XKb (by omega) H d2
      · intro post m a n hm hD H
        obtain ⟨m, rfl⟩ : ∃ m', m = m' + 1 := ⟨m - 1, by omega⟩
        refine br_t (nI_le z (by omega)) ⟨len + 1, ?_⟩
        exact pd_152 ht hl (by omega) hD H len 0 (len + 1) (by omega) (by omega)
theorem i_vc_letters {k : Nat} {u : SX} {v : SY} (I : i_Rel k u v) (hk : k + 5 ≤ 2560) : wpX_letters (fun r u' => wpY_letters (fun r' v' => r' = r ∧ i_Rel (k + 5) u' v') v) u := by
  obtain ⟨t, len, M, O, P, a, n, b, c, ht, hl, hK, rfl, rfl⟩ := I
  obtain ⟨L', b1, b2, hX, hY⟩ := pd_lets (M := M) (O := O) (P := P) ht hl (len + 1) 0 [] (by omega) (by omega) pd_By_nil (by simp)
  exact pd_fin (k + 5) (r := nI (L'.length - 0)) (L := L') (f := 0) ht hl hK b1 (fun post => wpX_letters post (nI len, n, (fun i => nI (t i)), a, M, O, P)) (fun post => wpY_letters post (nI len, c, (fun i => nI (t i)), b, M, O, P)) (fun post H => ⟨len + 1, hX post (len + 1) a 0 (by omega) (pd_D_nil 120 a) H⟩) (fun post H => ⟨len + 1, hY post (len + 1) b 0 (by omega) (pd_D_nil 400 b) H⟩)
end
section
/-! plain -/
theorem pd_nr_A {c : Nat} (h : 65 ≤ c ∧ c ≤ 90) : pd_nr c = nI (c - 65) := by
  have e : pd_num c = c - 65 := if_pos h
  unfold pd_nr
  rw [e, if_pos (by omega)]
theorem pd_nr_B {c : Nat} (h : 97 ≤ c ∧ c ≤ 122) : pd_nr c = nI (c - 71) := by
  have e : pd_num c = c - 71 := (if_neg (by omega)).trans (if_pos h)
  unfold pd_nr
  rw [e, if_pos (by omega)]
theorem pd_nr_C {c : Nat} (h : 48 ≤ c ∧ c ≤ 57) : pd_nr c = nI (c + 4) := by
  have e : pd_num c = c + 4 := (if_neg (by omega)).trans ((if_neg (by omega)).trans (if_pos h))
  unfold pd_nr
  rw [e, if_pos (by omega)]
theorem pd_nr_D : pd_nr 43 = 62 := by decide
theorem pd_nr_E : pd_nr 47 = 63 := by decide
theorem pd_nr_F {c : Nat} (h1 : ¬ (65 ≤ c ∧ c ≤ 90)) (h2 : ¬ (97 ≤ c ∧ c ≤ 122)) (h3 : ¬ (48 ≤ c ∧ c ≤ 57)) (h4 : ¬ c = 43) (h5 : ¬ c = 47) : pd_nr c = -1 := by
  have e : pd_num c = 64 := (if_neg h1).trans ((if_neg h2).trans ((if_neg h3).trans ((if_neg h4).trans (if_neg h5))))
  unfold pd_nr
  rw [e, if_neg (by omega)]
section
variable {len n : Int32} {w a : Nat → Int32} {t : Nat → Nat} {M O P : Nat → Int64} {L : List Nat}
theorem pd_xnum {post : Int32 → Prop} {c : Nat} (hc : c < 256) (H : post (pd_nr c)) : wpX_numberOf post (len, n, w, a, M, O, P) (nI c) := by
  have s57 : ¬ (65 ≤ c ∧ c ≤ 90) → ¬ (97 ≤ c ∧ c ≤ 122) → ¬ (48 ≤ c ∧ c ≤ 57) → wX_numberOf_57 post (nI c) len n w a M O P := by
    intro h1 h2 h3
    refine pk_eq c 43 (fun h => ?_) (fun h => pk_eq c 47 (fun h' => ?_) (fun h' => ?_))
    · rw [h, pd_nr_D] at H
      exact H
    · rw [h', pd_nr_E] at H
      exact H
    · rw [pd_nr_F h1 h2 h3 h h'] at H
      exact H
  have s37 : ¬ (65 ≤ c ∧ c ≤ 90) → ¬ (97 ≤ c ∧ c ≤ 122) → wX_numberOf_37 post (nI c) len n w a M O P := by
    intro h1 h2
    refine pk_lt c 48 (fun h => s57 h1 h2 (by omega)) (fun h => pk_lt 57 c (fun h' => s57 h1 h2 (by omega)) (fun h' => ?_))
    have e1 : nI c - 48 = nI (c - 48) := pk_sub (b := 48) h
    have e2 : nI (c - 48) + 52 = nI (c - 48 + 52) := nI_add _ 52
    rw [e1, e2, show c - 48 + 52 = c + 4 by omega, ← pd_nr_C ⟨h, h'⟩]
    exact H
  have s17 : ¬ (65 ≤ c ∧ c ≤ 90) → wX_numberOf_17 post (nI c) len n w a M O P := by
    intro h1
    refine pk_lt c 97 (fun h => s37 h1 (by omega)) (fun h => pk_lt 122 c (fun h' => s37 h1 (by omega)) (fun h' => ?_))
    have e1 : nI c - 97 = nI (c - 97) := pk_sub (b := 97) h
    have e2 : nI (c - 97) + 26 = nI (c - 97 + 26) := nI_add _ 26
    rw [e1, e2, show c - 97 + 26 = c - 71 by omega, ← pd_nr_B ⟨h, h'⟩]
    exact H
  refine pk_lt c 65 (fun h => s17 (by omega)) (fun h => pk_lt 90 c (fun h' => s17 (by omega)) (fun h' => ?_))
  have e1 : nI c - 65 = nI (c - 65) := pk_sub (b := 65) h
  rw [e1, ← pd_nr_A ⟨h, h'⟩]
  exact H
theorem pd_ynumL {post : Int32 → Prop} {c : Nat} (hc : c < 256) (H : post (pd_nr c)) : ∀ d v m : Nat, v + d = 64 → d < m → (∀ u, u < v → ¬ pd_let u = c) → wY_number_2 post (nI c) m (nI v) := by
  intro d
  induction d with
  | zero =>
    intro v m hv hm hno
    obtain ⟨m, rfl⟩ : ∃ m', m = m' + 1 := ⟨m - 1, by omega⟩
    have e : v = 64 := by omega
    subst e
    have q : pd_nr c = -1 := by
      unfold pd_nr
      rw [if_neg]
      intro z
      exact hno _ z (pd_let_num c hc z)
    rw [q] at H
    exact br_t (by decide) H
  | succ d ih =>
    intro v m hv hm hno
    obtain ⟨m, rfl⟩ : ∃ m', m = m' + 1 := ⟨m - 1, by omega⟩
    have hlt := pd_let_lt v (by omega)
    refine br_f (nI_ge (b := 64) (by omega) (by decide)) ?_
    refine pd_ylet (by omega) ?_
    refine pk_eq (pd_let v) c (fun z => ?_) (fun z => nm_r (nI_1 v) (ih (v + 1) m (by omega) (by omega) ?_))
    · have q : pd_nr c = nI v := by
        have e := pd_num_let v (by omega)
        rw [z] at e
        unfold pd_nr
        rw [e, if_pos (by omega)]
      rw [q] at H
      exact H
    · intro u hu
      rcases Nat.lt_or_ge u v with y | y
      · exact hno u y
      · rw [show u = v by omega]
        exact z
theorem pd_ynum {post : Int32 → Prop} {c : Nat} (hc : c < 256) (H : post (pd_nr c)) : wpY_number post (nI c) := ⟨65, pd_ynumL hc H 64 0 65 (by omega) (by omega) (fun u hu => absurd hu (by omega))⟩
end
theorem pd_64 : ∀ i, i < 4 → 64 ^ i ≤ 262144 := by decide
theorem pd_fours {t : Nat → Nat} {M O P : Nat → Int64} {f cn wo : Nat} (ht : ∀ i, t i < 256) (hf : f + 4 ≤ 120) (hcw : cn + wo = 4) (hpad : ∀ i, cn ≤ i → i < 4 → t (f + i) = 61) : ∀ d i x : Nat, i + d = 4 → x < 64 ^ i → ∃ r : Int32, (r = -1 ∨ ∃ y, y < 2 ^ 24 ∧ r = nI y) ∧ (∀ (post : Int32 → Prop) (m : Nat) (len n : Int32) (a : Nat → Int32), d < m → post r → wX_bitsOfLetters_5 post (nI f) (nI cn) len n (fun i => nI (t i)) a M O P m (nI x) (nI i)) ∧ (∀ (post : Int32 → Prop) (m : Nat) (len n : Int32) (a : Nat → Int32), d < m → post r → wY_four_5 post (nI f) (nI wo) len n (fun i => nI (t i)) a M O P m (nI x) (nI i)) := by
  intro d
  induction d with
  | zero =>
    intro i x hi hx
    have e : i = 4 := by omega
    subst e
    refine ⟨nI x, Or.inr ⟨x, by omega, rfl⟩, ?_, ?_⟩
    · intro post m len n a hm H
      obtain ⟨m, rfl⟩ : ∃ m', m = m' + 1 := ⟨m - 1, by omega⟩
      exact br_t (by decide) H
    · intro post m len n a hm H
      obtain ⟨m, rfl⟩ : ∃ m', m = m' + 1 := ⟨m - 1, by omega⟩
      exact br_t (by decide) H
  | succ d ih =>
    intro i x hi hx
    have hx2 := pd_64 i (by omega)
    have hb := ht (f + i)
    have ea : nI f + nI i = nI (f + i) := nI_add f i
    have ew : 4 - nI wo = nI cn := by
      have e : (4 : Int32) - nI wo = nI (4 - wo) := pk_sub (a := 4) (by omega)
      rw [e, show 4 - wo = cn by omega]
    -- X and Y up to the number
    have goX : ∀ (post : Int32 → Prop) (m : Nat) (len n : Int32) (a : Nat → Int32) (z : Int32), (i < cn → z = pd_nr (t (f + i))) → (cn ≤ i → z = 0) → wX_bitsOfLetters_34 post (wX_bitsOfLetters_5 post (nI f) (nI cn) len n (fun i => nI (t i)) a M O P m) (nI f) (nI cn) (nI x) (nI i) z len n (fun i => nI (t i)) a M O P → wX_bitsOfLetters_5 post (nI f) (nI cn) len n (fun i => nI (t i)) a M O P (m + 1) (nI x) (nI i) := by
      intro post m len n a z z1 z2 H
      refine br_f (nI_ge (b := 4) (by omega) (by decide)) (pk_le cn i (fun y => ?_) (fun y => ⟨by rw [ea]; exact vp_in_nI (by omega) (by decide), ?_⟩))
      · rw [z2 y] at H
        exact H
      · rw [ea, nI_clamp (by omega)]
        refine pd_xnum hb ?_
        rw [z1 y] at H
        exact H
    have goY : ∀ (post : Int32 → Prop) (m : Nat) (len n : Int32) (a : Nat → Int32) (z : Int32), (i < cn → z = pd_nr (t (f + i))) → (cn ≤ i → z = 0) → wY_four_50 post (wY_four_5 post (nI f) (nI wo) len n (fun i => nI (t i)) a M O P m) (nI f) (nI wo) (nI x) (nI i) z len n (fun i => nI (t i)) a M O P → wY_four_5 post (nI f) (nI wo) len n (fun i => nI (t i)) a M O P (m + 1) (nI x) (nI i) := by
      intro post m len n a z z1 z2 H
      refine br_f (nI_ge (b := 4) (by omega) (by decide)) ⟨by rw [ea]; exact vp_in_nI (by omega) (by decide), nm_r (e' := nI (t (f + i))) (by rw [ea, nI_clamp (by omega)]) (pk_lt i cn (fun y => ?_) (fun y => ?_) rfl ew)⟩
      · refine pd_ynum hb ?_
        rw [z1 y] at H
        exact H
      · rw [z2 y] at H
        rw [hpad i y (by omega)]
        exact br_t rfl H
    by_cases hneg : i < cn ∧ ¬ pd_num (t (f + i)) < 64
    · have en : pd_nr (t (f + i)) = -1 := if_neg hneg.2
      refine ⟨-1, Or.inl rfl, ?_, ?_⟩
      · intro post m len n a hm H
        obtain ⟨m, rfl⟩ : ∃ m', m = m' + 1 := ⟨m - 1, by omega⟩
        refine goX post m len n a (-1) (fun _ => en.symm) (fun y => absurd y (by omega)) ?_
        exact br_f (by decide) H
      · intro post m len n a hm H
        obtain ⟨m, rfl⟩ : ∃ m', m = m' + 1 := ⟨m - 1, by omega⟩
        refine goY post m len n a (-1) (fun _ => en.symm) (fun y => absurd y (by omega)) ?_
        exact br_f (by decide) H
    · obtain ⟨v, hv, v1, v2⟩ : ∃ v, v < 64 ∧ (i < cn → nI v = pd_nr (t (f + i))) ∧ (cn ≤ i → nI v = 0) := by
        rcases Nat.lt_or_ge i cn with y | y
        · have h64 : pd_num (t (f + i)) < 64 := by
            apply Decidable.byContradiction
            intro q
            exact hneg ⟨y, q⟩
          exact ⟨pd_num (t (f + i)), h64, fun _ => (if_pos h64).symm, fun z => absurd z (by omega)⟩
        · exact ⟨0, by omega, fun z => absurd z (by omega), fun _ => rfl⟩
      obtain ⟨r, hr, hX, hY⟩ := ih (i + 1) (x * 64 + v) (by omega) (by rw [Nat.pow_succ]; omega)
      have e6 : (nI x <<< ((6 : Int32) &&& 31)) ||| nI v = nI (x * 64 + v) := pd_6 (by omega) hv
      refine ⟨r, hr, ?_, ?_⟩
      · intro post m len n a hm H
        obtain ⟨m, rfl⟩ : ∃ m', m = m' + 1 := ⟨m - 1, by omega⟩
        refine goX post m len n a (nI v) v1 v2 ?_
        exact br_t (nI_pos' (by omega)) (nm_r e6 (nm_r (nI_1 i) (hX post m len n a (by omega) H)))
      · intro post m len n a hm H
        obtain ⟨m, rfl⟩ : ∃ m', m = m' + 1 := ⟨m - 1, by omega⟩
        refine goY post m len n a (nI v) v1 v2 ?_
        exact br_t (nI_pos' (by omega)) (nm_r e6 (nm_r (nI_1 i) (hY post m len n a (by omega) H)))
/-- byte k of three -/
def pd_b3 (y k : Nat) : Nat := y / 2 ^ (16 - 8 * k) % 256
theorem pd_b3_lt (y k : Nat) : pd_b3 y k < 256 := Nat.mod_lt _ (by decide)
theorem pd_s16 : ∀ k, k < 3 → (((16 - 8 * nI k : Int32) &&& 31).toBitVec.smod 32).toNat = 16 - 8 * k := by decide +kernel
theorem pd_b3Y {y k : Nat} (hy : y < 2 ^ 24) (hk : k < 3) : (nI y >>> ((16 - 8 * nI k : Int32) &&& 31)) &&& 255 = nI (pd_b3 y k) := by
  have h2 : y / 2 ^ (16 - 8 * k) ≤ y := Nat.div_le_self _ _
  rw [pk_shrN (by omega) _ (16 - 8 * k) (pd_s16 k hk), pk_andN (by omega) 8 (by decide)]
  rfl
theorem pd_sl3 (L : List Nat) (g : Nat → Nat) : ((L ++ [g 0]) ++ [g 1]) ++ [g 2] = L ++ pd_sl g 0 3 := by simp [pd_sl]
theorem pd_sl_add (g : Nat → Nat) (p q : Nat) : pd_sl g 0 (p + q) = pd_sl g 0 p ++ pd_sl g p q := by
  induction q with
  | zero => simp [pd_sl]
  | succ q ih =>
    show pd_sl g 0 (p + q) ++ [g (0 + (p + q))] = pd_sl g 0 p ++ (pd_sl g p q ++ [g (p + q)])
    rw [ih, List.append_assoc, Nat.zero_add]
section
variable {len n : Int32} {w a : Nat → Int32} {t : Nat → Nat} {M O P : Nat → Int64} {L : List Nat}
theorem pd_y120 {post : Int32 → SY → Prop} {J : Int32 → Int32 → Int32 → (Nat → Int32) → (Nat → Int32) → (Nat → Int64) → (Nat → Int64) → (Nat → Int64) → Prop} {x1 x2 : Int32} {f wo y : Nat} (hy : y < 2 ^ 24) (hwo : wo ≤ 2) (hL : L.length < 1000) (H : ∀ a' n', pd_D 400 a' n' (L ++ pd_sl (pd_b3 y) 0 (3 - wo)) → J (nI (f + 4)) len n' w a' M O P) : ∀ (d k m : Nat) (a : Nat → Int32) (n : Int32), k + d = 3 - wo → d < m → pd_D 400 a n (L ++ pd_sl (pd_b3 y) 0 k) → wY_plain_120 post J x1 x2 (nI f) (nI wo) (nI y) m (nI k) len n w a M O P := by
  have ew : 3 - nI wo = nI (3 - wo) := pk_sub (a := 3) (by omega)
  intro d
  induction d with
  | zero =>
    intro k m a n hk hm hD
    obtain ⟨m, rfl⟩ : ∃ m', m = m' + 1 := ⟨m - 1, by omega⟩
    have e : k = 3 - wo := by omega
    subst e
    exact br_t (by rw [ew]; exact nI_le (Nat.le_refl _) (by omega)) (nm_r (nI_add f 4) (H a n hD))
  | succ d ih =>
    intro k m a n hk hm hD
    obtain ⟨m, rfl⟩ : ∃ m', m = m' + 1 := ⟨m - 1, by omega⟩
    refine br_f (by rw [ew]; exact nI_ge (by omega) (by omega)) ?_
    refine pd_yput (pd_b3 y k) (pd_b3Y hy (by omega)) hD (by rw [List.length_append, pd_sl_len]; omega) (fun a' n' hD' => ?_)
    refine nm_r (nI_1 k) (ih (k + 1) m a' n' (by omega) (by omega) ?_)
    rw [pd_sl, ← List.append_assoc, Nat.zero_add]
    exact hD'
theorem pd_179 {post : Int32 → SY → Prop} {x : Int32} {l : Nat} (hB : pd_By L) (hL : L.length ≤ 120) (hD : pd_D 400 a n L) (hit : pd_cr (fun i => L.getD i 0) L.length = x → pd_YK post (nI (L.length - 0)) t l M O P L 0) (miss : ¬ pd_cr (fun i => L.getD i 0) L.length = x → pd_YC post (-4) t l M O P) : ∀ d i m : Nat, i + d = L.length → d < m → wY_plain_179 post x (nI l) n (fun i => nI (t i)) a M O P m (pd_cr (fun i => L.getD i 0) i) (nI i) := by
  have en := hD.1
  subst en
  intro d
  induction d with
  | zero =>
    intro i m hi hm
    obtain ⟨m, rfl⟩ : ∃ m', m = m' + 1 := ⟨m - 1, by omega⟩
    have e : i = L.length := by omega
    subst e
    refine br_t (nI_le (Nat.le_refl _) (by omega)) (br_c (fun z => ?_) (fun z => ?_))
    · exact pd_YKb (by omega) (hit z) hD
    · exact miss z _ _
  | succ d ih =>
    intro i m hi hm
    obtain ⟨m, rfl⟩ : ∃ m', m = m' + 1 := ⟨m - 1, by omega⟩
    refine br_f (nI_ge (by omega) (by omega)) ⟨vp_in_nI (by omega) (by decide), ?_⟩
    rw [nI_clamp (by omega), hD.2 i (by omega) (by omega)]
    refine pd_ychk (pd_By_get hB i) (pd_cr24 (fun j _ => pd_By_get hB j)) ?_
    exact nm_r (nI_1 i) (ih (i + 1) m (by omega) (by omega))
end
theorem pd_plns {t : Nat → Nat} {M O P : Nat → Int64} {len e p : Nat} (ht : ∀ i, t i < 256) (hl : len ≤ 120) (he : e + 5 = len) (he4 : e % 4 = 0) (hp : p ≤ 2) (hpad : ∀ i, 4 - p ≤ i → i < 4 → 4 ≤ e → t (e - 4 + i) = 61) : ∀ (d f : Nat) (L Z : List Nat), e - f < d → f ≤ e → f % 4 = 0 → pd_By L → L.length ≤ f → (f < e → Z = []) → (f = e → Z.length = p) → ((∀ (post : Int32 → SX → Prop) (m : Nat) (a : Nat → Int32) (n : Int32), d ≤ m → pd_D 120 a n (L ++ Z) → pd_XC post (-4) t len M O P → wX_plain_56 post (nI e) (nI p) m (nI f) (nI len) n (fun i => nI (t i)) a M O P) ∧ (∀ (post : Int32 → SY → Prop) (m : Nat) (a : Nat → Int32) (n : Int32), d ≤ m → pd_D 400 a n L → pd_YC post (-4) t len M O P → wY_plain_81 post (nI e) (nI p) m (nI f) (nI len) n (fun i => nI (t i)) a M O P)) ∨ (∃ L' : List Nat, pd_By L' ∧ (∀ (post : Int32 → SX → Prop) (m : Nat) (a : Nat → Int32) (n : Int32), d ≤ m → pd_D 120 a n (L ++ Z) → pd_XK post (nI (L'.length - 0)) t len M O P L' 0 → wX_plain_56 post (nI e) (nI p) m (nI f) (nI len) n (fun i => nI (t i)) a M O P) ∧ (∀ (post : Int32 → SY → Prop) (m : Nat) (a : Nat → Int32) (n : Int32), d ≤ m → pd_D 400 a n L → pd_YK post (nI (L'.length - 0)) t len M O P L' 0 → wY_plain_81 post (nI e) (nI p) m (nI f) (nI len) n (fun i => nI (t i)) a M O P)) := by
  intro d
  induction d with
  | zero => intro f L Z h; exact absurd h (Nat.not_lt_zero _)
  | succ d ih =>
    intro f L Z hd hf hf4 hB hL hZ1 hZ2
    rcases Nat.lt_or_ge f e with z | z
    · have eZ := hZ1 z
      subst eZ
      rw [List.append_nil]
      obtain ⟨wo, hwo, hw1, hw2⟩ : ∃ wo, wo ≤ 2 ∧ (f + 4 = e → wo = p) ∧ (¬ f + 4 = e → wo = 0) := by
        by_cases y : f + 4 = e
        · exact ⟨p, hp, fun _ => rfl, fun x => absurd y x⟩
        · exact ⟨0, by omega, fun x => absurd x y, fun _ => rfl⟩
      have hpad' : ∀ i, 4 - wo ≤ i → i < 4 → t (f + i) = 61 := by
        intro i i1 i2
        by_cases y : f + 4 = e
        · rw [hw1 y] at i1
          have q := hpad i i1 i2 (by omega)
          rw [show e - 4 + i = f + i by omega] at q
          exact q
        · rw [hw2 y] at i1
          omega
      obtain ⟨r, hr, rX, rY⟩ := pd_fours (M := M) (O := O) (P := P) (f := f) (cn := 4 - wo) (wo := wo) ht (by omega) (by omega) hpad' 4 0 0 (by omega) (by decide)
      have e4 : nI f + 4 = nI (f + 4) := nI_add f 4
      have e4p : 4 - nI p = nI (4 - p) := pk_sub (a := 4) (by omega)
      have goX : ∀ (post : Int32 → SX → Prop) (m : Nat) (a : Nat → Int32) (n : Int32), wX_plain_77 post (wX_plain_56 post (nI e) (nI p) m) (nI e) (nI p) (nI f) (nI (4 - wo)) (nI f) (nI len) n (fun i => nI (t i)) a M O P → wX_plain_56 post (nI e) (nI p) (m + 1) (nI f) (nI len) n (fun i => nI (t i)) a M O P := by
        intro post m a n H
        refine br_f (nI_ge z (by omega)) (pk_le e (f + 4) (fun y => ?_) (fun y => ?_) rfl e4)
        · rw [hw1 (by omega)] at H
          rw [e4p]
          exact H
        · rw [hw2 (by omega)] at H
          exact H
      have goY : ∀ (post : Int32 → SY → Prop) (m : Nat) (a : Nat → Int32) (n : Int32), wY_plain_98 post (wY_plain_81 post (nI e) (nI p) m) (nI e) (nI p) (nI f) (nI wo) (nI len) n (fun i => nI (t i)) a M O P → wY_plain_81 post (nI e) (nI p) (m + 1) (nI f) (nI len) n (fun i => nI (t i)) a M O P := by
        intro post m a n H
        refine br_f (nI_ge z (by omega)) (pk_eq (f + 4) e (fun y => ?_) (fun y => ?_) e4 rfl)
        · rw [hw1 y] at H
          exact H
        · rw [hw2 y] at H
          exact H
      rcases hr with rfl | ⟨y, hy, rfl⟩
      · refine Or.inl ⟨?_, ?_⟩
        · intro post m a n hm hD H
          obtain ⟨m, rfl⟩ : ∃ m', m = m' + 1 := ⟨m - 1, by omega⟩
          refine goX post m a n ⟨5, rX _ 5 _ _ _ (by omega) ?_⟩
          exact br_f (by decide) (H a n)
        · intro post m a n hm hD H
          obtain ⟨m, rfl⟩ : ∃ m', m = m' + 1 := ⟨m - 1, by omega⟩
          refine goY post m a n ⟨5, rY _ 5 _ _ _ (by omega) ?_⟩
          exact br_f (by decide) (H a n)
      · have sX : ∀ (post : Int32 → SX → Prop) (m : Nat) (a : Nat → Int32) (n : Int32), pd_D 120 a n L → (∀ a' n', pd_D 120 a' n' ((L ++ pd_sl (pd_b3 y) 0 (3 - wo)) ++ pd_sl (pd_b3 y) (3 - wo) wo) → wX_plain_56 post (nI e) (nI p) m (nI (f + 4)) (nI len) n' (fun i => nI (t i)) a' M O P) → wX_plain_56 post (nI e) (nI p) (m + 1) (nI f) (nI len) n (fun i => nI (t i)) a M O P := by
          intro post m a n hD H
          refine goX post m a n ⟨5, rX _ 5 _ _ _ (by omega) ?_⟩
          refine br_t (nI_pos' (by omega)) ?_
          have v0 : nI y >>> ((16 : Int32) &&& 31) = nI (pd_b3 y 0) := by
            have q : nI y >>> ((16 : Int32) &&& 31) = nI (y / 2 ^ 16) := pk_shrN (by omega) _ 16 (by decide)
            rw [q]
            unfold pd_b3
            rw [show y / 2 ^ (16 - 8 * 0) % 256 = y / 2 ^ 16 by omega]
          have v1 : (nI y >>> ((8 : Int32) &&& 31)) &&& 255 = nI (pd_b3 y 1) := pd_b3Y hy (k := 1) (by omega)
          have v2 : nI y &&& 255 = nI (pd_b3 y 2) := by
            rw [pk_andN (by omega) 8 (by decide)]
            unfold pd_b3
            rw [show y / 2 ^ (16 - 8 * 2) % 256 = y % 2 ^ 8 by omega]
          refine pd_xput (pd_b3 y 0) v0 hD (by omega) (fun a1 n1 d1 => ?_)
          refine pd_xput (pd_b3 y 1) v1 d1 (by rw [pd_len1]; omega) (fun a2 n2 d2 => ?_)
          refine pd_xput (pd_b3 y 2) v2 d2 (by rw [pd_len1, pd_len1]; omega) (fun a3 n3 d3 => ?_)
          refine nm_r e4 (H a3 n3 ?_)
          have q := pd_sl_add (pd_b3 y) (3 - wo) wo
          rw [show 3 - wo + wo = 3 by omega] at q
          rw [List.append_assoc, ← q, ← pd_sl3]
          exact d3
        have sY : ∀ (post : Int32 → SY → Prop) (m : Nat) (a : Nat → Int32) (n : Int32), pd_D 400 a n L → (∀ a' n', pd_D 400 a' n' (L ++ pd_sl (pd_b3 y) 0 (3 - wo)) → wY_plain_81 post (nI e) (nI p) m (nI (f + 4)) (nI len) n' (fun i => nI (t i)) a' M O P) → wY_plain_81 post (nI e) (nI p) (m + 1) (nI f) (nI len) n (fun i => nI (t i)) a M O P := by
          intro post m a n hD H
          refine goY post m a n ⟨5, rY _ 5 _ _ _ (by omega) ?_⟩
          refine br_t (nI_pos' (by omega)) ⟨4, ?_⟩
          exact pd_y120 hy hwo (by omega) H (3 - wo) 0 4 a n (by omega) (by omega) (by rw [pd_sl, List.append_nil]; exact hD)
        rcases ih (f + 4) (L ++ pd_sl (pd_b3 y) 0 (3 - wo)) (pd_sl (pd_b3 y) (3 - wo) wo) (by omega) (by omega) (by omega) (pd_By_app hB (pd_sl_By (pd_b3_lt y) _ _)) (by rw [pd_app, pd_sl_len]; omega) (fun x => by rw [hw2 (by omega)]; rfl) (fun x => by rw [pd_sl_len]; exact hw1 x) with ⟨hX, hY⟩ | ⟨L', b1, hX, hY⟩
        · refine Or.inl ⟨?_, ?_⟩
          · intro post m a n hm hD H
            obtain ⟨m, rfl⟩ : ∃ m', m = m' + 1 := ⟨m - 1, by omega⟩
            exact sX post m a n hD (fun a' n' hD' => hX post m a' n' (by omega) hD' H)
          · intro post m a n hm hD H
            obtain ⟨m, rfl⟩ : ∃ m', m = m' + 1 := ⟨m - 1, by omega⟩
            exact sY post m a n hD (fun a' n' hD' => hY post m a' n' (by omega) hD' H)
        · refine Or.inr ⟨L', b1, ?_, ?_⟩
          · intro post m a n hm hD H
            obtain ⟨m, rfl⟩ : ∃ m', m = m' + 1 := ⟨m - 1, by omega⟩
            exact sX post m a n hD (fun a' n' hD' => hX post m a' n' (by omega) hD' H)
          · intro post m a n hm hD H
            obtain ⟨m, rfl⟩ : ∃ m', m = m' + 1 := ⟨m - 1, by omega⟩
            exact sY post m a n hD (fun a' n' hD' => hY post m a' n' (by omega) hD' H)
    · have ef : f = e := by omega
      subst ef
      have hZ := hZ2 rfl
      have e1 : nI f + 1 = nI (f + 1) := nI_1 f
      obtain ⟨r, hr, rX, rY⟩ := pd_fours (M := M) (O := O) (P := P) (f := f + 1) (cn := 4) (wo := 0) ht (by omega) (by omega) (fun i i1 i2 => absurd i2 (by omega)) 4 0 0 (by omega) (by decide)
      obtain ⟨y, hy, ey⟩ := pd_n24 (pd_cr24 (f := fun i => L.getD i 0) (n := L.length) (fun j _ => pd_By_get hB j))
      have goX : ∀ (post : Int32 → SX → Prop) (m : Nat) (a : Nat → Int32) (n : Int32), pd_D 120 a n (L ++ Z) → (pd_D 120 a (nI L.length) L → ((pd_cr (fun i => L.getD i 0) L.length = r → wpX_keepDraft post (nI len, nI L.length, (fun i => nI (t i)), a, M, O, P) 0) ∧ (¬ pd_cr (fun i => L.getD i 0) L.length = r → post (-4) (nI len, nI L.length, (fun i => nI (t i)), a, M, O, P)))) → wX_plain_56 post (nI f) (nI p) (m + 1) (nI f) (nI len) n (fun i => nI (t i)) a M O P := by
        intro post m a n hD H
        have dT := pd_D_take L.length hD (by rw [pd_app]; omega)
        rw [show (L ++ Z).take L.length = L by simp] at dT
        have en : n - nI p = nI L.length := by
          rw [hD.1, pd_app, hZ, pk_sub (by omega), Nat.add_sub_cancel]
        refine br_t (nI_le (Nat.le_refl _) (by omega)) (nm_r en ?_)
        rw [e1]
        refine ⟨5, rX _ 5 _ _ _ (by omega) ?_⟩
        refine pd_crcD L.length rfl (by omega) (fun i hi => dT.2 i hi (by omega)) ?_
        exact H dT
      have goY : ∀ (post : Int32 → SY → Prop) (m : Nat) (a : Nat → Int32) (n : Int32), pd_D 400 a n L → (¬ r = -1 → pd_cr (fun i => L.getD i 0) L.length = r → pd_YK post (nI (L.length - 0)) t len M O P L 0) → (¬ pd_cr (fun i => L.getD i 0) L.length = r → pd_YC post (-4) t len M O P) → wY_plain_81 post (nI f) (nI p) (m + 1) (nI f) (nI len) n (fun i => nI (t i)) a M O P := by
        intro post m a n hD hit miss
        refine br_t (nI_le (Nat.le_refl _) (by omega)) ?_
        rw [e1]
        refine ⟨5, rY _ 5 _ _ _ (by omega) ?_⟩
        rcases hr with rfl | ⟨q, hq, rfl⟩
        · refine br_f (by decide) (miss ?_ a n)
          rw [ey]
          intro x
          exact nI_pos (n := y) (by omega) (by rw [x]; decide)
        · refine br_t (nI_pos' (by omega)) ⟨L.length + 1, ?_⟩
          refine pd_179 hB (by omega) hD (fun x => hit ?_ x) miss L.length 0 (L.length + 1) (by omega) (by omega)
          intro x
          exact nI_pos (n := q) (by omega) (by rw [x]; decide)
      by_cases hc : pd_cr (fun i => L.getD i 0) L.length = r
      · refine Or.inr ⟨L, hB, ?_, ?_⟩
        · intro post m a n hm hD H
          obtain ⟨m, rfl⟩ : ∃ m', m = m' + 1 := ⟨m - 1, by omega⟩
          refine goX post m a n hD (fun dT => br_t hc ?_)
          exact pd_XKb (by omega) H dT
        · intro post m a n hm hD H
          obtain ⟨m, rfl⟩ : ∃ m', m = m' + 1 := ⟨m - 1, by omega⟩
          exact goY post m a n hD (fun _ _ => H) (fun x => absurd hc x)
      · refine Or.inl ⟨?_, ?_⟩
        · intro post m a n hm hD H
          obtain ⟨m, rfl⟩ : ∃ m', m = m' + 1 := ⟨m - 1, by omega⟩
          exact goX post m a n hD (fun dT => br_f hc (H _ _))
        · intro post m a n hm hD H
          obtain ⟨m, rfl⟩ : ∃ m', m = m' + 1 := ⟨m - 1, by omega⟩
          exact goY post m a n hD (fun _ x => absurd x hc) (fun _ => H)
theorem i_vc_plain {k : Nat} {u : SX} {v : SY} (I : i_Rel k u v) (hk : k + 5 ≤ 2560) : wpX_plain (fun r u' => wpY_plain (fun r' v' => r' = r ∧ i_Rel (k + 5) u' v') v) u := by
  have J := I
  obtain ⟨t, len, M, O, P, a, n, b, c, ht, hl, hK, rfl, rfl⟩ := I
  have n4 : ¬ (4 : Int32) = 0 := by decide
  rcases Nat.lt_or_ge len 5 with z | z
  · refine br_t (nI_lt (b := 5) z (by decide)) ?_
    exact nm_e (br_t (pk_sneg (b := 5) (by decide) z) ⟨rfl, J⟩)
  · obtain ⟨e, he⟩ : ∃ e, e + 5 = len := ⟨len - 5, by omega⟩
    have e5 : nI len - 5 = nI e := by
      have q := pk_sub (a := len) (b := 5) z
      rw [show len - 5 = e by omega] at q
      exact q
    have n5 : ¬ nI len < 5 := nI_nlt (b := 5) z (by omega)
    have er : nI e - nI e / 4 * 4 = nI (e % 4) := pk_rem (d := 4) (by omega) (by decide) (by decide)
    have pX : ∀ post : Int32 → SX → Prop, ((nI (e % 4) = 0 → ((nI (t e) = 61 → wpX_padsBefore (fun r_7 => ∃ n56 : Nat, wX_plain_56 post (nI e) r_7 n56 0 (nI len) 0 (fun i => nI (t i)) a M O P) (nI len, 0, (fun i => nI (t i)), a, M, O, P) (nI e)) ∧ (¬ nI (t e) = 61 → post (-4) (nI len, n, (fun i => nI (t i)), a, M, O, P)))) ∧ (¬ nI (e % 4) = 0 → post (-3) (nI len, n, (fun i => nI (t i)), a, M, O, P))) → wpX_plain post (nI len, n, (fun i => nI (t i)), a, M, O, P) := by
      intro post H
      refine br_f n5 ⟨n4, ?_⟩
      rw [e5, er]
      refine ⟨fun y => nm_e ⟨vp_in_nI (by omega) (by decide), ?_⟩, H.2⟩
      rw [nI_clamp (by omega)]
      exact H.1 y
    have pY : ∀ post : Int32 → SY → Prop, ((nI (e % 4) = 0 → ((nI (t e) = 61 → ((nI e ≤ 0 → (∃ n81 : Nat, wY_plain_81 post (nI e) 0 n81 0 (nI len) 0 (fun i => nI (t i)) b M O P)) ∧ (¬ nI e ≤ 0 → (vp_in (nI e - 1) 120 ∧ (((fun i => nI (t i)) (nI e - 1).toNatClampNeg = 61 → (vp_in (nI e - 2) 120 ∧ (((fun i => nI (t i)) (nI e - 2).toNatClampNeg = 61 → (∃ n81 : Nat, wY_plain_81 post (nI e) 2 n81 0 (nI len) 0 (fun i => nI (t i)) b M O P)) ∧ (¬ (fun i => nI (t i)) (nI e - 2).toNatClampNeg = 61 → (∃ n81 : Nat, wY_plain_81 post (nI e) 1 n81 0 (nI len) 0 (fun i => nI (t i)) b M O P))))) ∧ (¬ (fun i => nI (t i)) (nI e - 1).toNatClampNeg = 61 → (∃ n81 : Nat, wY_plain_81 post (nI e) 0 n81 0 (nI len) 0 (fun i => nI (t i)) b M O P))))))) ∧ (¬ nI (t e) = 61 → post (-4) (nI len, c, (fun i => nI (t i)), b, M, O, P)))) ∧ (¬ nI (e % 4) = 0 → post (-3) (nI len, c, (fun i => nI (t i)), b, M, O, P))) → wpY_plain post (nI len, c, (fun i => nI (t i)), b, M, O, P) := by
      intro post H
      refine nm_r e5 (br_f (nI_pos (by omega)) ⟨n4, ?_⟩)
      rw [er]
      refine ⟨fun y => ⟨vp_in_nI (by omega) (by decide), ?_⟩, H.2⟩
      have q := H.1 y
      rw [nI_clamp (n := e) (by omega)]
      exact q
    have hm4 : e % 4 < 4 := Nat.mod_lt _ (by decide)
    by_cases h4 : e % 4 = 0
    · have h4' : nI (e % 4) = 0 := by rw [h4]; rfl
      have hte := ht e
      by_cases h61 : t e = 61
      · have h61' : nI (t e) = 61 := by rw [h61]; rfl
        -- how many fill at the end
        have hx : ∃ p, p ≤ 2 ∧ (∀ i, 4 - p ≤ i → i < 4 → 4 ≤ e → t (e - 4 + i) = 61) ∧ (e = 0 → p = 0) ∧ (∀ post : Int32 → Prop, post (nI p) → wpX_padsBefore post (nI len, 0, (fun i => nI (t i)), a, M, O, P) (nI e)) ∧ (∀ post : Int32 → SY → Prop, (∃ n81 : Nat, wY_plain_81 post (nI e) (nI p) n81 0 (nI len) 0 (fun i => nI (t i)) b M O P) → wpY_plain post (nI len, c, (fun i => nI (t i)), b, M, O, P)) := by
          rcases Nat.eq_zero_or_pos e with y | y
          · refine ⟨0, by omega, fun i i1 i2 => absurd i2 (by omega), fun _ => rfl, ?_, ?_⟩
            · intro post H
              exact br_t (nI_lt (b := 4) (by omega) (by decide)) H
            · intro post H
              refine pY post (br_t h4' (br_t h61' (br_t ?_ H)))
              rw [y]
              decide
          · have e1 : nI e - 1 = nI (e - 1) := pk_sub (b := 1) (by omega)
            have e2 : nI e - 2 = nI (e - 2) := pk_sub (b := 2) (by omega)
            have v1 : vp_in (nI e - 1) 120 := by rw [e1]; exact vp_in_nI (by omega) (by decide)
            have v2 : vp_in (nI e - 2) 120 := by rw [e2]; exact vp_in_nI (by omega) (by decide)
            have np : ¬ nI e ≤ 0 := nI_nle y (by omega)
            have n4e : ¬ nI e < 4 := nI_nlt (b := 4) (by omega) (by omega)
            have w1 : ((fun i => nI (t i)) (nI e - 1).toNatClampNeg) = 61 ↔ t (e - 1) = 61 := by
              have q := ht (e - 1)
              rw [e1, nI_clamp (by omega)]
              exact nI_eq (b := 61) (by omega) (by decide)
            have w2 : ((fun i => nI (t i)) (nI e - 2).toNatClampNeg) = 61 ↔ t (e - 2) = 61 := by
              have q := ht (e - 2)
              rw [e2, nI_clamp (by omega)]
              exact nI_eq (b := 61) (by omega) (by decide)
            by_cases x1 : t (e - 1) = 61
            · by_cases x2 : t (e - 2) = 61
              · refine ⟨2, by omega, ?_, fun q => absurd q (by omega), ?_, ?_⟩
                · intro i i1 i2 i3
                  have : i = 2 ∨ i = 3 := by omega
                  rcases this with rfl | rfl
                  · rw [show e - 4 + 2 = e - 2 by omega]; exact x2
                  · rw [show e - 4 + 3 = e - 1 by omega]; exact x1
                · intro post H
                  exact br_f n4e ⟨v1, br_t (w1.mpr x1) ⟨v2, br_t (w2.mpr x2) H⟩⟩
                · intro post H
                  exact pY post (br_t h4' (br_t h61' (br_f np ⟨v1, br_t (w1.mpr x1) ⟨v2, br_t (w2.mpr x2) H⟩⟩)))
              · refine ⟨1, by omega, ?_, fun q => absurd q (by omega), ?_, ?_⟩
                · intro i i1 i2 i3
                  rw [show e - 4 + i = e - 1 by omega]
                  exact x1
                · intro post H
                  exact br_f n4e ⟨v1, br_t (w1.mpr x1) ⟨v2, br_f (fun q => x2 (w2.mp q)) H⟩⟩
                · intro post H
                  exact pY post (br_t h4' (br_t h61' (br_f np ⟨v1, br_t (w1.mpr x1) ⟨v2, br_f (fun q => x2 (w2.mp q)) H⟩⟩)))
            · refine ⟨0, by omega, fun i i1 i2 => absurd i2 (by omega), fun _ => rfl, ?_, ?_⟩
              · intro post H
                exact br_f n4e ⟨v1, br_f (fun q => x1 (w1.mp q)) H⟩
              · intro post H
                exact pY post (br_t h4' (br_t h61' (br_f np ⟨v1, br_f (fun q => x1 (w1.mp q)) H⟩)))
        obtain ⟨p, hp, hpad, hp0, gX, gY⟩ := hx
        rcases pd_plns (M := M) (O := O) (P := P) ht hl he h4 hp hpad (e + 1) 0 [] [] (by omega) (by omega) (by omega) pd_By_nil (by simp) (fun _ => rfl) (fun q => (hp0 q.symm).symm) with ⟨hX, hY⟩ | ⟨L', b1, hX, hY⟩
        · refine pd_finC (k + 5) (r := -4) ht hl hK (fun post => wpX_plain post (nI len, n, (fun i => nI (t i)), a, M, O, P)) (fun post => wpY_plain post (nI len, c, (fun i => nI (t i)), b, M, O, P)) ?_ ?_
          · intro post H
            refine pX post (br_t h4' (br_t h61' ?_))
            refine gX _ ?_
            exact ⟨e + 1, hX post (e + 1) a 0 (by omega) (pd_D_nil 120 a) H⟩
          · intro post H
            refine gY post ?_
            exact ⟨e + 1, hY post (e + 1) b 0 (by omega) (pd_D_nil 400 b) H⟩
        · refine pd_fin (k + 5) (r := nI (L'.length - 0)) (L := L') (f := 0) ht hl hK b1 (fun post => wpX_plain post (nI len, n, (fun i => nI (t i)), a, M, O, P)) (fun post => wpY_plain post (nI len, c, (fun i => nI (t i)), b, M, O, P)) ?_ ?_
          · intro post H
            refine pX post (br_t h4' (br_t h61' ?_))
            refine gX _ ?_
            exact ⟨e + 1, hX post (e + 1) a 0 (by omega) (pd_D_nil 120 a) H⟩
          · intro post H
            refine gY post ?_
            exact ⟨e + 1, hY post (e + 1) b 0 (by omega) (pd_D_nil 400 b) H⟩
      · have n61 : ¬ nI (t e) = 61 := fun q => h61 ((nI_eq (b := 61) (by omega) (by decide)).mp q)
        exact pX _ (br_t h4' (br_f n61 (pY _ (br_t h4' (br_f n61 ⟨rfl, J⟩)))))
    · have n0 : ¬ nI (e % 4) = 0 := fun q => h4 ((nI_eq (b := 0) (by omega) (by decide)).mp q)
      exact pX _ (br_f n0 (pY _ (br_f n0 ⟨rfl, J⟩)))
end
section
theorem pd_last : True := trivial
end
