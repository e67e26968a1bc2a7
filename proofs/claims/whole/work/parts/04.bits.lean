/-! bytes of words, rounds of the cipher, the groups of the feedback, the steps of the checksum -/
theorem pd_or (a b : Nat) : nI a ||| nI b = nI (a ||| b) := by
  apply Int32.toBitVec_inj.1
  show BitVec.ofNat 32 a ||| BitVec.ofNat 32 b = BitVec.ofNat 32 (a ||| b)
  apply BitVec.eq_of_getLsbD_eq
  intro i hi
  simp [hi]
theorem pd_msk {n : Nat} (h : n < 256) : nI n &&& 255 = nI n := by
  rw [pk_andN (by omega) 8 (by decide), Nat.mod_eq_of_lt (by omega)]
theorem pd_msk2 {n : Nat} (h : n < 2 ^ 31) : nI n &&& 255 = nI (n % 256) := pk_andN (by omega) 8 (by decide)
/-- byte k of the word w, from the left -/
def pd_by (w : Int32) (k : Nat) : Nat := w.toBitVec.toNat / 2 ^ (24 - 8 * k) % 256
theorem pd_by_lt (w : Int32) (k : Nat) : pd_by w k < 256 := Nat.mod_lt _ (by decide)
theorem pd_s24 : ∀ k, k < 4 → (((24 - 8 * nI k : Int32).toUInt32 &&& Int32.toUInt32 31).toBitVec % 32).toNat = 24 - 8 * k := by decide +kernel
theorem pd_byX (w : Int32) {k : Nat} (hk : k < 4) : (w.toUInt32 >>> ((24 - 8 * nI k : Int32).toUInt32 &&& Int32.toUInt32 31)).toInt32 &&& 255 = nI (pd_by w k) := by
  rw [pk_and _ 8 (by decide), pk_ushr _ _ (24 - 8 * k) (pd_s24 k hk)]
  rfl
theorem pd_sgn (w : Int32) {s : Nat} (hs : s ≤ 24) : (w >>> (nI s &&& 31)) &&& 255 = (w.toUInt32 >>> ((nI s).toUInt32 &&& Int32.toUInt32 31)).toInt32 &&& 255 := by
  apply b_ext
  intro i hi
  rw [b_and, b_and, b_255, b_sshr s (by omega) w hi, b_ushr s (by omega) w i]
  by_cases z : i < 8
  · rw [if_pos (by omega)]
  · simp [z]
theorem pd_byS (w : Int32) {k : Nat} (hk : k < 4) : (w >>> (nI (24 - 8 * k) &&& 31)) &&& 255 = nI (pd_by w k) := by
  rw [pd_sgn w (by omega), pk_and _ 8 (by decide), pk_ushr _ _ (24 - 8 * k) (s_u _ (by omega))]
  rfl
theorem pd_by3 (w : Int32) : w &&& 255 = nI (pd_by w 3) := by
  rw [pk_and _ 8 (by decide)]
  unfold pd_by
  rw [show 24 - 8 * 3 = 0 from rfl, Nat.pow_zero, Nat.div_one]
theorem pd_c24 : ∀ k, k < 4 → ((24 - 8 * nI k : Int32) &&& 31) = (nI (24 - 8 * k) &&& 31) := by decide +kernel
theorem pd_u24 : ∀ k, k < 4 → ((24 - 8 * nI k : Int32).toUInt32 &&& Int32.toUInt32 31) = ((nI (24 - 8 * k)).toUInt32 &&& Int32.toUInt32 31) := by decide +kernel
/-! halves of sixteen bits -/
def pd_H (x : Int32) : Prop := ∀ i, 16 ≤ i → bt x i = false
theorem pd_H_and (x : Int32) : pd_H (x &&& 65535) := by
  intro i hi
  rw [b_and, b_65535]
  simp [show ¬ i < 16 by omega]
theorem pd_H_shr (x : Int32) : pd_H (x.toUInt32 >>> ((16 : Int32).toUInt32 &&& Int32.toUInt32 31)).toInt32 := by
  intro i hi
  have e := b_ushr 16 (by omega) x i
  exact e.trans (b_big (by omega))
theorem pd_H_xor {x y : Int32} (hx : pd_H x) (hy : pd_H y) : pd_H (x ^^^ y) := by
  intro i hi
  rw [b_xor, hx i hi, hy i hi]
  rfl
theorem pd_H_3 {x : Int32} (hx : pd_H x) : pd_H (x >>> ((3 : Int32) &&& 31)) := by
  intro i hi
  rcases Nat.lt_or_ge i 32 with z | z
  · have e := b_sshr 3 (by omega) x z
    refine e.trans ?_
    by_cases y : 3 + i < 32
    · rw [if_pos y]; exact hx _ (by omega)
    · rw [if_neg y]; exact hx _ (by omega)
  · exact b_big z
theorem pd_H_id {x : Int32} (hx : pd_H x) : x &&& 65535 = x := by
  apply b_ext
  intro i hi
  rw [b_and, b_65535]
  by_cases z : i < 16
  · simp [z]
  · simp [z, hx i (by omega)]
/-- X's next right half, and Y's, which masks it once more -/
theorem pd_nx {l r : Int32} (s : Int32) (hl : pd_H l) (hr : pd_H r) : (l ^^^ ((s &&& 65535) ^^^ (r >>> ((3 : Int32) &&& 31)))) &&& 65535 = (l ^^^ (s &&& 65535)) ^^^ (r >>> ((3 : Int32) &&& 31)) := by
  rw [pd_H_id (pd_H_xor hl (pd_H_xor (pd_H_and s) (pd_H_3 hr)))]
  exact (Int32.xor_assoc _ _ _).symm
/-! four bytes make a word -/
theorem pd_grp (o c0 c1 c2 c3 : Int32) : ((((((o <<< ((8 : Int32) &&& 31)) ||| c0) <<< ((8 : Int32) &&& 31)) ||| c1) <<< ((8 : Int32) &&& 31) ||| c2) <<< ((8 : Int32) &&& 31)) ||| c3 = (((0 ||| c0 <<< (nI 24 &&& 31)) ||| c1 <<< (nI 16 &&& 31)) ||| c2 <<< (nI 8 &&& 31)) ||| c3 <<< (nI 0 &&& 31) := by
  apply b_ext
  intro i hi
  have h1 : i - 8 < 32 := by omega
  have h2 : i - 8 - 8 < 32 := by omega
  have h3 : i - 8 - 8 - 8 < 32 := by omega
  rw [b_or, b_or, b_or, b_or, b_or, b_0, b_shl 24 (by omega) c0 hi, b_shl 16 (by omega) c1 hi, b_shl 8 (by omega) c2 hi, b_shl 0 (by omega) c3 hi, b_shl8 _ hi, b_or, b_shl8 _ h1, b_or, b_shl8 _ h2, b_or, b_shl8 _ h3]
  rcases Nat.lt_or_ge i 8 with z | z
  · simp [show ¬ 8 ≤ i by omega, show ¬ 16 ≤ i by omega, show ¬ 24 ≤ i by omega]
  · rcases Nat.lt_or_ge i 16 with z2 | z2
    · simp [z, show ¬ 16 ≤ i by omega, show ¬ 24 ≤ i by omega, show ¬ 8 ≤ i - 8 by omega]
    · rcases Nat.lt_or_ge i 24 with z3 | z3
      · simp [z, z2, show ¬ 24 ≤ i by omega, show 8 ≤ i - 8 by omega, show i - 8 - 8 = i - 16 by omega, show ¬ 8 ≤ i - 16 by omega]
      · simp [z, z2, z3, show 8 ≤ i - 8 by omega, show i - 8 - 8 = i - 16 by omega, show 8 ≤ i - 16 by omega, show i - 16 - 8 = i - 24 by omega, show ¬ 8 ≤ i - 24 by omega]
/-! the checksum: X's step on the whole word, Y's on 24 bits with the byte's bit -/
def pd_xs (c : Int32) : Int32 := if (c <<< ((1 : Int32) &&& 31)) &&& 16777216 = 0 then c <<< ((1 : Int32) &&& 31) else (c <<< ((1 : Int32) &&& 31)) ^^^ 25578747
def pd_yt (c b : Int32) (k : Nat) : Int32 := ((c >>> ((23 : Int32) &&& 31)) ^^^ (b >>> (nI k &&& 31))) &&& 1
def pd_yc (c b : Int32) (k : Nat) : Int32 := if pd_yt c b k = 0 then (c <<< ((1 : Int32) &&& 31)) &&& 16777215 else ((c <<< ((1 : Int32) &&& 31)) &&& 16777215) ^^^ 8801531
theorem pd_t24 (i : Nat) : bt 16777216 i = decide (i = 24) := by
  rcases Nat.lt_or_ge i 32 with h | h
  · exact (by decide +kernel : ∀ i, i < 32 → bt 16777216 i = decide (i = 24)) i h
  · rw [b_big h, decide_eq_false (by omega)]
theorem pd_m24 (i : Nat) : bt 16777215 i = decide (i < 24) := by
  rcases Nat.lt_or_ge i 32 with h | h
  · exact (by decide +kernel : ∀ i, i < 32 → bt 16777215 i = decide (i < 24)) i h
  · rw [b_big h, decide_eq_false (by omega)]
theorem pd_t1 (i : Nat) : bt 1 i = decide (i = 0) := by
  rcases Nat.lt_or_ge i 32 with h | h
  · exact (by decide +kernel : ∀ i, i < 32 → bt 1 i = decide (i = 0)) i h
  · rw [b_big h, decide_eq_false (by omega)]
theorem pd_cst : ∀ i, i < 32 → bt 25578747 i = (bt 8801531 i ^^ decide (i = 24)) := by decide +kernel
theorem pd_cst2 : ∀ i, i < 32 → 24 ≤ i → bt 8801531 i = false := by decide +kernel
theorem pd_sh1 (x : Int32) {i : Nat} (hi : i < 32) : bt (x <<< ((1 : Int32) &&& 31)) i = (decide (1 ≤ i) && bt x (i - 1)) := b_shl 1 (by omega) x hi
theorem pd_xb (x : Int32) : (x <<< ((1 : Int32) &&& 31)) &&& 16777216 = 0 ↔ bt x 23 = false := by
  constructor
  · intro h
    have e := congrArg (fun z => bt z 24) h
    rw [b_and, pd_t24, b_0, pd_sh1 x (by omega)] at e
    simpa using e
  · intro h
    apply b_ext
    intro i hi
    rw [b_and, pd_t24, b_0, pd_sh1 x hi]
    by_cases z : i = 24
    · subst z; simp [h]
    · simp [z]
theorem pd_yb (c b : Int32) {k : Nat} (hk : k < 32) : pd_yt c b k = 0 ↔ (bt c 23 ^^ bt b k) = false := by
  have e0 : bt (pd_yt c b k) 0 = (bt c 23 ^^ bt b k) := by
    unfold pd_yt
    have e1 : bt (c >>> ((23 : Int32) &&& 31)) 0 = bt c 23 := (b_sshr 23 (by omega) c (i := 0) (by omega)).trans (if_pos (by omega))
    have e2 : bt (b >>> (nI k &&& 31)) 0 = bt b k := (b_sshr k hk b (i := 0) (by omega)).trans (if_pos (by omega))
    rw [b_and, b_xor, pd_t1, e1, e2]
    simp
  constructor
  · intro h
    rw [← e0, h]
    exact b_0 0
  · intro h
    apply b_ext
    intro i hi
    rw [b_0]
    rcases Nat.eq_zero_or_pos i with z | z
    · subst z; rw [e0, h]
    · unfold pd_yt
      rw [b_and, pd_t1]
      simp [show ¬ i = 0 by omega]
/-- after j bits: X holds Y's number and what is left of the byte -/
def pd_CI (j : Nat) (b x y : Int32) : Prop := ∀ i, i < 32 → bt x i = (bt y i ^^ (decide (16 + j ≤ i) && (decide (i < 24) && bt b (i - 16 - j)))) ∧ (24 ≤ i → bt y i = false)
theorem pd_CI_0 {b y : Int32} (hb : ∀ i, 8 ≤ i → bt b i = false) (hy : ∀ i, 24 ≤ i → bt y i = false) : pd_CI 0 b (y ^^^ (b <<< ((16 : Int32) &&& 31))) y := by
  intro i hi
  refine ⟨?_, fun h => hy i h⟩
  rw [b_xor, b_shl16 b hi, Nat.add_zero, Nat.sub_zero]
  rcases Nat.lt_or_ge i 24 with z | z
  · simp [z]
  · rw [hb (i - 16) (by omega)]
    simp
theorem pd_CI_s {j : Nat} {b x y : Int32} (hj : j < 8) (h : pd_CI j b x y) : pd_CI (j + 1) b (pd_xs x) (pd_yc y b (7 - j)) := by
  have hx : bt x 23 = (bt y 23 ^^ bt b (7 - j)) := by
    rw [(h 23 (by omega)).1, decide_eq_true (show 16 + j ≤ 23 by omega), decide_eq_true (show 23 < 24 by omega), show 23 - 16 - j = 7 - j by omega]
    rfl
  have sh : ∀ i, i < 32 → bt (x <<< ((1 : Int32) &&& 31)) i = (bt ((y <<< ((1 : Int32) &&& 31)) &&& 16777215) i ^^ ((decide (16 + (j + 1) ≤ i) && (decide (i < 24) && bt b (i - 16 - (j + 1)))) ^^ (decide (i = 24) && bt x 23))) := by
    intro i hi
    rw [b_and, pd_m24, pd_sh1 x hi, pd_sh1 y hi]
    rcases Nat.eq_zero_or_pos i with z | z
    · subst z; simp
    · have q := h (i - 1) (by omega)
      rcases Nat.lt_trichotomy i 24 with w | w | w
      · rw [q.1, decide_eq_true (show 1 ≤ i by omega), decide_eq_true w, decide_eq_true (show i - 1 < 24 by omega), decide_eq_false (show ¬ i = 24 by omega), show i - 1 - 16 - j = i - 16 - (j + 1) by omega]
        by_cases v : 16 + (j + 1) ≤ i
        · rw [decide_eq_true v, decide_eq_true (show 16 + j ≤ i - 1 by omega)]
          simp
        · rw [decide_eq_false v, decide_eq_false (show ¬ 16 + j ≤ i - 1 by omega)]
          simp
      · subst w
        simp
      · rw [q.1, q.2 (by omega), decide_eq_false (show ¬ i - 1 < 24 by omega), decide_eq_false (show ¬ i < 24 by omega), decide_eq_false (show ¬ i = 24 by omega)]
        simp
  have hi24 : ∀ i, i < 32 → 24 ≤ i → bt ((y <<< ((1 : Int32) &&& 31)) &&& 16777215) i = false := by
    intro i hi z
    rw [b_and, pd_m24, decide_eq_false (show ¬ i < 24 by omega), Bool.and_false]
  unfold pd_xs pd_yc
  by_cases z : bt x 23 = false
  · rw [if_pos ((pd_xb x).mpr z), if_pos ((pd_yb y b (by omega)).mpr (by rw [← hx]; exact z))]
    intro i hi
    refine ⟨?_, hi24 i hi⟩
    rw [sh i hi, z]
    simp
  · have z' : bt x 23 = true := by simpa using z
    rw [if_neg (fun q => z ((pd_xb x).mp q)), if_neg (fun q => z (hx.trans ((pd_yb y b (by omega)).mp q)))]
    intro i hi
    refine ⟨?_, fun q => by rw [b_xor, hi24 i hi q, pd_cst2 i hi q]; rfl⟩
    rw [b_xor, b_xor, sh i hi, z', pd_cst i hi]
    cases bt ((y <<< ((1 : Int32) &&& 31)) &&& 16777215) i <;> cases bt 8801531 i <;> cases decide (i = 24) <;> cases (decide (16 + (j + 1) ≤ i) && (decide (i < 24) && bt b (i - 16 - (j + 1)))) <;> rfl
theorem pd_CI_e {b x y : Int32} (h : pd_CI 8 b x y) : x = y ∧ ∀ i, 24 ≤ i → bt y i = false := by
  constructor
  · apply b_ext
    intro i hi
    rw [(h i hi).1]
    by_cases z : i < 24
    · simp [show ¬ 16 + 8 ≤ i by omega]
    · simp [z]
  · intro i hi
    rcases Nat.lt_or_ge i 32 with z | z
    · exact (h i z).2 hi
    · exact b_big z
theorem pd_b8 {n : Nat} (h : n < 256) : ∀ i, 8 ≤ i → bt (nI n) i = false := by
  intro i hi
  have e : nI n = nI n &&& 255 := (pd_msk h).symm
  rw [e, b_and, b_255, decide_eq_false (show ¬ i < 8 by omega), Bool.and_false]
theorem pd_n24 {x : Int32} (h : ∀ i, 24 ≤ i → bt x i = false) : ∃ n, n < 16777216 ∧ x = nI n := by
  have e : x = x &&& 16777215 := by
    apply b_ext
    intro i hi
    rw [b_and, pd_m24]
    by_cases z : i < 24
    · simp [z]
    · simp [z, h i (by omega)]
  obtain ⟨n, hn, en⟩ := pk_andE x (m := 16777215) 24 (by decide)
  exact ⟨n, hn, e.trans en⟩
/-- eight steps of X, and of Y from bit k on -/
def pd_x8 : Nat → Int32 → Int32
  | 0, c => c
  | n + 1, c => pd_x8 n (pd_xs c)
def pd_y8 (b : Int32) : Nat → Int32 → Int32
  | 0, c => c
  | n + 1, c => pd_y8 b n (pd_yc c b n)
theorem pd_x8y8 {b : Int32} : ∀ (d j : Nat) (x y : Int32), j + d = 8 → pd_CI j b x y → pd_CI 8 b (pd_x8 d x) (pd_y8 b d y) := by
  intro d
  induction d with
  | zero =>
    intro j x y h c
    obtain rfl : j = 8 := by omega
    exact c
  | succ d ih =>
    intro j x y h c
    have q := pd_CI_s (by omega) c
    rw [show 7 - j = d by omega] at q
    exact ih (j + 1) _ _ (by omega) q
/-- one byte more in the checksum -/
def pd_cb (c : Int32) (b : Nat) : Int32 := pd_x8 8 (c ^^^ (nI b <<< ((16 : Int32) &&& 31)))
theorem pd_cbY {c : Int32} {b : Nat} (hb : b < 256) (hc : ∀ i, 24 ≤ i → bt c i = false) : pd_y8 (nI b) 8 c = pd_cb c b ∧ ∀ i, 24 ≤ i → bt (pd_cb c b) i = false := by
  have q := pd_CI_e (pd_x8y8 8 0 _ _ rfl (pd_CI_0 (pd_b8 hb) hc))
  exact ⟨q.1.symm, by intro i hi; unfold pd_cb; rw [q.1]; exact q.2 i hi⟩
def pd_cr (f : Nat → Nat) : Nat → Int32
  | 0 => 11994318
  | n + 1 => pd_cb (pd_cr f n) (f n)
theorem pd_cr0 : ∀ i, 24 ≤ i → bt 11994318 i = false := by
  intro i hi
  rcases Nat.lt_or_ge i 32 with z | z
  · exact (by decide +kernel : ∀ i, i < 32 → 24 ≤ i → bt 11994318 i = false) i z hi
  · exact b_big z
theorem pd_cr24 {f : Nat → Nat} {n : Nat} (hf : ∀ i, i < n → f i < 256) : ∀ i, 24 ≤ i → bt (pd_cr f n) i = false := by
  induction n with
  | zero => exact pd_cr0
  | succ n ih => exact (pd_cbY (hf n (by omega)) (ih (fun i hi => hf i (by omega)))).2
/-! six bits more -/
theorem pd_6 {x v : Nat} (hx : x < 2 ^ 24) (hv : v < 64) : (nI x <<< ((6 : Int32) &&& 31)) ||| nI v = nI (x * 64 + v) := by
  rw [pk_shlN _ 6 (by decide) (by omega), pd_or]
  have := Nat.two_pow_add_eq_or_of_lt (i := 6) (b := v) (by omega) x
  rw [show x * 2 ^ 6 = 2 ^ 6 * x from Nat.mul_comm _ _, ← this]
/-! an int taken as unsigned -/
theorem pd_ti {n : Nat} (hn : n < 2 ^ 32) : (nI n).toInt = if 2 * n < 2 ^ 32 then (n : Int) else (n : Int) - 2 ^ 32 := by
  show (nI n).toBitVec.toInt = _
  rw [BitVec.toInt_eq_toNat_cond, pk_tn hn]
  by_cases z : 2 * n < 2 ^ 32
  · rw [if_pos z, if_pos z]
  · rw [if_neg z, if_neg z]
    omega
theorem pd_t64 (h : Int32) : h.toInt64 = Int64.ofInt h.toInt := by
  rw [← Int32.toInt_toInt64, Int64.ofInt_toInt]
theorem pd_neg64 {n : Nat} (hn : n < 2 ^ 32) (z : ¬ n < 2 ^ 31) : (nI n).toInt64 = lN (n + (2 ^ 64 - 2 ^ 32)) := by
  rw [pd_t64, pd_ti hn, if_neg (by omega)]
  apply wb_inj
  show BitVec.ofInt 64 _ = BitVec.ofNat 64 _
  apply BitVec.eq_of_toNat_eq
  rw [BitVec.toNat_ofInt, BitVec.toNat_ofNat]
  omega
theorem pd_lt64 (h : Int32) : h.toInt64 < 0 ↔ h.toInt < 0 := by
  rw [Int64.lt_iff_toInt_lt, Int32.toInt_toInt64]
  exact Iff.rfl
theorem pd_uns (h : Int32) : ∃ m, m < 2 ^ 32 ∧ h.toInt64 &&& 4294967295 = lN m ∧ (h.toInt64 < 0 → h.toInt64 + 4294967296 = lN m) ∧ (¬ h.toInt64 < 0 → h.toInt64 = lN m) := by
  obtain ⟨n, hn, rfl⟩ := wb_of32 h
  have hM : (4294967295 : Int64) = lN (2 ^ 32 - 1) := by decide +kernel
  have hA : (4294967296 : Int64) = lN (2 ^ 32) := by decide +kernel
  have hi := pd_ti hn
  refine ⟨n, hn, ?_, ?_, ?_⟩
  · by_cases z : n < 2 ^ 31
    · rw [nI_l z, hM, wb_mask (by omega) (by omega), Nat.mod_eq_of_lt hn]
    · rw [pd_neg64 hn z, hM, wb_mask (by omega) (by omega), show (n + (2 ^ 64 - 2 ^ 32)) % 2 ^ 32 = n by omega]
  · intro y
    rw [pd_lt64, hi] at y
    have z : ¬ n < 2 ^ 31 := by
      intro z
      rw [if_pos (by omega)] at y
      omega
    rw [pd_neg64 hn z, hA, lN_add, wb_mod, show (n + (2 ^ 64 - 2 ^ 32) + 2 ^ 32) % 2 ^ 64 = n by omega]
  · intro y
    rw [pd_lt64, hi] at y
    have z : n < 2 ^ 31 := by
      apply Nat.lt_of_not_le
      intro z
      rw [if_neg (by omega)] at y
      omega
    exact nI_l z
