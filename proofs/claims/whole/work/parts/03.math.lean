/-! primes by trial, the extended division of Euclid, the search for the other power -/
theorem pd_pr {p : Nat} (h1 : 257 ≤ p) (h2 : p ≤ 46337) : (∃ d, 2 ≤ d ∧ d ≤ 215 ∧ p % d = 0) ↔ (∃ d, 2 ≤ d ∧ d * d ≤ p ∧ p % d = 0) := by
  constructor
  · intro ⟨d, a, b, c⟩
    by_cases z : d * d ≤ p
    · exact ⟨d, a, z, c⟩
    · have e : d * (p / d) = p := by have := Nat.div_add_mod p d; omega
      generalize p / d = q at e
      have q1 : q < d := by
        apply Nat.lt_of_not_le
        intro y
        have := Nat.mul_le_mul_left d y
        omega
      have q2 : 2 ≤ q := by
        apply Nat.le_of_not_lt
        intro y
        have y2 : q = 0 ∨ q = 1 := by omega
        rcases y2 with y2 | y2
        · subst y2; omega
        · subst y2; omega
      refine ⟨q, q2, ?_, ?_⟩
      · have := Nat.mul_le_mul_right q (Nat.le_of_lt q1)
        omega
      · rw [← e]
        exact Nat.mul_mod_left d q
  · intro ⟨d, a, b, c⟩
    refine ⟨d, a, ?_, c⟩
    apply Nat.le_of_not_lt
    intro y
    have := Nat.mul_le_mul (show 216 ≤ d from y) (show 216 ≤ d from y)
    omega
/-- what the division of Euclid keeps: two rests, their factors, and how large these are -/
def pd_EI (e m r0 r1 : Nat) (f0 f1 : Int) : Prop := r1 < r0 ∧ (∃ s : Int, f0 * e = r0 + s * m) ∧ (∃ s : Int, f1 * e = r1 + s * m) ∧ Nat.gcd r0 r1 = Nat.gcd e m ∧ ∃ a0 a1 : Nat, a0 * r1 + a1 * r0 = m ∧ a0 < m ∧ ((f0 = -(a0 : Int) ∧ f1 = a1) ∨ (f0 = a0 ∧ f1 = -(a1 : Int)))
theorem pd_EI_0 {e m : Nat} (h : e < m) : pd_EI e m m e 0 1 := by
  refine ⟨h, ⟨-1, by omega⟩, ⟨0, by omega⟩, Nat.gcd_comm _ _, 0, 1, by omega, by omega, Or.inl ⟨by omega, by omega⟩⟩
theorem pd_EI_s {e m r0 r1 : Nat} {f0 f1 : Int} (h : pd_EI e m r0 r1 f0 f1) (h1 : 0 < r1) : pd_EI e m r1 (r0 % r1) f1 (f0 - (r0 / r1 : Nat) * f1) := by
  obtain ⟨hr, ⟨s0, e0⟩, ⟨s1, e1⟩, hg, a0, a1, ha, hb, hs⟩ := h
  have hd : r1 * (r0 / r1) + r0 % r1 = r0 := Nat.div_add_mod r0 r1
  have hm : r0 % r1 < r1 := Nat.mod_lt _ h1
  have hg2 : Nat.gcd r1 (r0 % r1) = Nat.gcd e m := by
    rw [← hg, Nat.gcd_comm r0 r1, Nat.gcd_rec r1 r0, Nat.gcd_comm]
  generalize r0 / r1 = q at hd
  generalize r0 % r1 = r2 at hd hm hg2
  have hdI : (r1 : Int) * q + r2 = r0 := by
    rw [← hd]
    simp
  refine ⟨hm, ⟨s1, e1⟩, ⟨s0 - q * s1, ?_⟩, hg2, a1, a0 + q * a1, ?_, ?_, ?_⟩
  · rw [Int.sub_mul, Int.mul_assoc, e0, e1, ← hdI]
    grind
  · rw [← ha, ← hd]
    grind
  · have r2' : 2 ≤ r0 := by omega
    have := Nat.mul_le_mul_left a1 r2'
    have : 0 < m := by omega
    omega
  · rcases hs with ⟨x, y⟩ | ⟨x, y⟩
    · right
      refine ⟨y, ?_⟩
      rw [x, y]
      simp
      grind
    · left
      refine ⟨y, ?_⟩
      rw [x, y]
      simp
      grind
theorem pd_half {r0 r1 d : Nat} (h : r1 < r0) (h1 : 0 < r1) (hd : r0 * r1 < 2 ^ (d + 1)) : r1 * (r0 % r1) < 2 ^ d := by
  have a : r0 % r1 < r1 := Nat.mod_lt _ h1
  have b : r1 * (r0 / r1) + r0 % r1 = r0 := Nat.div_add_mod r0 r1
  have c : 1 ≤ r0 / r1 := Nat.div_pos (Nat.le_of_lt h) h1
  have c2 : r1 * 1 ≤ r1 * (r0 / r1) := Nat.mul_le_mul_left r1 c
  have f : 2 * (r0 % r1) ≤ r0 := by omega
  have g : r1 * (2 * (r0 % r1)) ≤ r1 * r0 := Nat.mul_le_mul_left r1 f
  rw [Nat.pow_succ] at hd
  have i : r1 * r0 = r0 * r1 := Nat.mul_comm _ _
  have j : r1 * (2 * (r0 % r1)) = 2 * (r1 * (r0 % r1)) := by
    rw [← Nat.mul_assoc, Nat.mul_comm r1 2, Nat.mul_assoc]
  omega
/-- d is what both sides keep as the second power: 0 if there is none -/
def pd_Inv (e m d : Nat) : Prop := (Nat.gcd e m = 1 ∧ d < m ∧ ∃ j : Nat, d * e = 1 + j * m) ∨ (Nat.gcd e m ≠ 1 ∧ d = 0)
theorem pd_EI_e {e m r0 : Nat} {f0 f1 : Int} (hm : 1 < m) (h : pd_EI e m r0 0 f0 f1) : r0 = Nat.gcd e m ∧ -(m : Int) < f0 ∧ f0 < m ∧ (r0 = 1 → ∃ d : Nat, (d : Int) = (if f0 < 0 then f0 + m else f0) ∧ pd_Inv e m d) := by
  obtain ⟨hr, ⟨s0, e0⟩, _, hg, a0, a1, ha, hb, hs⟩ := h
  rw [Nat.gcd_zero_right] at hg
  refine ⟨hg, by omega, by omega, fun h1 => ?_⟩
  subst h1
  have hf : -(m : Int) < f0 ∧ f0 < m := by omega
  have key : ∀ (f s : Int), 0 ≤ f → f < m → f * e = 1 + s * m → ∃ d : Nat, (d : Int) = f ∧ pd_Inv e m d := by
    intro f s hf0 hfm he
    obtain ⟨d, rfl⟩ := Int.eq_ofNat_of_zero_le hf0
    have hs0 : 0 ≤ s := by
      apply Int.le_of_not_gt
      intro z
      have z1 : s ≤ -1 := by omega
      have z2 := Int.mul_le_mul_of_nonneg_right z1 (show (0 : Int) ≤ m by omega)
      have z3 : (0 : Int) ≤ (d : Int) * e := by
        rw [← Int.natCast_mul]
        exact Int.natCast_nonneg _
      omega
    obtain ⟨j, rfl⟩ := Int.eq_ofNat_of_zero_le hs0
    refine ⟨d, rfl, Or.inl ⟨hg.symm, by omega, j, ?_⟩⟩
    apply Int.ofNat.inj
    show ((d * e : Nat) : Int) = ((1 + j * m : Nat) : Int)
    simpa using he
  by_cases z : f0 < 0
  · rw [if_pos z]
    refine key (f0 + m) (s0 + e) (by omega) (by omega) ?_
    rw [Int.add_mul, e0]
    grind
  · rw [if_neg z]
    exact key f0 s0 (by omega) (by omega) (by simpa using e0)
theorem pd_ys {e m d j : Nat} (he : 2 ≤ e) (hd : d < m) (h : d * e = 1 + j * m) : 1 ≤ j ∧ j < e ∧ (j * m + 1) % e = 0 ∧ (j * m + 1) / e = d ∧ 0 < d ∧ ∀ i, i < e → (i * m + 1) % e = 0 → i = j := by
  have h' : j * m + 1 = d * e := by omega
  have hj : 1 ≤ j := by
    apply Nat.pos_of_ne_zero
    intro z
    subst z
    rw [Nat.zero_mul] at h
    rcases Nat.eq_zero_or_pos d with y | y
    · subst y; omega
    · have := Nat.mul_le_mul y he
      omega
  have hje : j < e := by
    apply Nat.lt_of_not_le
    intro z
    have a := Nat.mul_le_mul_right m z
    have b : d * e ≤ m * e := Nat.mul_le_mul_right e (Nat.le_of_lt hd)
    have c : m * e = e * m := Nat.mul_comm _ _
    omega
  have hd0 : 0 < d := by
    apply Nat.pos_of_ne_zero
    intro z
    subst z
    omega
  refine ⟨hj, hje, by rw [h']; exact Nat.mul_mod_left d e, by rw [h']; exact Nat.mul_div_cancel d (by omega), hd0, ?_⟩
  intro i hi hm
  obtain ⟨c, hc⟩ := Nat.dvd_of_mod_eq_zero hm
  have hI : (d : Int) * e = 1 + j * m := by
    have := congrArg (fun x : Nat => (x : Int)) h
    simpa using this
  have hC : (i : Int) * m + 1 = e * c := by
    have := congrArg (fun x : Nat => (x : Int)) hc
    simpa using this
  have hz : (j : Int) - i = e * (((j : Int) - i) * d - j * (d - c)) := by grind
  generalize ((j : Int) - i) * d - j * (d - c) = z at hz
  have he0 : (0 : Int) ≤ e := by omega
  rcases Int.lt_trichotomy z 0 with y | y | y
  · have := Int.mul_le_mul_of_nonneg_left (show z ≤ -1 by omega) he0
    omega
  · subst y
    omega
  · have := Int.mul_le_mul_of_nonneg_left (show 1 ≤ z by omega) he0
    omega
theorem pd_yn {e m : Nat} (h : Nat.gcd e m ≠ 1) (j : Nat) : (j * m + 1) % e ≠ 0 := by
  intro z
  apply h
  have a := Nat.dvd_of_mod_eq_zero z
  have b : Nat.gcd e m ∣ j * m + 1 := Nat.dvd_trans (Nat.gcd_dvd_left e m) a
  have c : Nat.gcd e m ∣ j * m := Nat.dvd_trans (Nat.gcd_dvd_right e m) (Nat.dvd_mul_left m j)
  exact Nat.dvd_one.mp ((Nat.dvd_add_right c).mp b)
