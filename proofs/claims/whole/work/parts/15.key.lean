/-! key -/
def pd_Pr (x : Int32) : Prop := ∃ p, x = nI p ∧ 257 ≤ p ∧ p ≤ 46337 ∧ ¬ ∃ d, 2 ≤ d ∧ d ≤ 215 ∧ p % d = 0
section
variable {len n : Int32} {w a : Nat → Int32} {t : Nat → Nat} {M O P : Nat → Int64}
theorem pd_xpmL {post : Int32 → Prop} {p : Nat} (hp1 : 257 ≤ p) (hp2 : p ≤ 46337) (h1 : (¬ ∃ d, 2 ≤ d ∧ d ≤ 215 ∧ p % d = 0) → post 1) (h0 : (∃ d, 2 ≤ d ∧ d ≤ 215 ∧ p % d = 0) → post 0) : ∀ e d m : Nat, d + e = 216 → e < m → 2 ≤ d → (∀ c, 2 ≤ c → c < d → ¬ p % c = 0) → wX_isKeyPrime_17 post (nI p) len n w a M O P m (nI d) := by
  intro e
  induction e with
  | zero =>
    intro d m hd hm h2 hc
    obtain ⟨m, rfl⟩ : ∃ m', m = m' + 1 := ⟨m - 1, by omega⟩
    have ed : d = 216 := by omega
    subst ed
    exact br_t (by decide) (h1 (fun ⟨c, c1, c2, c3⟩ => hc c c1 (by omega) c3))
  | succ e ih =>
    intro d m hd hm h2 hc
    obtain ⟨m, rfl⟩ : ∃ m', m = m' + 1 := ⟨m - 1, by omega⟩
    have er : nI p - nI p / nI d * nI d = nI (p % d) := pk_rem (by omega) (by omega) (by omega)
    have hb : p % d < d := Nat.mod_lt _ (by omega)
    refine br_f (nI_nlt (a := 215) (by omega) (by decide)) ⟨nI_ne0 (by omega) (by omega), pk_eq (p % d) 0 (fun z => h0 ⟨d, h2, by omega, z⟩) (fun z => nm_r (nI_1 d) (ih (d + 1) m (by omega) (by omega) (by omega) ?_)) er⟩
    intro c c1 c2
    rcases Nat.lt_or_ge c d with y | y
    · exact hc c c1 y
    · rw [show c = d by omega]
      exact z
theorem pd_ypmL {post : Int32 → Prop} {p : Nat} (hp1 : 257 ≤ p) (hp2 : p ≤ 46337) (h1 : (¬ ∃ d, 2 ≤ d ∧ d ≤ 215 ∧ p % d = 0) → post 1) (h0 : (∃ d, 2 ≤ d ∧ d ≤ 215 ∧ p % d = 0) → post 0) : ∀ e d m : Nat, d + e = 217 → e < m → 2 ≤ d → (∀ c, 2 ≤ c → c < d → ¬ p % c = 0) → wY_prime_17 post (nI p) m (nI d) := by
  have stop : ∀ d, p < d * d → (∀ c, 2 ≤ c → c < d → ¬ p % c = 0) → post 1 := by
    intro d hd hc
    refine h1 (fun h => ?_)
    obtain ⟨c, c1, c2, c3⟩ := (pd_pr hp1 hp2).mp h
    refine hc c c1 ?_ c3
    apply Nat.lt_of_not_le
    intro y
    have := Nat.mul_le_mul y y
    omega
  intro e
  induction e with
  | zero =>
    intro d m hd hm h2 hc
    obtain ⟨m, rfl⟩ : ∃ m', m = m' + 1 := ⟨m - 1, by omega⟩
    have ed : d = 217 := by omega
    subst ed
    exact br_t (by rw [pk_mul]; exact nI_lt (by omega) (by decide)) (stop 217 (by omega) hc)
  | succ e ih =>
    intro d m hd hm h2 hc
    obtain ⟨m, rfl⟩ : ∃ m', m = m' + 1 := ⟨m - 1, by omega⟩
    have er : nI p - nI p / nI d * nI d = nI (p % d) := pk_rem (by omega) (by omega) (by omega)
    have hb : p % d < d := Nat.mod_lt _ (by omega)
    have hdd : d * d ≤ 217 * 217 := Nat.mul_le_mul (by omega) (by omega)
    refine pk_lt p (d * d) (fun y => stop d y hc) (fun y => ⟨nI_ne0 (by omega) (by omega), pk_eq (p % d) 0 (fun z => h0 ((pd_pr hp1 hp2).mpr ⟨d, h2, y, z⟩)) (fun z => nm_r (nI_1 d) (ih (d + 1) m (by omega) (by omega) (by omega) ?_)) er⟩) rfl (pk_mul d d)
    intro c c1 c2
    rcases Nat.lt_or_ge c d with x | x
    · exact hc c c1 x
    · rw [show c = d by omega]
      exact z
theorem pd_prc (x : Int32) : (x < 257 ∧ ¬ pd_Pr x) ∨ (¬ x < 257 ∧ ¬ x ≤ 46337 ∧ ¬ pd_Pr x) ∨ ∃ p, x = nI p ∧ 257 ≤ p ∧ p ≤ 46337 := by
  rcases pd_cs 257 x with h | ⟨j, hj, hj2, rfl⟩
  · rcases h with z | ⟨j, h1, h2, rfl⟩
    · refine Or.inl ⟨Int32.lt_trans z (by decide), ?_⟩
      rintro ⟨p, rfl, p1, p2, _⟩
      exact nI_pos (by omega) z
    · rcases Nat.lt_or_ge 46337 j with y | y
      · refine Or.inr (Or.inl ⟨nI_nlt (b := 257) h1 h2, nI_ge (a := 46337) y h2, ?_⟩)
        rintro ⟨p, e, p1, p2, _⟩
        have := (nI_eq h2 (by omega)).mp e
        omega
      · exact Or.inr (Or.inr ⟨j, rfl, h1, y⟩)
  · refine Or.inl ⟨nI_lt (b := 257) hj (by decide), ?_⟩
    rintro ⟨p, e, p1, p2, _⟩
    have := (nI_eq hj2 (by omega)).mp e
    omega
theorem pd_Prn {p : Nat} (h1 : 257 ≤ p) (h2 : p ≤ 46337) : pd_Pr (nI p) ↔ ¬ ∃ d, 2 ≤ d ∧ d ≤ 215 ∧ p % d = 0 := by
  constructor
  · rintro ⟨q, e, q1, q2, q3⟩
    have := (nI_eq (by omega) (by omega)).mp e
    subst this
    exact q3
  · intro h
    exact ⟨p, rfl, h1, h2, h⟩
theorem pd_xkp {post : Int32 → Prop} {x : Int32} (h1 : pd_Pr x → post 1) (h0 : ¬ pd_Pr x → post 0) : wpX_isKeyPrime post (len, n, w, a, M, O, P) x := by
  rcases pd_prc x with ⟨z, h⟩ | ⟨z, y, h⟩ | ⟨p, rfl, p1, p2⟩
  · exact br_t z (h0 h)
  · exact br_f z (br_f y (h0 h))
  · refine br_f (nI_nlt (b := 257) p1 (by omega)) (br_t (nI_le (b := 46337) p2 (by decide)) ⟨215, ?_⟩)
    exact pd_xpmL p1 p2 (fun h => h1 ((pd_Prn p1 p2).mpr h)) (fun h => h0 (fun q => (pd_Prn p1 p2).mp q h)) 214 2 215 (by omega) (by omega) (by omega) (fun c c1 c2 => absurd c2 (by omega))
theorem pd_ykp {post : Int32 → Prop} {x : Int32} (h1 : pd_Pr x → post 1) (h0 : ¬ pd_Pr x → post 0) : wpY_prime post x := by
  rcases pd_prc x with ⟨z, h⟩ | ⟨z, y, h⟩ | ⟨p, rfl, p1, p2⟩
  · exact br_t z (h0 h)
  · exact br_f z (br_f y (h0 h))
  · refine br_f (nI_nlt (b := 257) p1 (by omega)) (br_t (nI_le (b := 46337) p2 (by decide)) ⟨216, ?_⟩)
    exact pd_ypmL p1 p2 (fun h => h1 ((pd_Prn p1 p2).mpr h)) (fun h => h0 (fun q => (pd_Prn p1 p2).mp q h)) 215 2 216 (by omega) (by omega) (by omega) (fun c c1 c2 => absurd c2 (by omega))
theorem pd_lI (n : Nat) : lN n = Int64.ofInt n := Int64.ofInt_eq_ofNat.symm
theorem pd_x78 {post : Int64 → Prop} {e m r0 : Nat} {f0 f1 : Int} (hm : 1 < m) (hm2 : m < 2 ^ 31) (h : pd_EI e m r0 0 f0 f1) (hr : r0 ≤ m) (H : ∀ d, pd_Inv e m d → post (lN d)) : wX_inverse_78 post (lN m) (lN r0) (Int64.ofInt f0) len n w a M O P := by
  obtain ⟨g1, g2, g3, g4⟩ := pd_EI_e hm h
  by_cases z : r0 = 1
  · obtain ⟨d, ed, hd⟩ := g4 z
    have q := H d hd
    have et : (Int64.ofInt f0).toInt = f0 := Int64.toInt_ofInt_of_le (by omega) (by omega)
    refine br_t (by rw [z]; rfl) ?_
    by_cases y : f0 < 0
    · rw [if_pos y] at ed
      refine br_f ?_ ?_
      · rw [Int64.le_iff_toInt_le, et]
        intro x
        have : (0 : Int64).toInt = 0 := rfl
        omega
      · rw [pd_lI m, ← Int64.ofInt_add, ← ed, ← pd_lI]
        exact q
    · rw [if_neg y] at ed
      refine br_t ?_ ?_
      · rw [Int64.le_iff_toInt_le, et]
        have : (0 : Int64).toInt = 0 := rfl
        omega
      · rw [← ed, ← pd_lI]
        exact q
  · refine br_f ?_ (H 0 (Or.inr ⟨by omega, rfl⟩))
    intro y
    exact z ((lN_eq (b := 1) (by omega) (by decide)).mp y)
theorem pd_xinvL {post : Int64 → Prop} {e m : Nat} (hm : 1 < m) (hm2 : m < 2 ^ 31) (H : ∀ d, pd_Inv e m d → post (lN d)) : ∀ (d : Nat) (r0 r1 : Nat) (f0 f1 : Int) (st mm : Nat), st + d = 64 → d < mm → pd_EI e m r0 r1 f0 f1 → r0 ≤ m → r0 * r1 < 2 ^ d → wX_inverse_15 post (lN m) len n w a M O P mm (lN r0) (lN r1) (Int64.ofInt f0) (Int64.ofInt f1) (nI st) := by
  intro d
  induction d with
  | zero =>
    intro r0 r1 f0 f1 st mm hst hmm hE hr hp
    obtain ⟨mm, rfl⟩ : ∃ m', mm = m' + 1 := ⟨mm - 1, by omega⟩
    have est : st = 64 := by omega
    subst est
    have hlt := hE.1
    have h1 : r1 = 0 := by
      apply Nat.eq_zero_of_not_pos
      intro y
      have := Nat.mul_le_mul (show 1 ≤ r0 by omega) y
      omega
    subst h1
    exact br_t (by decide) (pd_x78 hm hm2 hE hr H)
  | succ d ih =>
    intro r0 r1 f0 f1 st mm hst hmm hE hr hp
    obtain ⟨mm, rfl⟩ : ∃ m', mm = m' + 1 := ⟨mm - 1, by omega⟩
    have hlt := hE.1
    refine br_f (nI_ge (b := 64) (by omega) (by decide)) ?_
    rcases Nat.eq_zero_or_pos r1 with z | z
    · subst z
      exact br_t rfl (pd_x78 hm hm2 hE hr H)
    · have ne : ¬ lN r1 = 0 := fun y => absurd ((lN_eq (b := 0) (by omega) (by decide)).mp y) (by omega)
      have ed : lN r0 / lN r1 = lN (r0 / r1) := pk_lDiv (by omega) z (by omega)
      have em : lN r0 - lN (r0 / r1) * lN r1 = lN (r0 % r1) := by
        rw [lN_mul, lN_sub (Nat.div_mul_le_self r0 r1)]
        exact congrArg lN (by have := Nat.div_add_mod' r0 r1; omega)
      have ef : Int64.ofInt f0 - lN (r0 / r1) * Int64.ofInt f1 = Int64.ofInt (f0 - (r0 / r1 : Nat) * f1) := by
        rw [pd_lI, ← Int64.ofInt_mul, ← Int64.ofInt_sub]
      have hE' := pd_EI_s hE z
      have hh := pd_half hlt z hp
      exact br_f ne ⟨ne, nm_r ed (nm_r em (nm_r ef (nm_r (nI_1 st) (ih r1 (r0 % r1) f1 _ (st + 1) mm (by omega) (by omega) hE' (by omega) hh))))⟩
theorem pd_xinv {post : Int64 → Prop} {x y : Int64} (e m : Nat) (hx : x = lN e) (hy : y = lN m) (hm2 : m < 2 ^ 31) (he : 1 ≤ e) (he2 : e ≤ 65537) (hem : e < m) (H : ∀ d, pd_Inv e m d → post (lN d)) : wpX_inverse post (len, n, w, a, M, O, P) x y := by
  subst hx hy
  refine ⟨65, ?_⟩
  have hp : m * e ≤ 2 ^ 31 * 65537 := Nat.mul_le_mul (by omega) he2
  exact pd_xinvL (by omega) hm2 H 64 m e 0 1 0 65 (by omega) (by omega) (pd_EI_0 hem) (Nat.le_refl _) (by omega)
theorem pd_y59 {post : Int32 → SY → Prop} {x1 x2 x3 : Int32} {e m dd : Nat} (he : 3 ≤ e) (he2 : e ≤ 65537) (hm2 : m < 2 ^ 31) (hI : pd_Inv e m dd) (H : wY_key_113 post x1 x2 x3 (nI e) (lN dd) len n w a M O P) : ∀ g j mm : Nat, j + g = e → g + 1 < mm → 1 ≤ j → (∀ i, 1 ≤ i → i < j → ¬ (i * m + 1) % e = 0) → wY_key_59 post x1 x2 x3 (nI e) (lN m) len n w a M O P mm 0 (lN j) := by
  have el : (nI e).toInt64 = lN e := nI_l (by omega)
  intro g
  induction g with
  | zero =>
    intro j mm hj hmm h1 hno
    obtain ⟨mm, rfl⟩ : ∃ m', mm = m' + 1 := ⟨mm - 1, by omega⟩
    have ej : j = e := by omega
    subst ej
    refine br_t (by rw [el]; exact (lN_le (by omega) (by omega)).mpr (Nat.le_refl _)) ?_
    rcases hI with ⟨i1, i2, i, i3⟩ | ⟨i1, i2⟩
    · obtain ⟨p1, p2, p3, p4, p5, p6⟩ := pd_ys (by omega) i2 i3
      exact absurd p3 (hno i p1 p2)
    · subst i2
      exact H
  | succ g ih =>
    intro j mm hj hmm h1 hno
    obtain ⟨mm, rfl⟩ : ∃ m', mm = m' + 2 := ⟨mm - 2, by omega⟩
    have hb : j * m ≤ 65537 * 2 ^ 31 := Nat.mul_le_mul (by omega) (by omega)
    have en : (lN j * lN m) + 1 = lN (j * m + 1) := by rw [lN_mul, lN_1]
    have ne : ¬ lN e = 0 := fun y => absurd ((lN_eq (b := 0) (by omega) (by decide)).mp y) (by omega)
    have er : lN (j * m + 1) - lN (j * m + 1) / lN e * lN e = lN ((j * m + 1) % e) := pk_lRem (by omega) (by omega) (by omega)
    have ed : lN (j * m + 1) / lN e = lN ((j * m + 1) / e) := pk_lDiv (by omega) (by omega) (by omega)
    have hlt : (j * m + 1) % e < e := Nat.mod_lt _ (by omega)
    unfold wY_key_59
    rw [el, en, er, ed]
    refine br_f (fun y => absurd ((lN_le (by omega) (by omega)).mp y) (by omega)) (br_t rfl ⟨ne, ?_⟩)
    by_cases z : (j * m + 1) % e = 0
    · refine br_t (by rw [z]; rfl) ⟨ne, ?_⟩
      rcases hI with ⟨i1, i2, i, i3⟩ | ⟨i1, i2⟩
      · obtain ⟨p1, p2, p3, p4, p5, p6⟩ := pd_ys (by omega) i2 i3
        have ej := p6 j (by omega) z
        subst ej
        refine nm_r (by rw [p4]) (nm_r (lN_1 j) ?_)
        have nd : ¬ lN dd = 0 := fun y => absurd ((lN_eq (b := 0) (by omega) (by decide)).mp y) (by omega)
        exact br_c (fun _ => H) (fun _ => br_f nd H)
      · exact absurd z (pd_yn i1 j)
    · refine br_f (fun y => z ((lN_eq (b := 0) (by omega) (by decide)).mp y)) (nm_r (lN_1 j) (ih (j + 1) (mm + 1) (by omega) (by omega) (by omega) ?_))
      intro i i1 i2
      rcases Nat.lt_or_ge i j with x | x
      · exact hno i i1 x
      · rw [show i = j by omega]
        exact z
end
theorem pd_K_upd {M O P : Nat → Int64} {k m e d : Nat} (hK : pd_K M O P) (h0 : 0 < m) (h1 : m < 2 ^ 31) (h2 : e < 2 ^ 31) (h3 : d < 2 ^ 31) : pd_K (vp_updL M k (lN m)) (vp_updL O k (lN e)) (vp_updL P k (lN d)) := by
  intro j hj
  by_cases z : j = k
  · subst z
    exact Or.inr ⟨m, e, d, pk_uLs, pk_uLs, pk_uLs, h0, h1, h2, h3⟩
  · rw [pk_uLn z, pk_uLn z, pk_uLn z]
    exact hK j hj
theorem i_vc_key {k : Nat} {u : SX} {v : SY} (I : i_Rel k u v) (hk : k + 5 ≤ 2560) (v1 : Int32) (v2 : Int32) (v3 : Int32) (v4 : Int32) : wpX_key (fun r u' => wpY_key (fun r' v' => r' = r ∧ i_Rel (k + 5) u' v') v v1 v2 v3 v4) u v1 v2 v3 v4 := by
  have J := I
  obtain ⟨t, len, M, O, P, a, n, b, c, ht, hl, hK, rfl, rfl⟩ := I
  by_cases good : (∃ j, j < 3 ∧ v1 = nI j) ∧ pd_Pr v2 ∧ pd_Pr v3 ∧ ¬ v2 = v3 ∧ ¬ v4 < 3 ∧ v4 ≤ 65537
  · obtain ⟨⟨j, hj, rfl⟩, hp, hq, hne, he1, he2⟩ := good
    have hp' := hp
    have hq' := hq
    obtain ⟨p, rfl, p1, p2, _⟩ := hp'
    obtain ⟨q, rfl, q1, q2, _⟩ := hq'
    have hpq : p ≠ q := fun h => hne (congrArg nI h)
    obtain ⟨e, g1, g2, rfl⟩ : ∃ e, 3 ≤ e ∧ e ≤ 65537 ∧ v4 = nI e := by
      rcases pd_cs 65538 v4 with h | ⟨e, h1, h2, rfl⟩
      · rcases h with z | ⟨e, h1, h2, rfl⟩
        · exact absurd (Int32.lt_trans z (by decide)) he1
        · exact absurd he2 (nI_ge (a := 65537) (by omega) h2)
      · refine ⟨e, ?_, by omega, rfl⟩
        apply Nat.le_of_not_lt
        intro y
        exact he1 (nI_lt (b := 3) y (by decide))
    have ep : (nI p).toInt64 = lN p := nI_l (by omega)
    have eq : (nI q).toInt64 = lN q := nI_l (by omega)
    have ee : (nI e).toInt64 = lN e := nI_l (by omega)
    have ephi : ((nI p).toInt64 - 1) * ((nI q).toInt64 - 1) = lN ((p - 1) * (q - 1)) := by
      have a1 : lN p - 1 = lN (p - 1) := lN_sub (b := 1) (by omega)
      have a2 : lN q - 1 = lN (q - 1) := lN_sub (b := 1) (by omega)
      rw [ep, eq, a1, a2, lN_mul]
    have epq : (nI p).toInt64 * (nI q).toInt64 = lN (p * q) := by rw [ep, eq, lN_mul]
    have hphi1 : (p - 1) * (q - 1) ≤ 46336 * 46336 := Nat.mul_le_mul (by omega) (by omega)
    have hphi2 : 65792 ≤ (p - 1) * (q - 1) := by
      rcases Nat.lt_or_ge p q with z | z
      · have := Nat.mul_le_mul (show 256 ≤ p - 1 by omega) (show 257 ≤ q - 1 by omega)
        omega
      · have := Nat.mul_le_mul (show 257 ≤ p - 1 by omega) (show 256 ≤ q - 1 by omega)
        omega
    have hm1 : p * q ≤ 46337 * 46337 := Nat.mul_le_mul p2 q2
    have hm0 : 1 * 1 ≤ p * q := Nat.mul_le_mul (by omega) (by omega)
    have hv : vp_in (nI j) 3 := vp_in_nI hj (by decide)
    have ecl : (nI j).toNatClampNeg = j := nI_clamp (by omega)
    have kneg : ¬ nI j < 0 := nI_pos (by omega)
    have k3 : ¬ 3 ≤ nI j := nI_ge (b := 3) hj (by decide)
    refine br_f kneg (br_f k3 (br_f hne (br_f he1 (br_t he2 ?_))))
    refine pd_xkp (fun _ => ?_) (fun h => absurd hp h)
    refine br_f pd_n10 ?_
    refine pd_xkp (fun _ => ?_) (fun h => absurd hq h)
    refine br_f pd_n10 ?_
    refine pd_xinv e ((p - 1) * (q - 1)) ee ephi (by omega) (by omega) g2 (by omega) (fun dd hI => ?_)
    have hdd : dd < 2 ^ 31 := by
      rcases hI with ⟨_, i2, _⟩ | ⟨_, i2⟩ <;> omega
    -- Y up to its search
    have hY : ∀ post : Int32 → SY → Prop, wY_key_113 post (nI j) (nI p) (nI q) (nI e) (lN dd) (nI len) c (fun i => nI (t i)) b M O P → wpY_key post (nI len, c, (fun i => nI (t i)), b, M, O, P) (nI j) (nI p) (nI q) (nI e) := by
      intro post H
      unfold wpY_key
      dsimp only
      refine pd_yO0 3 rfl (by decide) hj ?_
      refine br_t rfl ?_
      refine pd_ykp (fun _ => ?_) (fun h => absurd hp h)
      refine br_f pd_n10 ?_
      refine pd_ykp (fun _ => ?_) (fun h => absurd hq h)
      refine br_f pd_n10 (br_f hne (br_f he1 (br_t he2 (nm_r ephi ⟨e + 1, ?_⟩))))
      exact pd_y59 g1 g2 (by omega) hI H (e - 1) 1 (e + 1) (by omega) (by omega) (by omega) (fun i i1 i2 => absurd i2 (by omega))
    by_cases z : dd = 0
    · subst z
      refine br_t rfl (hY _ ?_)
      exact br_t rfl ⟨rfl, J⟩
    · have nd : ¬ lN dd = 0 := fun y => z ((lN_eq (b := 0) hdd (by decide)).mp y)
      refine br_f nd ⟨hv, nm_r (by rw [ecl, epq]) ⟨hv, nm_r (by rw [ecl, ee]) ⟨hv, nm_r (by rw [ecl]) (hY _ ?_)⟩⟩⟩
      refine br_f nd ⟨hv, nm_r (by rw [ecl, epq]) ⟨hv, nm_r (by rw [ecl, ee]) ⟨hv, nm_r (by rw [ecl]) ⟨rfl, ?_⟩⟩⟩⟩
      exact pd_R _ ht hl (pd_K_upd hK (by omega) (by omega) (by omega) hdd) _ _ _ _
  · have hX : ∀ post : Int32 → SX → Prop, post (-1) (nI len, n, (fun i => nI (t i)), a, M, O, P) → wpX_key post (nI len, n, (fun i => nI (t i)), a, M, O, P) v1 v2 v3 v4 := by
      intro post H
      rcases pd_cs 3 v1 with h | ⟨j, hj, _, rfl⟩
      · rcases h with z | ⟨j, h1, h2, rfl⟩
        · exact br_t z H
        · exact br_f (nI_pos h2) (br_t (nI_le (a := 3) h1 h2) H)
      · refine br_f (nI_pos (by omega)) (br_f (nI_ge (b := 3) hj (by decide)) (br_c (fun _ => H) (fun hne => br_c (fun _ => H) (fun he1 => br_c (fun he2 => ?_) (fun _ => H)))))
        refine pd_xkp (fun hp => ?_) (fun h => br_t rfl H)
        refine br_f pd_n10 ?_
        refine pd_xkp (fun hq => ?_) (fun h => br_t rfl H)
        exact absurd ⟨⟨j, hj, rfl⟩, hp, hq, hne, he1, he2⟩ good
    have hY : ∀ post : Int32 → SY → Prop, post (-1) (nI len, c, (fun i => nI (t i)), b, M, O, P) → wpY_key post (nI len, c, (fun i => nI (t i)), b, M, O, P) v1 v2 v3 v4 := by
      intro post H
      unfold wpY_key
      dsimp only
      rcases pd_cs 3 v1 with h | ⟨j, hj, _, rfl⟩
      · refine pd_yO1 3 rfl h ?_
        exact br_f pd_n10 H
      · refine pd_yO0 3 rfl (by decide) hj ?_
        refine br_t rfl ?_
        refine pd_ykp (fun hp => ?_) (fun h => br_t rfl H)
        refine br_f pd_n10 ?_
        refine pd_ykp (fun hq => ?_) (fun h => br_t rfl H)
        exact br_f pd_n10 (br_c (fun _ => H) (fun hne => br_c (fun _ => H) (fun he1 => br_c (fun he2 => absurd ⟨⟨j, hj, rfl⟩, hp, hq, hne, he1, he2⟩ good) (fun _ => H))))
    exact hX _ (hY _ ⟨rfl, J⟩)
