/-! sign, verify, raise -/
section
variable {len n : Int32} {w a : Nat → Int32} {t : Nat → Nat} {M O P : Nat → Int64} {L : List Nat}
def pd_nok (M : Nat → Int64) (x : Int32) : Prop := pd_bad 3 x ∨ ∃ j, j < 3 ∧ x = nI j ∧ M j = 0
theorem pd_xk0 {post : Int32 → Prop} {x : Int32} (h : pd_nok M x) (H : post 0) : wpX_isKey post (len, n, w, a, M, O, P) x := by
  rcases h with (z | ⟨j, h1, h2, rfl⟩) | ⟨j, hj, rfl, h0⟩
  · exact br_t z H
  · exact br_f (nI_pos h2) (br_t (nI_le (a := 3) h1 h2) H)
  · refine br_f (nI_pos (by omega)) (br_f (nI_ge (b := 3) hj (by decide)) ⟨vp_in_nI hj (by decide), br_t ?_ H⟩)
    rw [nI_clamp (by omega), h0]
    decide
theorem pd_xk1 {post : Int32 → Prop} {j m : Nat} (hj : j < 3) (hM : M j = lN m) (h0 : 0 < m) (h1 : m < 2 ^ 31) (H : post 1) : wpX_isKey post (len, n, w, a, M, O, P) (nI j) := by
  refine br_f (nI_pos (by omega)) (br_f (nI_ge (b := 3) hj (by decide)) ⟨vp_in_nI hj (by decide), br_f ?_ H⟩)
  rw [nI_clamp (by omega), hM]
  intro q
  exact absurd ((lN_le (b := 0) h1 (by decide)).mp q) (by omega)
theorem pd_yk1 {post : Int32 → Prop} {x : Int32} (h : pd_nok M x) (H : post 1) : wpY_none post (len, n, w, a, M, O, P) x := by
  unfold wpY_none
  dsimp only
  rcases h with h | ⟨j, hj, rfl, h0⟩
  · refine pd_yO1 3 rfl h ?_
    exact br_f pd_n10 H
  · refine pd_yO0 3 rfl (by decide) hj ?_
    refine br_t rfl ⟨vp_in_nI hj (by decide), br_t ?_ H⟩
    rw [nI_clamp (by omega), h0]
theorem pd_yk0 {post : Int32 → Prop} {j m : Nat} (hj : j < 3) (hM : M j = lN m) (h0 : 0 < m) (h1 : m < 2 ^ 31) (H : post 0) : wpY_none post (len, n, w, a, M, O, P) (nI j) := by
  unfold wpY_none
  dsimp only
  refine pd_yO0 3 rfl (by decide) hj ?_
  refine br_t rfl ⟨vp_in_nI hj (by decide), br_f ?_ H⟩
  rw [nI_clamp (by omega), hM]
  intro q
  exact absurd ((lN_eq (b := 0) h1 (by decide)).mp q) (by omega)
theorem pd_ks (hK : pd_K M O P) (x : Int32) : pd_nok M x ∨ ∃ j m e d : Nat, j < 3 ∧ x = nI j ∧ M j = lN m ∧ O j = lN e ∧ P j = lN d ∧ 0 < m ∧ m < 2 ^ 31 ∧ e < 2 ^ 31 ∧ d < 2 ^ 31 := by
  rcases pd_cs 3 x with h | ⟨j, hj, _, rfl⟩
  · exact Or.inl (Or.inl h)
  · rcases hK j hj with z | ⟨m, e, d, h⟩
    · exact Or.inl (Or.inr ⟨j, hj, rfl, z⟩)
    · exact Or.inr ⟨j, m, e, d, hj, rfl, h⟩
end
theorem pd_reds {t : Nat → Nat} {M O P : Nat → Int64} {j m : Nat} (hj : j < 3) (hM : M j = lN m) (h0 : 0 < m) (h1 : m < 2 ^ 31) (c : Nat) (hc : c ≤ 120) : ∃ r : Nat, r < m ∧ (∀ (post : Int64 → Prop) (len n : Int32) (a : Nat → Int32), post (lN r) → wpX_hashBelowModulus post (len, n, (fun i => nI (t i)), a, M, O, P) (nI j) (nI c)) ∧ (∀ (post : Int64 → Prop) (len n : Int32) (a : Nat → Int32), post (lN r) → wpY_reduced post (len, n, (fun i => nI (t i)), a, M, O, P) (nI j) (nI c)) := by
  obtain ⟨h, hh, e1, e2, e3⟩ := pd_uns (pd_he (pd_hs t c))
  have ne : ¬ lN m = 0 := fun q => absurd ((lN_eq (b := 0) h1 (by decide)).mp q) (by omega)
  have er : lN h - lN h / lN m * lN m = lN (h % m) := pk_lRem (by omega) h0 (by omega)
  have hv : vp_in (nI j) 3 := vp_in_nI hj (by decide)
  have ecl : M (nI j).toNatClampNeg = lN m := by rw [nI_clamp (by omega), hM]
  refine ⟨h % m, Nat.mod_lt _ h0, ?_, ?_⟩
  · intro post len n a H
    unfold wpX_hashBelowModulus
    dsimp only
    refine pd_xh c hc ?_
    refine nm_r e1 ⟨hv, ?_⟩
    rw [ecl, er]
    exact ⟨ne, H⟩
  · intro post len n a H
    unfold wpY_reduced
    dsimp only
    refine pd_yh c hc ?_
    by_cases z : (pd_he (pd_hs t c)).toInt64 < 0
    · refine br_f (Int64.not_le.mpr z) ⟨hv, ?_⟩
      rw [ecl, e2 z, er]
      exact ⟨ne, H⟩
    · refine br_t (Int64.not_lt.mp z) ⟨hv, ?_⟩
      rw [ecl, e3 z, er]
      exact ⟨ne, H⟩
theorem pd_sh64 : ∀ i, i < 32 → (((nI i).toInt64 &&& 63).toBitVec.smod 64).toNat = i := by decide +kernel
theorem pd_pwL {M O P : Nat → Int64} {w : Nat → Int32} {e m : Nat} (he : e < 2 ^ 31) (h0 : 0 < m) (h1 : m < 2 ^ 31) : ∀ (d i : Nat) (x y : Int64), i + d = 31 → e / 2 ^ i < 2 ^ d → ∃ r : Int64, (e / 2 ^ i = 0 → r = x) ∧ (∀ (post : Int64 → Prop) (mm : Nat) (len n : Int32) (a : Nat → Int32), d < mm → post r → wX_power_9 post (lN e) (lN m) len n w a M O P mm x y (nI i)) ∧ (∀ (post : Int64 → Prop) (mm : Nat), d < mm → post r → wY_power_12 post (lN m) mm x y (lN (e / 2 ^ i))) := by
  have ne : ¬ lN m = 0 := fun q => absurd ((lN_eq (b := 0) h1 (by decide)).mp q) (by omega)
  intro d
  induction d with
  | zero =>
    intro i x y hi hq
    have ei : i = 31 := by omega
    subst ei
    have e0 : e / 2 ^ 31 = 0 := by omega
    refine ⟨x, fun _ => rfl, ?_, ?_⟩
    · intro post mm len n a hm H
      obtain ⟨mm, rfl⟩ : ∃ m', mm = m' + 1 := ⟨mm - 1, by omega⟩
      exact br_t (by decide) H
    · intro post mm hm H
      obtain ⟨mm, rfl⟩ : ∃ m', mm = m' + 1 := ⟨mm - 1, by omega⟩
      rw [e0]
      exact br_t (by decide) H
  | succ d ih =>
    intro i x y hi hq
    have hdiv : e / 2 ^ (i + 1) = e / 2 ^ i / 2 := by rw [Nat.pow_succ, Nat.div_div_eq_div_mul]
    have hle : e / 2 ^ i ≤ e := Nat.div_le_self _ _
    have ebit : (lN e >>> ((nI i).toInt64 &&& 63)) &&& 1 = lN (e / 2 ^ i % 2) := by
      rw [pf_shr (pd_sh64 i (by omega)) (by omega), g_and1 (by omega)]
    have esh : lN (e / 2 ^ i) >>> ((1 : Int32).toInt64 &&& 63) = lN (e / 2 ^ (i + 1)) := by
      rw [hdiv]
      exact pf_shr (d := 1) (by decide) (by omega)
    have eand : lN (e / 2 ^ i) &&& 1 = lN (e / 2 ^ i % 2) := g_and1 (by omega)
    have hq2 : e / 2 ^ (i + 1) < 2 ^ d := by
      rw [hdiv]
      rw [Nat.pow_succ] at hq
      omega
    generalize hqq : e / 2 ^ i = q at *
    by_cases b1 : q % 2 = 1
    · obtain ⟨r, h3, hX, hY⟩ := ih (i + 1) ((x * y) - (x * y) / lN m * lN m) ((y * y) - (y * y) / lN m * lN m) (by omega) hq2
      refine ⟨r, fun z => absurd z (by omega), ?_, ?_⟩
      · intro post mm len n a hm H
        obtain ⟨mm, rfl⟩ : ∃ m', mm = m' + 1 := ⟨mm - 1, by omega⟩
        refine br_f (nI_ge (b := 31) (by omega) (by decide)) (br_t (by rw [ebit, b1]; rfl) ⟨ne, nm_e ?_⟩)
        exact ⟨ne, nm_e (nm_r (nI_1 i) (hX post mm len n a (by omega) H))⟩
      · intro post mm hm H
        obtain ⟨mm, rfl⟩ : ∃ m', mm = m' + 1 := ⟨mm - 1, by omega⟩
        refine br_f (fun z => absurd ((lN_le (b := 0) (by omega) (by decide)).mp z) (by omega)) (br_f (by rw [eand, b1]; decide) ⟨ne, nm_e ?_⟩)
        exact ⟨ne, nm_e (nm_r esh (hY post mm (by omega) H))⟩
    · have b0 : q % 2 = 0 := by omega
      obtain ⟨r, h3, hX, hY⟩ := ih (i + 1) x ((y * y) - (y * y) / lN m * lN m) (by omega) hq2
      have goX : ∀ (post : Int64 → Prop) (mm : Nat) (len n : Int32) (a : Nat → Int32), d + 1 < mm → post r → wX_power_9 post (lN e) (lN m) len n w a M O P mm x y (nI i) := by
        intro post mm len n a hm H
        obtain ⟨mm, rfl⟩ : ∃ m', mm = m' + 1 := ⟨mm - 1, by omega⟩
        refine br_f (nI_ge (b := 31) (by omega) (by decide)) (br_f (by rw [ebit, b0]; decide) ?_)
        exact ⟨ne, nm_e (nm_r (nI_1 i) (hX post mm len n a (by omega) H))⟩
      rcases Nat.eq_zero_or_pos q with z | z
      · have er : r = x := h3 (by omega)
        refine ⟨r, fun _ => er, goX, ?_⟩
        intro post mm hm H
        obtain ⟨mm, rfl⟩ : ∃ m', mm = m' + 1 := ⟨mm - 1, by omega⟩
        rw [z]
        rw [er] at H
        exact br_t (by decide) H
      · refine ⟨r, fun y => absurd y (by omega), goX, ?_⟩
        intro post mm hm H
        obtain ⟨mm, rfl⟩ : ∃ m', mm = m' + 1 := ⟨mm - 1, by omega⟩
        refine br_f (fun z => absurd ((lN_le (b := 0) (by omega) (by decide)).mp z) (by omega)) (br_t (by rw [eand, b0]; rfl) ?_)
        exact ⟨ne, nm_e (nm_r esh (hY post mm (by omega) H))⟩
theorem pd_pows {M O P : Nat → Int64} {w : Nat → Int32} {b e m : Nat} (hb : b < m) (he : e < 2 ^ 31) (h1 : m < 2 ^ 31) : ∃ r : Int64, (∀ (post : Int64 → Prop) (len n : Int32) (a : Nat → Int32), post r → wpX_power post (len, n, w, a, M, O, P) (lN b) (lN e) (lN m)) ∧ (∀ (post : Int64 → Prop), post r → wpY_power post (lN b) (lN e) (lN m)) := by
  have ne : ¬ lN m = 0 := fun q => absurd ((lN_eq (b := 0) h1 (by decide)).mp q) (by omega)
  have em : lN b - lN b / lN m * lN m = lN b := by
    rw [pk_lRem (by omega) (by omega) (by omega), Nat.mod_eq_of_lt hb]
  obtain ⟨r, _, hX, hY⟩ := pd_pwL (M := M) (O := O) (P := P) (w := w) he (by omega) h1 31 0 1 (lN b) (by omega) (by rw [Nat.pow_zero, Nat.div_one]; exact he)
  rw [Nat.pow_zero, Nat.div_one] at hY
  exact ⟨r, fun post len n a H => ⟨32, hX post 32 len n a (by omega) H⟩, fun post H => ⟨ne, nm_r em ⟨32, hY post 32 (by omega) H⟩⟩⟩
theorem i_vc_sign {k : Nat} {u : SX} {v : SY} (I : i_Rel k u v) (hk : k + 5 ≤ 2560) (v1 : Int32) : wpX_sign (fun r u' => wpY_sign (fun r' v' => r' = r ∧ i_Rel (k + 5) u' v') v v1) u v1 := by
  have J := I
  obtain ⟨t, len, M, O, P, a, n, b, c, ht, hl, hK, rfl, rfl⟩ := I
  rcases pd_ks hK v1 with h | ⟨j, m, e, d, hj, rfl, eM, eO, eP, m0, m1, e1, d1⟩
  · unfold wpX_sign wpY_sign
    dsimp only
    refine pd_xk0 h ?_
    refine br_t rfl ?_
    refine pd_yk1 h ?_
    exact br_f pd_n10 ⟨rfl, J⟩
  · obtain ⟨r, hr, hX, hY⟩ := pd_reds (t := t) (O := O) (P := P) hj eM m0 m1 len hl
    obtain ⟨s, gX, gY⟩ := pd_pows (M := M) (O := O) (P := P) (w := fun i => nI (t i)) hr d1 m1
    have hv : vp_in (nI j) 3 := vp_in_nI hj (by decide)
    have cM : M (nI j).toNatClampNeg = lN m := by rw [nI_clamp (by omega), eM]
    have cP : P (nI j).toNatClampNeg = lN d := by rw [nI_clamp (by omega), eP]
    have hll : (pd_LW ([] ++ pd_sl t 0 len) s.toInt32).length = len + 4 := by rw [pd_LW_len, pd_app, pd_sl_len]; simp
    refine pd_fin (k + 5) (r := nI ((pd_LW ([] ++ pd_sl t 0 len) s.toInt32).length - 0)) (L := pd_LW ([] ++ pd_sl t 0 len) s.toInt32) (f := 0) ht hl hK (pd_LW_By (pd_By_app pd_By_nil (pd_sl_By ht _ _)) _) (fun post => wpX_sign post (nI len, n, (fun i => nI (t i)), a, M, O, P) (nI j)) (fun post => wpY_sign post (nI len, c, (fun i => nI (t i)), b, M, O, P) (nI j)) ?_ ?_
    · intro post H
      unfold wpX_sign
      dsimp only
      refine pd_xk1 hj eM m0 m1 ?_
      refine br_f pd_n10 ?_
      refine hX _ _ _ _ ?_
      refine ⟨hv, hv, ?_⟩
      rw [cM, cP]
      refine gX _ _ _ _ ?_
      refine pd_xpw 0 len rfl rfl (by omega) (pd_D_nil 120 a) (by simp) (fun a1 n1 d1 => ?_)
      refine pd_xpwd d1 (by rw [pd_app, pd_sl_len]; simp; omega) (fun a2 n2 d2 => ?_)
      exact pd_XKb (by omega) H d2
    · intro post H
      unfold wpY_sign
      dsimp only
      refine pd_yk0 hj eM m0 m1 ?_
      refine br_t rfl ?_
      refine hY _ _ _ _ ?_
      refine ⟨hv, hv, ?_⟩
      rw [cM, cP]
      refine gY _ ?_
      refine pd_ypw 0 len rfl (by rw [Nat.zero_add]) ht (by omega) (pd_D_nil 400 b) (by simp) (fun a1 n1 d1 => ?_)
      refine pd_ypwd d1 (by rw [pd_app, pd_sl_len]; simp; omega) (fun a2 n2 d2 => ?_)
      exact pd_YKb (by omega) H d2
def pd_wd (t : Nat → Nat) (f : Nat) : Nat → Nat
  | 0 => 0
  | k + 1 => pd_wd t f k * 256 + t (f + k)
theorem pd_wd_lt {t : Nat → Nat} (ht : ∀ i, t i < 256) (f : Nat) : ∀ k, pd_wd t f k < 256 ^ k := by
  intro k
  induction k with
  | zero => exact Nat.zero_lt_one
  | succ k ih =>
    have := ht (f + k)
    rw [pd_wd, Nat.pow_succ]
    omega
theorem pd_256k : ∀ k, k ≤ 4 → 256 ^ k ≤ 4294967296 := by
  intro k hk
  exact Nat.le_trans (Nat.pow_le_pow_right (by decide) hk) (by decide)
section
variable {len n : Int32} {w a : Nat → Int32} {t : Nat → Nat} {M O P : Nat → Int64} {L : List Nat}
theorem pd_xwdL {post : Int64 → Prop} {f : Nat} (ht : ∀ i, t i < 256) (hf : f + 4 ≤ 120) (H : post (lN (pd_wd t f 4))) : ∀ d i m : Nat, i + d = 4 → d < m → wX_wordAt_5 post (nI f) len n (fun i => nI (t i)) a M O P m (lN (pd_wd t f i)) (nI i) := by
  intro d
  induction d with
  | zero =>
    intro i m hi hm
    obtain ⟨m, rfl⟩ : ∃ m', m = m' + 1 := ⟨m - 1, by omega⟩
    have e : i = 4 := by omega
    subst e
    exact br_t (by decide) H
  | succ d ih =>
    intro i m hi hm
    obtain ⟨m, rfl⟩ : ∃ m', m = m' + 1 := ⟨m - 1, by omega⟩
    have ea : nI f + nI i = nI (f + i) := nI_add f i
    have hb := ht (f + i)
    have h4 := pd_wd_lt ht f i
    have h5 := pd_256k i (by omega)
    refine br_f (nI_ge (b := 4) (by omega) (by decide)) ⟨by rw [ea]; exact vp_in_nI (by omega) (by decide), nm_r (e' := lN (pd_wd t f (i + 1))) ?_ (nm_r (nI_1 i) (ih (i + 1) m (by omega) (by omega)))⟩
    rw [ea, nI_clamp (by omega), nI_l (by omega)]
    have es : lN (pd_wd t f i) <<< ((8 : Int32).toInt64 &&& 63) = lN (pd_wd t f i * 2 ^ 8) := wb_shl _ (k := 8) (by decide)
    rw [es]
    exact g_or (k := 8) rfl hb (by omega)
theorem pd_xwd {post : Int64 → Prop} (f : Nat) (ht : ∀ i, t i < 256) (hf : f + 4 ≤ 120) (H : post (lN (pd_wd t f 4))) : wpX_wordAt post (len, n, (fun i => nI (t i)), a, M, O, P) (nI f) := ⟨5, pd_xwdL ht hf H 4 0 5 (by omega) (by omega)⟩
theorem pd_ywdL {post : Int32 → SY → Prop} {f : Nat} {x : Int32} (ht : ∀ i, t i < 256) (hf : f + 4 ≤ 120) (H : ∀ m, wY_verify_31 post x (nI (f + 4)) n (fun i => nI (t i)) a M O P (m + 1) (lN (pd_wd t f 4)) (nI (f + 4))) : ∀ d i m : Nat, i + d = 4 → d < m → wY_verify_31 post x (nI (f + 4)) n (fun i => nI (t i)) a M O P m (lN (pd_wd t f i)) (nI (f + i)) := by
  intro d
  induction d with
  | zero =>
    intro i m hi hm
    obtain ⟨m, rfl⟩ : ∃ m', m = m' + 1 := ⟨m - 1, by omega⟩
    have e : i = 4 := by omega
    subst e
    exact H m
  | succ d ih =>
    intro i m hi hm
    obtain ⟨m, rfl⟩ : ∃ m', m = m' + 1 := ⟨m - 1, by omega⟩
    have hb := ht (f + i)
    refine br_f (nI_ge (by omega) (by omega)) ⟨vp_in_nI (by omega) (by decide), nm_r (e' := lN (pd_wd t f (i + 1))) ?_ (nm_r (nI_1 (f + i)) (ih (i + 1) m (by omega) (by omega)))⟩
    rw [nI_clamp (by omega), nI_l (by omega)]
    have es : lN (pd_wd t f i) * 256 = lN (pd_wd t f i * 256) := lN_mul _ 256
    rw [es, lN_add]
    rfl
end
theorem i_vc_verify {k : Nat} {u : SX} {v : SY} (I : i_Rel k u v) (hk : k + 5 ≤ 2560) (v1 : Int32) : wpX_verify (fun r u' => wpY_verify (fun r' v' => r' = r ∧ i_Rel (k + 5) u' v') v v1) u v1 := by
  have J := I
  obtain ⟨t, len, M, O, P, a, n, b, c, ht, hl, hK, rfl, rfl⟩ := I
  rcases pd_ks hK v1 with h | ⟨j, m, e, d, hj, rfl, eM, eO, eP, m0, m1, e1, d1⟩
  · unfold wpX_verify wpY_verify
    dsimp only
    refine pd_xk0 h ?_
    refine br_t rfl ?_
    refine pd_yk1 h ?_
    exact br_f pd_n10 ⟨rfl, J⟩
  · have hv : vp_in (nI j) 3 := vp_in_nI hj (by decide)
    have cM : M (nI j).toNatClampNeg = lN m := by rw [nI_clamp (by omega), eM]
    have cO : O (nI j).toNatClampNeg = lN e := by rw [nI_clamp (by omega), eO]
    rcases Nat.lt_or_ge len 4 with z | z
    · have q : ¬ 4 ≤ nI len := nI_ge (b := 4) z (by decide)
      unfold wpX_verify wpY_verify
      dsimp only
      refine pd_xk1 hj eM m0 m1 ?_
      refine br_f pd_n10 (br_f q ?_)
      refine pd_yk0 hj eM m0 m1 ?_
      exact br_t rfl (br_f q ⟨rfl, J⟩)
    · obtain ⟨f, rfl⟩ : ∃ f, len = f + 4 := ⟨len - 4, by omega⟩
      have q : 4 ≤ nI (f + 4) := nI_le (a := 4) z (by omega)
      have e4 : nI (f + 4) - 4 = nI f := by
        have := pk_sub (a := f + 4) (b := 4) (by omega)
        rw [Nat.add_sub_cancel] at this
        exact this
      obtain ⟨r, hr, hX, hY⟩ := pd_reds (t := t) (O := O) (P := P) hj eM m0 m1 f (by omega)
      have hw : pd_wd t f 4 < 4294967296 := pd_wd_lt ht f 4
      -- both to the look at the word
      have gX : ∀ post : Int32 → SX → Prop, ((lN (pd_wd t f 4) < lN m → wpX_power (fun r_24 => wpX_hashBelowModulus (fun r_32 => ((r_24 = r_32 → post (nI f) (nI f, n, (fun i => nI (t i)), a, M, O, P)) ∧ (¬ r_24 = r_32 → post (-4) (nI (f + 4), n, (fun i => nI (t i)), a, M, O, P)))) (nI (f + 4), n, (fun i => nI (t i)), a, M, O, P) (nI j) (nI f)) (nI (f + 4), n, (fun i => nI (t i)), a, M, O, P) (lN (pd_wd t f 4)) (lN e) (lN m)) ∧ (¬ lN (pd_wd t f 4) < lN m → post (-4) (nI (f + 4), n, (fun i => nI (t i)), a, M, O, P))) → wpX_verify post (nI (f + 4), n, (fun i => nI (t i)), a, M, O, P) (nI j) := by
        intro post H
        unfold wpX_verify
        dsimp only
        refine pd_xk1 hj eM m0 m1 ?_
        refine br_f pd_n10 (br_t q (nm_r e4 ?_))
        refine pd_xwd f ht (by omega) ?_
        refine ⟨hv, ?_⟩
        rw [cM, cO]
        exact ⟨fun x => ⟨hv, hv, H.1 x⟩, H.2⟩
      have gY : ∀ post : Int32 → SY → Prop, ((lN m ≤ lN (pd_wd t f 4) → post (-4) (nI (f + 4), c, (fun i => nI (t i)), b, M, O, P)) ∧ (¬ lN m ≤ lN (pd_wd t f 4) → wpY_power (fun r_25 => ((r_25 = lN r → post (nI f) (nI f, c, (fun i => nI (t i)), b, M, O, P)) ∧ (¬ r_25 = lN r → post (-4) (nI (f + 4), c, (fun i => nI (t i)), b, M, O, P)))) (lN (pd_wd t f 4)) (lN e) (lN m))) → wpY_verify post (nI (f + 4), c, (fun i => nI (t i)), b, M, O, P) (nI j) := by
        intro post H
        unfold wpY_verify
        dsimp only
        refine pd_yk0 hj eM m0 m1 ?_
        refine br_t rfl (br_t q (nm_r e4 ⟨5, ?_⟩))
        refine pd_ywdL ht (by omega) (fun mm => ?_) 4 0 5 (by omega) (by omega)
        refine br_t (nI_le (Nat.le_refl _) (by omega)) ?_
        rw [e4]
        refine hY _ _ _ _ ?_
        refine ⟨hv, ?_⟩
        rw [cM, cO]
        refine ⟨H.1, fun x => ⟨hv, hv, ?_⟩⟩
        have hp := H.2 x
        have conv : (fun r_25 => ((r_25 = lN r → ∀ f_length_27, f_length_27 = nI f → post f_length_27 (f_length_27, c, (fun i => nI (t i)), b, M, O, P)) ∧ (¬ r_25 = lN r → post (-4) (nI (f + 4), c, (fun i => nI (t i)), b, M, O, P)))) = (fun r_25 => ((r_25 = lN r → post (nI f) (nI f, c, (fun i => nI (t i)), b, M, O, P)) ∧ (¬ r_25 = lN r → post (-4) (nI (f + 4), c, (fun i => nI (t i)), b, M, O, P)))) := by
          funext r25
          apply propext
          constructor
          · exact fun h => ⟨fun x => h.1 x _ rfl, h.2⟩
          · exact fun h => ⟨fun x y ey => by rw [ey]; exact h.1 x, h.2⟩
        rw [← conv] at hp
        exact hp
      generalize pd_wd t f 4 = W at gX gY hw
      rcases Nat.lt_or_ge W m with y | y
      · obtain ⟨s, pX, pY⟩ := pd_pows (M := M) (O := O) (P := P) (w := fun i => nI (t i)) y e1 m1
        have lt1 : lN W < lN m := (pk_lLT (by omega) (by omega)).mpr y
        have nle : ¬ lN m ≤ lN W := fun q => absurd ((pk_lLE (by omega) (by omega)).mp q) (by omega)
        refine gX _ (br_t lt1 ?_)
        refine pX _ _ _ _ ?_
        refine hX _ _ _ _ ?_
        by_cases x : s = lN r
        · refine br_t x (gY _ (br_f nle ?_))
          refine pY _ ?_
          exact br_t x ⟨rfl, pd_R _ ht (by omega) hK _ _ _ _⟩
        · refine br_f x (gY _ (br_f nle ?_))
          refine pY _ ?_
          exact br_f x ⟨rfl, J⟩
      · have nlt : ¬ lN W < lN m := fun q => absurd ((pk_lLT (by omega) (by omega)).mp q) (by omega)
        have le1 : lN m ≤ lN W := (pk_lLE (by omega) (by omega)).mpr y
        exact gX _ (br_f nlt (gY _ (br_t le1 ⟨rfl, J⟩)))
theorem i_vc_raise {k : Nat} {u : SX} {v : SY} (I : i_Rel k u v) (hk : k + 5 ≤ 2560) (v1 : Int32) (a1 : Int64) (v4 : Int32) : wpX_raise (fun r => wpY_raise (fun r' => r' = r ∧ i_Rel (k + 5) u v) v v1 a1 (lw_bz v4)) u v1 a1 (lw_bz v4) := by
  have J := I
  obtain ⟨t, len, M, O, P, a, n, b, c, ht, hl, hK, rfl, rfl⟩ := I
  unfold wpX_raise wpY_raise
  dsimp only
  generalize lw_bz v4 = sc
  rcases pd_ks hK v1 with h | ⟨j, m, e, d, hj, rfl, eM, eO, eP, m0, m1, e1, d1⟩
  · refine pd_xk0 h ?_
    refine br_t rfl ?_
    refine pd_yk1 h ?_
    exact br_f pd_n10 ⟨rfl, J⟩
  · have hv : vp_in (nI j) 3 := vp_in_nI hj (by decide)
    have cM : M (nI j).toNatClampNeg = lN m := by rw [nI_clamp (by omega), eM]
    have cO : O (nI j).toNatClampNeg = lN e := by rw [nI_clamp (by omega), eO]
    have cP : P (nI j).toNatClampNeg = lN d := by rw [nI_clamp (by omega), eP]
    refine pd_xk1 hj eM m0 m1 ?_
    refine br_f pd_n10 ?_
    by_cases z : a1 < 0
    · refine br_t z ?_
      refine pd_yk0 hj eM m0 m1 ?_
      exact br_t rfl (br_t z ⟨rfl, J⟩)
    · obtain ⟨B, hB, rfl⟩ := pk_lOf z
      refine br_f z ⟨hv, ?_⟩
      rw [cM]
      rcases Nat.lt_or_ge B m with y | y
      · have lt1 : lN B < lN m := (pk_lLT hB (by omega)).mpr y
        refine br_t lt1 ?_
        by_cases x : sc = 0
        · refine br_t x ⟨hv, hv, ?_⟩
          rw [cM, cO]
          obtain ⟨s, pX, pY⟩ := pd_pows (M := M) (O := O) (P := P) (w := fun i => nI (t i)) y e1 m1
          refine pX _ _ _ _ ?_
          refine pd_yk0 hj eM m0 m1 ?_
          refine br_t rfl (br_f z ⟨hv, ?_⟩)
          refine br_t lt1 (br_t x ⟨hv, hv, ?_⟩)
          rw [cM]
          refine pY _ ?_
          exact ⟨rfl, J⟩
        · refine br_f x ⟨hv, hv, ?_⟩
          rw [cM, cP]
          obtain ⟨s, pX, pY⟩ := pd_pows (M := M) (O := O) (P := P) (w := fun i => nI (t i)) y d1 m1
          refine pX _ _ _ _ ?_
          refine pd_yk0 hj eM m0 m1 ?_
          refine br_t rfl (br_f z ⟨hv, ?_⟩)
          refine br_t lt1 (br_f x ⟨hv, hv, ?_⟩)
          rw [cM]
          refine pY _ ?_
          exact ⟨rfl, J⟩
      · have nlt : ¬ lN B < lN m := fun q => absurd ((pk_lLT hB (by omega)).mp q) (by omega)
        refine br_f nlt ?_
        refine pd_yk0 hj eM m0 m1 ?_
        refine br_t rfl (br_f z ⟨hv, ?_⟩)
        exact br_f nlt ⟨rfl, J⟩
