/-! plain -/
theorem pd_nr_A {c : Nat} (h : 65 ≤ c ∧ c ≤ 90) : pd_nr c = nI (c - 65) := by
  have e : pd_num c = c - 65 := if_pos h
  unfold pd_nr
  rw [e, if_pos (by omega)]
theorem pd_nr_B {c : Nat} (h : 97 ≤ c ∧ c ≤ 122) : pd_nr c = nI (c - 71) := by
  have e : pd_num c = c - 71 := (if_neg (by omega)).trans (if_pos h)
  unfold pd_nr
  rw [e, if_pos (by omega)]
theorem pd_nr_C {c : Nat} (h : 48 ≤ c ∧ c ≤ 57) : pd_nr c = nI (c + 4) := by
  have e : pd_num c = c + 4 := (if_neg (by omega)).trans ((if_neg (by omega)).trans (if_pos h))
  unfold pd_nr
  rw [e, if_pos (by omega)]
theorem pd_nr_D : pd_nr 43 = 62 := by decide
theorem pd_nr_E : pd_nr 47 = 63 := by decide
theorem pd_nr_F {c : Nat} (h1 : ¬ (65 ≤ c ∧ c ≤ 90)) (h2 : ¬ (97 ≤ c ∧ c ≤ 122)) (h3 : ¬ (48 ≤ c ∧ c ≤ 57)) (h4 : ¬ c = 43) (h5 : ¬ c = 47) : pd_nr c = -1 := by
  have e : pd_num c = 64 := (if_neg h1).trans ((if_neg h2).trans ((if_neg h3).trans ((if_neg h4).trans (if_neg h5))))
  unfold pd_nr
  rw [e, if_neg (by omega)]
section
variable {len n : Int32} {w a : Nat → Int32} {t : Nat → Nat} {M O P : Nat → Int64} {L : List Nat}
theorem pd_xnum {post : Int32 → Prop} {c : Nat} (hc : c < 256) (H : post (pd_nr c)) : wpX_numberOf post (len, n, w, a, M, O, P) (nI c) := by
  have s57 : ¬ (65 ≤ c ∧ c ≤ 90) → ¬ (97 ≤ c ∧ c ≤ 122) → ¬ (48 ≤ c ∧ c ≤ 57) → wX_numberOf_57 post (nI c) len n w a M O P := by
    intro h1 h2 h3
    refine pk_eq c 43 (fun h => ?_) (fun h => pk_eq c 47 (fun h' => ?_) (fun h' => ?_))
    · rw [h, pd_nr_D] at H
      exact H
    · rw [h', pd_nr_E] at H
      exact H
    · rw [pd_nr_F h1 h2 h3 h h'] at H
      exact H
  have s37 : ¬ (65 ≤ c ∧ c ≤ 90) → ¬ (97 ≤ c ∧ c ≤ 122) → wX_numberOf_37 post (nI c) len n w a M O P := by
    intro h1 h2
    refine pk_lt c 48 (fun h => s57 h1 h2 (by omega)) (fun h => pk_lt 57 c (fun h' => s57 h1 h2 (by omega)) (fun h' => ?_))
    have e1 : nI c - 48 = nI (c - 48) := pk_sub (b := 48) h
    have e2 : nI (c - 48) + 52 = nI (c - 48 + 52) := nI_add _ 52
    rw [e1, e2, show c - 48 + 52 = c + 4 by omega, ← pd_nr_C ⟨h, h'⟩]
    exact H
  have s17 : ¬ (65 ≤ c ∧ c ≤ 90) → wX_numberOf_17 post (nI c) len n w a M O P := by
    intro h1
    refine pk_lt c 97 (fun h => s37 h1 (by omega)) (fun h => pk_lt 122 c (fun h' => s37 h1 (by omega)) (fun h' => ?_))
    have e1 : nI c - 97 = nI (c - 97) := pk_sub (b := 97) h
    have e2 : nI (c - 97) + 26 = nI (c - 97 + 26) := nI_add _ 26
    rw [e1, e2, show c - 97 + 26 = c - 71 by omega, ← pd_nr_B ⟨h, h'⟩]
    exact H
  refine pk_lt c 65 (fun h => s17 (by omega)) (fun h => pk_lt 90 c (fun h' => s17 (by omega)) (fun h' => ?_))
  have e1 : nI c - 65 = nI (c - 65) := pk_sub (b := 65) h
  rw [e1, ← pd_nr_A ⟨h, h'⟩]
  exact H
theorem pd_ynumL {post : Int32 → Prop} {c : Nat} (hc : c < 256) (H : post (pd_nr c)) : ∀ d v m : Nat, v + d = 64 → d < m → (∀ u, u < v → ¬ pd_let u = c) → wY_number_2 post (nI c) m (nI v) := by
  intro d
  induction d with
  | zero =>
    intro v m hv hm hno
    obtain ⟨m, rfl⟩ : ∃ m', m = m' + 1 := ⟨m - 1, by omega⟩
    have e : v = 64 := by omega
    subst e
    have q : pd_nr c = -1 := by
      unfold pd_nr
      rw [if_neg]
      intro z
      exact hno _ z (pd_let_num c hc z)
    rw [q] at H
    exact br_t (by decide) H
  | succ d ih =>
    intro v m hv hm hno
    obtain ⟨m, rfl⟩ : ∃ m', m = m' + 1 := ⟨m - 1, by omega⟩
    have hlt := pd_let_lt v (by omega)
    refine br_f (nI_ge (b := 64) (by omega) (by decide)) ?_
    refine pd_ylet (by omega) ?_
    refine pk_eq (pd_let v) c (fun z => ?_) (fun z => nm_r (nI_1 v) (ih (v + 1) m (by omega) (by omega) ?_))
    · have q : pd_nr c = nI v := by
        have e := pd_num_let v (by omega)
        rw [z] at e
        unfold pd_nr
        rw [e, if_pos (by omega)]
      rw [q] at H
      exact H
    · intro u hu
      rcases Nat.lt_or_ge u v with y | y
      · exact hno u y
      · rw [show u = v by omega]
        exact z
theorem pd_ynum {post : Int32 → Prop} {c : Nat} (hc : c < 256) (H : post (pd_nr c)) : wpY_number post (nI c) := ⟨65, pd_ynumL hc H 64 0 65 (by omega) (by omega) (fun u hu => absurd hu (by omega))⟩
end
theorem pd_64 : ∀ i, i < 4 → 64 ^ i ≤ 262144 := by decide
theorem pd_fours {t : Nat → Nat} {M O P : Nat → Int64} {f cn wo : Nat} (ht : ∀ i, t i < 256) (hf : f + 4 ≤ 120) (hcw : cn + wo = 4) (hpad : ∀ i, cn ≤ i → i < 4 → t (f + i) = 61) : ∀ d i x : Nat, i + d = 4 → x < 64 ^ i → ∃ r : Int32, (r = -1 ∨ ∃ y, y < 2 ^ 24 ∧ r = nI y) ∧ (∀ (post : Int32 → Prop) (m : Nat) (len n : Int32) (a : Nat → Int32), d < m → post r → wX_bitsOfLetters_5 post (nI f) (nI cn) len n (fun i => nI (t i)) a M O P m (nI x) (nI i)) ∧ (∀ (post : Int32 → Prop) (m : Nat) (len n : Int32) (a : Nat → Int32), d < m → post r → wY_four_5 post (nI f) (nI wo) len n (fun i => nI (t i)) a M O P m (nI x) (nI i)) := by
  intro d
  induction d with
  | zero =>
    intro i x hi hx
    have e : i = 4 := by omega
    subst e
    refine ⟨nI x, Or.inr ⟨x, by omega, rfl⟩, ?_, ?_⟩
    · intro post m len n a hm H
      obtain ⟨m, rfl⟩ : ∃ m', m = m' + 1 := ⟨m - 1, by omega⟩
      exact br_t (by decide) H
    · intro post m len n a hm H
      obtain ⟨m, rfl⟩ : ∃ m', m = m' + 1 := ⟨m - 1, by omega⟩
      exact br_t (by decide) H
  | succ d ih =>
    intro i x hi hx
    have hx2 := pd_64 i (by omega)
    have hb := ht (f + i)
    have ea : nI f + nI i = nI (f + i) := nI_add f i
    have ew : 4 - nI wo = nI cn := by
      have e : (4 : Int32) - nI wo = nI (4 - wo) := pk_sub (a := 4) (by omega)
      rw [e, show 4 - wo = cn by omega]
    -- X and Y up to the number
    have goX : ∀ (post : Int32 → Prop) (m : Nat) (len n : Int32) (a : Nat → Int32) (z : Int32), (i < cn → z = pd_nr (t (f + i))) → (cn ≤ i → z = 0) → wX_bitsOfLetters_34 post (wX_bitsOfLetters_5 post (nI f) (nI cn) len n (fun i => nI (t i)) a M O P m) (nI f) (nI cn) (nI x) (nI i) z len n (fun i => nI (t i)) a M O P → wX_bitsOfLetters_5 post (nI f) (nI cn) len n (fun i => nI (t i)) a M O P (m + 1) (nI x) (nI i) := by
      intro post m len n a z z1 z2 H
      refine br_f (nI_ge (b := 4) (by omega) (by decide)) (pk_le cn i (fun y => ?_) (fun y => ⟨by rw [ea]; exact vp_in_nI (by omega) (by decide), ?_⟩))
      · rw [z2 y] at H
        exact H
      · rw [ea, nI_clamp (by omega)]
        refine pd_xnum hb ?_
        rw [z1 y] at H
        exact H
    have goY : ∀ (post : Int32 → Prop) (m : Nat) (len n : Int32) (a : Nat → Int32) (z : Int32), (i < cn → z = pd_nr (t (f + i))) → (cn ≤ i → z = 0) → wY_four_50 post (wY_four_5 post (nI f) (nI wo) len n (fun i => nI (t i)) a M O P m) (nI f) (nI wo) (nI x) (nI i) z len n (fun i => nI (t i)) a M O P → wY_four_5 post (nI f) (nI wo) len n (fun i => nI (t i)) a M O P (m + 1) (nI x) (nI i) := by
      intro post m len n a z z1 z2 H
      refine br_f (nI_ge (b := 4) (by omega) (by decide)) ⟨by rw [ea]; exact vp_in_nI (by omega) (by decide), nm_r (e' := nI (t (f + i))) (by rw [ea, nI_clamp (by omega)]) (pk_lt i cn (fun y => ?_) (fun y => ?_) rfl ew)⟩
      · refine pd_ynum hb ?_
        rw [z1 y] at H
        exact H
      · rw [z2 y] at H
        rw [hpad i y (by omega)]
        exact br_t rfl H
    by_cases hneg : i < cn ∧ ¬ pd_num (t (f + i)) < 64
    · have en : pd_nr (t (f + i)) = -1 := if_neg hneg.2
      refine ⟨-1, Or.inl rfl, ?_, ?_⟩
      · intro post m len n a hm H
        obtain ⟨m, rfl⟩ : ∃ m', m = m' + 1 := ⟨m - 1, by omega⟩
        refine goX post m len n a (-1) (fun _ => en.symm) (fun y => absurd y (by omega)) ?_
        exact br_f (by decide) H
      · intro post m len n a hm H
        obtain ⟨m, rfl⟩ : ∃ m', m = m' + 1 := ⟨m - 1, by omega⟩
        refine goY post m len n a (-1) (fun _ => en.symm) (fun y => absurd y (by omega)) ?_
        exact br_f (by decide) H
    · obtain ⟨v, hv, v1, v2⟩ : ∃ v, v < 64 ∧ (i < cn → nI v = pd_nr (t (f + i))) ∧ (cn ≤ i → nI v = 0) := by
        rcases Nat.lt_or_ge i cn with y | y
        · have h64 : pd_num (t (f + i)) < 64 := by
            apply Decidable.byContradiction
            intro q
            exact hneg ⟨y, q⟩
          exact ⟨pd_num (t (f + i)), h64, fun _ => (if_pos h64).symm, fun z => absurd z (by omega)⟩
        · exact ⟨0, by omega, fun z => absurd z (by omega), fun _ => rfl⟩
      obtain ⟨r, hr, hX, hY⟩ := ih (i + 1) (x * 64 + v) (by omega) (by rw [Nat.pow_succ]; omega)
      have e6 : (nI x <<< ((6 : Int32) &&& 31)) ||| nI v = nI (x * 64 + v) := pd_6 (by omega) hv
      refine ⟨r, hr, ?_, ?_⟩
      · intro post m len n a hm H
        obtain ⟨m, rfl⟩ : ∃ m', m = m' + 1 := ⟨m - 1, by omega⟩
        refine goX post m len n a (nI v) v1 v2 ?_
        exact br_t (nI_pos' (by omega)) (nm_r e6 (nm_r (nI_1 i) (hX post m len n a (by omega) H)))
      · intro post m len n a hm H
        obtain ⟨m, rfl⟩ : ∃ m', m = m' + 1 := ⟨m - 1, by omega⟩
        refine goY post m len n a (nI v) v1 v2 ?_
        exact br_t (nI_pos' (by omega)) (nm_r e6 (nm_r (nI_1 i) (hY post m len n a (by omega) H)))
/-- byte k of three -/
def pd_b3 (y k : Nat) : Nat := y / 2 ^ (16 - 8 * k) % 256
theorem pd_b3_lt (y k : Nat) : pd_b3 y k < 256 := Nat.mod_lt _ (by decide)
theorem pd_s16 : ∀ k, k < 3 → (((16 - 8 * nI k : Int32) &&& 31).toBitVec.smod 32).toNat = 16 - 8 * k := by decide +kernel
theorem pd_b3Y {y k : Nat} (hy : y < 2 ^ 24) (hk : k < 3) : (nI y >>> ((16 - 8 * nI k : Int32) &&& 31)) &&& 255 = nI (pd_b3 y k) := by
  have h2 : y / 2 ^ (16 - 8 * k) ≤ y := Nat.div_le_self _ _
  rw [pk_shrN (by omega) _ (16 - 8 * k) (pd_s16 k hk), pk_andN (by omega) 8 (by decide)]
  rfl
theorem pd_sl3 (L : List Nat) (g : Nat → Nat) : ((L ++ [g 0]) ++ [g 1]) ++ [g 2] = L ++ pd_sl g 0 3 := by simp [pd_sl]
theorem pd_sl_add (g : Nat → Nat) (p q : Nat) : pd_sl g 0 (p + q) = pd_sl g 0 p ++ pd_sl g p q := by
  induction q with
  | zero => simp [pd_sl]
  | succ q ih =>
    show pd_sl g 0 (p + q) ++ [g (0 + (p + q))] = pd_sl g 0 p ++ (pd_sl g p q ++ [g (p + q)])
    rw [ih, List.append_assoc, Nat.zero_add]
section
variable {len n : Int32} {w a : Nat → Int32} {t : Nat → Nat} {M O P : Nat → Int64} {L : List Nat}
theorem pd_y120 {post : Int32 → SY → Prop} {J : Int32 → Int32 → Int32 → (Nat → Int32) → (Nat → Int32) → (Nat → Int64) → (Nat → Int64) → (Nat → Int64) → Prop} {x1 x2 : Int32} {f wo y : Nat} (hy : y < 2 ^ 24) (hwo : wo ≤ 2) (hL : L.length < 1000) (H : ∀ a' n', pd_D 400 a' n' (L ++ pd_sl (pd_b3 y) 0 (3 - wo)) → J (nI (f + 4)) len n' w a' M O P) : ∀ (d k m : Nat) (a : Nat → Int32) (n : Int32), k + d = 3 - wo → d < m → pd_D 400 a n (L ++ pd_sl (pd_b3 y) 0 k) → wY_plain_120 post J x1 x2 (nI f) (nI wo) (nI y) m (nI k) len n w a M O P := by
  have ew : 3 - nI wo = nI (3 - wo) := pk_sub (a := 3) (by omega)
  intro d
  induction d with
  | zero =>
    intro k m a n hk hm hD
    obtain ⟨m, rfl⟩ : ∃ m', m = m' + 1 := ⟨m - 1, by omega⟩
    have e : k = 3 - wo := by omega
    subst e
    exact br_t (by rw [ew]; exact nI_le (Nat.le_refl _) (by omega)) (nm_r (nI_add f 4) (H a n hD))
  | succ d ih =>
    intro k m a n hk hm hD
    obtain ⟨m, rfl⟩ : ∃ m', m = m' + 1 := ⟨m - 1, by omega⟩
    refine br_f (by rw [ew]; exact nI_ge (by omega) (by omega)) ?_
    refine pd_yput (pd_b3 y k) (pd_b3Y hy (by omega)) hD (by rw [List.length_append, pd_sl_len]; omega) (fun a' n' hD' => ?_)
    refine nm_r (nI_1 k) (ih (k + 1) m a' n' (by omega) (by omega) ?_)
    rw [pd_sl, ← List.append_assoc, Nat.zero_add]
    exact hD'
theorem pd_179 {post : Int32 → SY → Prop} {x : Int32} {l : Nat} (hB : pd_By L) (hL : L.length ≤ 120) (hD : pd_D 400 a n L) (hit : pd_cr (fun i => L.getD i 0) L.length = x → pd_YK post (nI (L.length - 0)) t l M O P L 0) (miss : ¬ pd_cr (fun i => L.getD i 0) L.length = x → pd_YC post (-4) t l M O P) : ∀ d i m : Nat, i + d = L.length → d < m → wY_plain_179 post x (nI l) n (fun i => nI (t i)) a M O P m (pd_cr (fun i => L.getD i 0) i) (nI i) := by
  have en := hD.1
  subst en
  intro d
  induction d with
  | zero =>
    intro i m hi hm
    obtain ⟨m, rfl⟩ : ∃ m', m = m' + 1 := ⟨m - 1, by omega⟩
    have e : i = L.length := by omega
    subst e
    refine br_t (nI_le (Nat.le_refl _) (by omega)) (br_c (fun z => ?_) (fun z => ?_))
    · exact pd_YKb (by omega) (hit z) hD
    · exact miss z _ _
  | succ d ih =>
    intro i m hi hm
    obtain ⟨m, rfl⟩ : ∃ m', m = m' + 1 := ⟨m - 1, by omega⟩
    refine br_f (nI_ge (by omega) (by omega)) ⟨vp_in_nI (by omega) (by decide), ?_⟩
    rw [nI_clamp (by omega), hD.2 i (by omega) (by omega)]
    refine pd_ychk (pd_By_get hB i) (pd_cr24 (fun j _ => pd_By_get hB j)) ?_
    exact nm_r (nI_1 i) (ih (i + 1) m (by omega) (by omega))
end
theorem pd_plns {t : Nat → Nat} {M O P : Nat → Int64} {len e p : Nat} (ht : ∀ i, t i < 256) (hl : len ≤ 120) (he : e + 5 = len) (he4 : e % 4 = 0) (hp : p ≤ 2) (hpad : ∀ i, 4 - p ≤ i → i < 4 → 4 ≤ e → t (e - 4 + i) = 61) : ∀ (d f : Nat) (L Z : List Nat), e - f < d → f ≤ e → f % 4 = 0 → pd_By L → L.length ≤ f → (f < e → Z = []) → (f = e → Z.length = p) → ((∀ (post : Int32 → SX → Prop) (m : Nat) (a : Nat → Int32) (n : Int32), d ≤ m → pd_D 120 a n (L ++ Z) → pd_XC post (-4) t len M O P → wX_plain_56 post (nI e) (nI p) m (nI f) (nI len) n (fun i => nI (t i)) a M O P) ∧ (∀ (post : Int32 → SY → Prop) (m : Nat) (a : Nat → Int32) (n : Int32), d ≤ m → pd_D 400 a n L → pd_YC post (-4) t len M O P → wY_plain_81 post (nI e) (nI p) m (nI f) (nI len) n (fun i => nI (t i)) a M O P)) ∨ (∃ L' : List Nat, pd_By L' ∧ (∀ (post : Int32 → SX → Prop) (m : Nat) (a : Nat → Int32) (n : Int32), d ≤ m → pd_D 120 a n (L ++ Z) → pd_XK post (nI (L'.length - 0)) t len M O P L' 0 → wX_plain_56 post (nI e) (nI p) m (nI f) (nI len) n (fun i => nI (t i)) a M O P) ∧ (∀ (post : Int32 → SY → Prop) (m : Nat) (a : Nat → Int32) (n : Int32), d ≤ m → pd_D 400 a n L → pd_YK post (nI (L'.length - 0)) t len M O P L' 0 → wY_plain_81 post (nI e) (nI p) m (nI f) (nI len) n (fun i => nI (t i)) a M O P)) := by
  intro d
  induction d with
  | zero => intro f L Z h; exact absurd h (Nat.not_lt_zero _)
  | succ d ih =>
    intro f L Z hd hf hf4 hB hL hZ1 hZ2
    rcases Nat.lt_or_ge f e with z | z
    · have eZ := hZ1 z
      subst eZ
      rw [List.append_nil]
      obtain ⟨wo, hwo, hw1, hw2⟩ : ∃ wo, wo ≤ 2 ∧ (f + 4 = e → wo = p) ∧ (¬ f + 4 = e → wo = 0) := by
        by_cases y : f + 4 = e
        · exact ⟨p, hp, fun _ => rfl, fun x => absurd y x⟩
        · exact ⟨0, by omega, fun x => absurd x y, fun _ => rfl⟩
      have hpad' : ∀ i, 4 - wo ≤ i → i < 4 → t (f + i) = 61 := by
        intro i i1 i2
        by_cases y : f + 4 = e
        · rw [hw1 y] at i1
          have q := hpad i i1 i2 (by omega)
          rw [show e - 4 + i = f + i by omega] at q
          exact q
        · rw [hw2 y] at i1
          omega
      obtain ⟨r, hr, rX, rY⟩ := pd_fours (M := M) (O := O) (P := P) (f := f) (cn := 4 - wo) (wo := wo) ht (by omega) (by omega) hpad' 4 0 0 (by omega) (by decide)
      have e4 : nI f + 4 = nI (f + 4) := nI_add f 4
      have e4p : 4 - nI p = nI (4 - p) := pk_sub (a := 4) (by omega)
      have goX : ∀ (post : Int32 → SX → Prop) (m : Nat) (a : Nat → Int32) (n : Int32), wX_plain_77 post (wX_plain_56 post (nI e) (nI p) m) (nI e) (nI p) (nI f) (nI (4 - wo)) (nI f) (nI len) n (fun i => nI (t i)) a M O P → wX_plain_56 post (nI e) (nI p) (m + 1) (nI f) (nI len) n (fun i => nI (t i)) a M O P := by
        intro post m a n H
        refine br_f (nI_ge z (by omega)) (pk_le e (f + 4) (fun y => ?_) (fun y => ?_) rfl e4)
        · rw [hw1 (by omega)] at H
          rw [e4p]
          exact H
        · rw [hw2 (by omega)] at H
          exact H
      have goY : ∀ (post : Int32 → SY → Prop) (m : Nat) (a : Nat → Int32) (n : Int32), wY_plain_98 post (wY_plain_81 post (nI e) (nI p) m) (nI e) (nI p) (nI f) (nI wo) (nI len) n (fun i => nI (t i)) a M O P → wY_plain_81 post (nI e) (nI p) (m + 1) (nI f) (nI len) n (fun i => nI (t i)) a M O P := by
        intro post m a n H
        refine br_f (nI_ge z (by omega)) (pk_eq (f + 4) e (fun y => ?_) (fun y => ?_) e4 rfl)
        · rw [hw1 y] at H
          exact H
        · rw [hw2 y] at H
          exact H
      rcases hr with rfl | ⟨y, hy, rfl⟩
      · refine Or.inl ⟨?_, ?_⟩
        · intro post m a n hm hD H
          obtain ⟨m, rfl⟩ : ∃ m', m = m' + 1 := ⟨m - 1, by omega⟩
          refine goX post m a n ⟨5, rX _ 5 _ _ _ (by omega) ?_⟩
          exact br_f (by decide) (H a n)
        · intro post m a n hm hD H
          obtain ⟨m, rfl⟩ : ∃ m', m = m' + 1 := ⟨m - 1, by omega⟩
          refine goY post m a n ⟨5, rY _ 5 _ _ _ (by omega) ?_⟩
          exact br_f (by decide) (H a n)
      · have sX : ∀ (post : Int32 → SX → Prop) (m : Nat) (a : Nat → Int32) (n : Int32), pd_D 120 a n L → (∀ a' n', pd_D 120 a' n' ((L ++ pd_sl (pd_b3 y) 0 (3 - wo)) ++ pd_sl (pd_b3 y) (3 - wo) wo) → wX_plain_56 post (nI e) (nI p) m (nI (f + 4)) (nI len) n' (fun i => nI (t i)) a' M O P) → wX_plain_56 post (nI e) (nI p) (m + 1) (nI f) (nI len) n (fun i => nI (t i)) a M O P := by
          intro post m a n hD H
          refine goX post m a n ⟨5, rX _ 5 _ _ _ (by omega) ?_⟩
          refine br_t (nI_pos' (by omega)) ?_
          have v0 : nI y >>> ((16 : Int32) &&& 31) = nI (pd_b3 y 0) := by
            have q : nI y >>> ((16 : Int32) &&& 31) = nI (y / 2 ^ 16) := pk_shrN (by omega) _ 16 (by decide)
            rw [q]
            unfold pd_b3
            rw [show y / 2 ^ (16 - 8 * 0) % 256 = y / 2 ^ 16 by omega]
          have v1 : (nI y >>> ((8 : Int32) &&& 31)) &&& 255 = nI (pd_b3 y 1) := pd_b3Y hy (k := 1) (by omega)
          have v2 : nI y &&& 255 = nI (pd_b3 y 2) := by
            rw [pk_andN (by omega) 8 (by decide)]
            unfold pd_b3
            rw [show y / 2 ^ (16 - 8 * 2) % 256 = y % 2 ^ 8 by omega]
          refine pd_xput (pd_b3 y 0) v0 hD (by omega) (fun a1 n1 d1 => ?_)
          refine pd_xput (pd_b3 y 1) v1 d1 (by rw [pd_len1]; omega) (fun a2 n2 d2 => ?_)
          refine pd_xput (pd_b3 y 2) v2 d2 (by rw [pd_len1, pd_len1]; omega) (fun a3 n3 d3 => ?_)
          refine nm_r e4 (H a3 n3 ?_)
          have q := pd_sl_add (pd_b3 y) (3 - wo) wo
          rw [show 3 - wo + wo = 3 by omega] at q
          rw [List.append_assoc, ← q, ← pd_sl3]
          exact d3
        have sY : ∀ (post : Int32 → SY → Prop) (m : Nat) (a : Nat → Int32) (n : Int32), pd_D 400 a n L → (∀ a' n', pd_D 400 a' n' (L ++ pd_sl (pd_b3 y) 0 (3 - wo)) → wY_plain_81 post (nI e) (nI p) m (nI (f + 4)) (nI len) n' (fun i => nI (t i)) a' M O P) → wY_plain_81 post (nI e) (nI p) (m + 1) (nI f) (nI len) n (fun i => nI (t i)) a M O P := by
          intro post m a n hD H
          refine goY post m a n ⟨5, rY _ 5 _ _ _ (by omega) ?_⟩
          refine br_t (nI_pos' (by omega)) ⟨4, ?_⟩
          exact pd_y120 hy hwo (by omega) H (3 - wo) 0 4 a n (by omega) (by omega) (by rw [pd_sl, List.append_nil]; exact hD)
        rcases ih (f + 4) (L ++ pd_sl (pd_b3 y) 0 (3 - wo)) (pd_sl (pd_b3 y) (3 - wo) wo) (by omega) (by omega) (by omega) (pd_By_app hB (pd_sl_By (pd_b3_lt y) _ _)) (by rw [pd_app, pd_sl_len]; omega) (fun x => by rw [hw2 (by omega)]; rfl) (fun x => by rw [pd_sl_len]; exact hw1 x) with ⟨hX, hY⟩ | ⟨L', b1, hX, hY⟩
        · refine Or.inl ⟨?_, ?_⟩
          · intro post m a n hm hD H
            obtain ⟨m, rfl⟩ : ∃ m', m = m' + 1 := ⟨m - 1, by omega⟩
            exact sX post m a n hD (fun a' n' hD' => hX post m a' n' (by omega) hD' H)
          · intro post m a n hm hD H
            obtain ⟨m, rfl⟩ : ∃ m', m = m' + 1 := ⟨m - 1, by omega⟩
            exact sY post m a n hD (fun a' n' hD' => hY post m a' n' (by omega) hD' H)
        · refine Or.inr ⟨L', b1, ?_, ?_⟩
          · intro post m a n hm hD H
            obtain ⟨m, rfl⟩ : ∃ m', m = m' + 1 := ⟨m - 1, by omega⟩
            exact sX post m a n hD (fun a' n' hD' => hX post m a' n' (by omega) hD' H)
          · intro post m a n hm hD H
            obtain ⟨m, rfl⟩ : ∃ m', m = m' + 1 := ⟨m - 1, by omega⟩
            exact sY post m a n hD (fun a' n' hD' => hY post m a' n' (by omega) hD' H)
    · have ef : f = e := by omega
      subst ef
      have hZ := hZ2 rfl
      have e1 : nI f + 1 = nI (f + 1) := nI_1 f
      obtain ⟨r, hr, rX, rY⟩ := pd_fours (M := M) (O := O) (P := P) (f := f + 1) (cn := 4) (wo := 0) ht (by omega) (by omega) (fun i i1 i2 => absurd i2 (by omega)) 4 0 0 (by omega) (by decide)
      obtain ⟨y, hy, ey⟩ := pd_n24 (pd_cr24 (f := fun i => L.getD i 0) (n := L.length) (fun j _ => pd_By_get hB j))
      have goX : ∀ (post : Int32 → SX → Prop) (m : Nat) (a : Nat → Int32) (n : Int32), pd_D 120 a n (L ++ Z) → (pd_D 120 a (nI L.length) L → ((pd_cr (fun i => L.getD i 0) L.length = r → wpX_keepDraft post (nI len, nI L.length, (fun i => nI (t i)), a, M, O, P) 0) ∧ (¬ pd_cr (fun i => L.getD i 0) L.length = r → post (-4) (nI len, nI L.length, (fun i => nI (t i)), a, M, O, P)))) → wX_plain_56 post (nI f) (nI p) (m + 1) (nI f) (nI len) n (fun i => nI (t i)) a M O P := by
        intro post m a n hD H
        have dT := pd_D_take L.length hD (by rw [pd_app]; omega)
        rw [show (L ++ Z).take L.length = L by simp] at dT
        have en : n - nI p = nI L.length := by
          rw [hD.1, pd_app, hZ, pk_sub (by omega), Nat.add_sub_cancel]
        refine br_t (nI_le (Nat.le_refl _) (by omega)) (nm_r en ?_)
        rw [e1]
        refine ⟨5, rX _ 5 _ _ _ (by omega) ?_⟩
        refine pd_crcD L.length rfl (by omega) (fun i hi => dT.2 i hi (by omega)) ?_
        exact H dT
      have goY : ∀ (post : Int32 → SY → Prop) (m : Nat) (a : Nat → Int32) (n : Int32), pd_D 400 a n L → (¬ r = -1 → pd_cr (fun i => L.getD i 0) L.length = r → pd_YK post (nI (L.length - 0)) t len M O P L 0) → (¬ pd_cr (fun i => L.getD i 0) L.length = r → pd_YC post (-4) t len M O P) → wY_plain_81 post (nI f) (nI p) (m + 1) (nI f) (nI len) n (fun i => nI (t i)) a M O P := by
        intro post m a n hD hit miss
        refine br_t (nI_le (Nat.le_refl _) (by omega)) ?_
        rw [e1]
        refine ⟨5, rY _ 5 _ _ _ (by omega) ?_⟩
        rcases hr with rfl | ⟨q, hq, rfl⟩
        · refine br_f (by decide) (miss ?_ a n)
          rw [ey]
          intro x
          exact nI_pos (n := y) (by omega) (by rw [x]; decide)
        · refine br_t (nI_pos' (by omega)) ⟨L.length + 1, ?_⟩
          refine pd_179 hB (by omega) hD (fun x => hit ?_ x) miss L.length 0 (L.length + 1) (by omega) (by omega)
          intro x
          exact nI_pos (n := q) (by omega) (by rw [x]; decide)
      by_cases hc : pd_cr (fun i => L.getD i 0) L.length = r
      · refine Or.inr ⟨L, hB, ?_, ?_⟩
        · intro post m a n hm hD H
          obtain ⟨m, rfl⟩ : ∃ m', m = m' + 1 := ⟨m - 1, by omega⟩
          refine goX post m a n hD (fun dT => br_t hc ?_)
          exact pd_XKb (by omega) H dT
        · intro post m a n hm hD H
          obtain ⟨m, rfl⟩ : ∃ m', m = m' + 1 := ⟨m - 1, by omega⟩
          exact goY post m a n hD (fun _ _ => H) (fun x => absurd hc x)
      · refine Or.inl ⟨?_, ?_⟩
        · intro post m a n hm hD H
          obtain ⟨m, rfl⟩ : ∃ m', m = m' + 1 := ⟨m - 1, by omega⟩
          exact goX post m a n hD (fun dT => br_f hc (H _ _))
        · intro post m a n hm hD H
          obtain ⟨m, rfl⟩ : ∃ m', m = m' + 1 := ⟨m - 1, by omega⟩
          exact goY post m a n hD (fun _ x => absurd x hc) (fun _ => H)
theorem i_vc_plain {k : Nat} {u : SX} {v : SY} (I : i_Rel k u v) (hk : k + 5 ≤ 2560) : wpX_plain (fun r u' => wpY_plain (fun r' v' => r' = r ∧ i_Rel (k + 5) u' v') v) u := by
  have J := I
  obtain ⟨t, len, M, O, P, a, n, b, c, ht, hl, hK, rfl, rfl⟩ := I
  have n4 : ¬ (4 : Int32) = 0 := by decide
  rcases Nat.lt_or_ge len 5 with z | z
  · refine br_t (nI_lt (b := 5) z (by decide)) ?_
    exact nm_e (br_t (pk_sneg (b := 5) (by decide) z) ⟨rfl, J⟩)
  · obtain ⟨e, he⟩ : ∃ e, e + 5 = len := ⟨len - 5, by omega⟩
    have e5 : nI len - 5 = nI e := by
      have q := pk_sub (a := len) (b := 5) z
      rw [show len - 5 = e by omega] at q
      exact q
    have n5 : ¬ nI len < 5 := nI_nlt (b := 5) z (by omega)
    have er : nI e - nI e / 4 * 4 = nI (e % 4) := pk_rem (d := 4) (by omega) (by decide) (by decide)
    have pX : ∀ post : Int32 → SX → Prop, ((nI (e % 4) = 0 → ((nI (t e) = 61 → wpX_padsBefore (fun r_7 => ∃ n56 : Nat, wX_plain_56 post (nI e) r_7 n56 0 (nI len) 0 (fun i => nI (t i)) a M O P) (nI len, 0, (fun i => nI (t i)), a, M, O, P) (nI e)) ∧ (¬ nI (t e) = 61 → post (-4) (nI len, n, (fun i => nI (t i)), a, M, O, P)))) ∧ (¬ nI (e % 4) = 0 → post (-3) (nI len, n, (fun i => nI (t i)), a, M, O, P))) → wpX_plain post (nI len, n, (fun i => nI (t i)), a, M, O, P) := by
      intro post H
      refine br_f n5 ⟨n4, ?_⟩
      rw [e5, er]
      refine ⟨fun y => nm_e ⟨vp_in_nI (by omega) (by decide), ?_⟩, H.2⟩
      rw [nI_clamp (by omega)]
      exact H.1 y
    have pY : ∀ post : Int32 → SY → Prop, ((nI (e % 4) = 0 → ((nI (t e) = 61 → ((nI e ≤ 0 → (∃ n81 : Nat, wY_plain_81 post (nI e) 0 n81 0 (nI len) 0 (fun i => nI (t i)) b M O P)) ∧ (¬ nI e ≤ 0 → (vp_in (nI e - 1) 120 ∧ (((fun i => nI (t i)) (nI e - 1).toNatClampNeg = 61 → (vp_in (nI e - 2) 120 ∧ (((fun i => nI (t i)) (nI e - 2).toNatClampNeg = 61 → (∃ n81 : Nat, wY_plain_81 post (nI e) 2 n81 0 (nI len) 0 (fun i => nI (t i)) b M O P)) ∧ (¬ (fun i => nI (t i)) (nI e - 2).toNatClampNeg = 61 → (∃ n81 : Nat, wY_plain_81 post (nI e) 1 n81 0 (nI len) 0 (fun i => nI (t i)) b M O P))))) ∧ (¬ (fun i => nI (t i)) (nI e - 1).toNatClampNeg = 61 → (∃ n81 : Nat, wY_plain_81 post (nI e) 0 n81 0 (nI len) 0 (fun i => nI (t i)) b M O P))))))) ∧ (¬ nI (t e) = 61 → post (-4) (nI len, c, (fun i => nI (t i)), b, M, O, P)))) ∧ (¬ nI (e % 4) = 0 → post (-3) (nI len, c, (fun i => nI (t i)), b, M, O, P))) → wpY_plain post (nI len, c, (fun i => nI (t i)), b, M, O, P) := by
      intro post H
      refine nm_r e5 (br_f (nI_pos (by omega)) ⟨n4, ?_⟩)
      rw [er]
      refine ⟨fun y => ⟨vp_in_nI (by omega) (by decide), ?_⟩, H.2⟩
      have q := H.1 y
      rw [nI_clamp (n := e) (by omega)]
      exact q
    have hm4 : e % 4 < 4 := Nat.mod_lt _ (by decide)
    by_cases h4 : e % 4 = 0
    · have h4' : nI (e % 4) = 0 := by rw [h4]; rfl
      have hte := ht e
      by_cases h61 : t e = 61
      · have h61' : nI (t e) = 61 := by rw [h61]; rfl
        -- how many fill at the end
        have hx : ∃ p, p ≤ 2 ∧ (∀ i, 4 - p ≤ i → i < 4 → 4 ≤ e → t (e - 4 + i) = 61) ∧ (e = 0 → p = 0) ∧ (∀ post : Int32 → Prop, post (nI p) → wpX_padsBefore post (nI len, 0, (fun i => nI (t i)), a, M, O, P) (nI e)) ∧ (∀ post : Int32 → SY → Prop, (∃ n81 : Nat, wY_plain_81 post (nI e) (nI p) n81 0 (nI len) 0 (fun i => nI (t i)) b M O P) → wpY_plain post (nI len, c, (fun i => nI (t i)), b, M, O, P)) := by
          rcases Nat.eq_zero_or_pos e with y | y
          · refine ⟨0, by omega, fun i i1 i2 => absurd i2 (by omega), fun _ => rfl, ?_, ?_⟩
            · intro post H
              exact br_t (nI_lt (b := 4) (by omega) (by decide)) H
            · intro post H
              refine pY post (br_t h4' (br_t h61' (br_t ?_ H)))
              rw [y]
              decide
          · have e1 : nI e - 1 = nI (e - 1) := pk_sub (b := 1) (by omega)
            have e2 : nI e - 2 = nI (e - 2) := pk_sub (b := 2) (by omega)
            have v1 : vp_in (nI e - 1) 120 := by rw [e1]; exact vp_in_nI (by omega) (by decide)
            have v2 : vp_in (nI e - 2) 120 := by rw [e2]; exact vp_in_nI (by omega) (by decide)
            have np : ¬ nI e ≤ 0 := nI_nle y (by omega)
            have n4e : ¬ nI e < 4 := nI_nlt (b := 4) (by omega) (by omega)
            have w1 : ((fun i => nI (t i)) (nI e - 1).toNatClampNeg) = 61 ↔ t (e - 1) = 61 := by
              have q := ht (e - 1)
              rw [e1, nI_clamp (by omega)]
              exact nI_eq (b := 61) (by omega) (by decide)
            have w2 : ((fun i => nI (t i)) (nI e - 2).toNatClampNeg) = 61 ↔ t (e - 2) = 61 := by
              have q := ht (e - 2)
              rw [e2, nI_clamp (by omega)]
              exact nI_eq (b := 61) (by omega) (by decide)
            by_cases x1 : t (e - 1) = 61
            · by_cases x2 : t (e - 2) = 61
              · refine ⟨2, by omega, ?_, fun q => absurd q (by omega), ?_, ?_⟩
                · intro i i1 i2 i3
                  have : i = 2 ∨ i = 3 := by omega
                  rcases this with rfl | rfl
                  · rw [show e - 4 + 2 = e - 2 by omega]; exact x2
                  · rw [show e - 4 + 3 = e - 1 by omega]; exact x1
                · intro post H
                  exact br_f n4e ⟨v1, br_t (w1.mpr x1) ⟨v2, br_t (w2.mpr x2) H⟩⟩
                · intro post H
                  exact pY post (br_t h4' (br_t h61' (br_f np ⟨v1, br_t (w1.mpr x1) ⟨v2, br_t (w2.mpr x2) H⟩⟩)))
              · refine ⟨1, by omega, ?_, fun q => absurd q (by omega), ?_, ?_⟩
                · intro i i1 i2 i3
                  rw [show e - 4 + i = e - 1 by omega]
                  exact x1
                · intro post H
                  exact br_f n4e ⟨v1, br_t (w1.mpr x1) ⟨v2, br_f (fun q => x2 (w2.mp q)) H⟩⟩
                · intro post H
                  exact pY post (br_t h4' (br_t h61' (br_f np ⟨v1, br_t (w1.mpr x1) ⟨v2, br_f (fun q => x2 (w2.mp q)) H⟩⟩)))
            · refine ⟨0, by omega, fun i i1 i2 => absurd i2 (by omega), fun _ => rfl, ?_, ?_⟩
              · intro post H
                exact br_f n4e ⟨v1, br_f (fun q => x1 (w1.mp q)) H⟩
              · intro post H
                exact pY post (br_t h4' (br_t h61' (br_f np ⟨v1, br_f (fun q => x1 (w1.mp q)) H⟩)))
        obtain ⟨p, hp, hpad, hp0, gX, gY⟩ := hx
        rcases pd_plns (M := M) (O := O) (P := P) ht hl he h4 hp hpad (e + 1) 0 [] [] (by omega) (by omega) (by omega) pd_By_nil (by simp) (fun _ => rfl) (fun q => (hp0 q.symm).symm) with ⟨hX, hY⟩ | ⟨L', b1, hX, hY⟩
        · refine pd_finC (k + 5) (r := -4) ht hl hK (fun post => wpX_plain post (nI len, n, (fun i => nI (t i)), a, M, O, P)) (fun post => wpY_plain post (nI len, c, (fun i => nI (t i)), b, M, O, P)) ?_ ?_
          · intro post H
            refine pX post (br_t h4' (br_t h61' ?_))
            refine gX _ ?_
            exact ⟨e + 1, hX post (e + 1) a 0 (by omega) (pd_D_nil 120 a) H⟩
          · intro post H
            refine gY post ?_
            exact ⟨e + 1, hY post (e + 1) b 0 (by omega) (pd_D_nil 400 b) H⟩
        · refine pd_fin (k + 5) (r := nI (L'.length - 0)) (L := L') (f := 0) ht hl hK b1 (fun post => wpX_plain post (nI len, n, (fun i => nI (t i)), a, M, O, P)) (fun post => wpY_plain post (nI len, c, (fun i => nI (t i)), b, M, O, P)) ?_ ?_
          · intro post H
            refine pX post (br_t h4' (br_t h61' ?_))
            refine gX _ ?_
            exact ⟨e + 1, hX post (e + 1) a 0 (by omega) (pd_D_nil 120 a) H⟩
          · intro post H
            refine gY post ?_
            exact ⟨e + 1, hY post (e + 1) b 0 (by omega) (pd_D_nil 400 b) H⟩
      · have n61 : ¬ nI (t e) = 61 := fun q => h61 ((nI_eq (b := 61) (by omega) (by decide)).mp q)
        exact pX _ (br_t h4' (br_f n61 (pY _ (br_t h4' (br_f n61 ⟨rfl, J⟩)))))
    · have n0 : ¬ nI (e % 4) = 0 := fun q => h4 ((nI_eq (b := 0) (by omega) (by decide)).mp q)
      exact pX _ (br_f n0 (pY _ (br_f n0 ⟨rfl, J⟩)))
