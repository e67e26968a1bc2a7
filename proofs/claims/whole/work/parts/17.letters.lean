/-! letters and the checksum, as they walk; letters -/
section
variable {len n : Int32} {w a : Nat → Int32} {t : Nat → Nat} {M O P : Nat → Int64} {L : List Nat}
theorem pd_crcW25 {post : Int32 → Prop} {J : Int32 → Int32 → Prop} {x2 x4 : Int32} : ∀ (d b m : Nat) (x : Int32), b + d = 8 → d < m → (∀ y, y = x4 + 1 → J (pd_x8 d x) y) → wX_crcOf__work_25 post J x2 x4 len n w a M O P m x (nI b) := by
  intro d
  induction d with
  | zero =>
    intro b m x hb hm H
    obtain ⟨m, rfl⟩ : ∃ m', m = m' + 1 := ⟨m - 1, by omega⟩
    have e : b = 8 := by omega
    subst e
    exact br_t (by decide) H
  | succ d ih =>
    intro b m x hb hm H
    obtain ⟨m, rfl⟩ : ∃ m', m = m' + 1 := ⟨m - 1, by omega⟩
    have e : pd_x8 (d + 1) x = pd_x8 d (pd_xs x) := rfl
    rw [e] at H
    refine br_f (nI_ge (b := 8) (by omega) (by decide)) (nm_e ?_)
    by_cases z : (x <<< ((1 : Int32) &&& 31)) &&& 16777216 = 0
    · have q : pd_xs x = x <<< ((1 : Int32) &&& 31) := if_pos z
      rw [q] at H
      exact br_t z (nm_r (nI_1 b) (ih (b + 1) m _ (by omega) (by omega) H))
    · have q : pd_xs x = (x <<< ((1 : Int32) &&& 31)) ^^^ 25578747 := if_neg z
      rw [q] at H
      exact br_f z (nm_e (nm_r (nI_1 b) (ih (b + 1) m _ (by omega) (by omega) H)))
theorem pd_crcW6 {post : Int32 → Prop} {g : Nat → Nat} {c : Nat} (hc : c ≤ 120) (hg : ∀ i, i < c → w i = nI (g i)) (H : post (pd_cr g c)) : ∀ d i m : Nat, i + d = c → d < m → wX_crcOf__work_6 post (nI c) len n w a M O P m (pd_cr g i) (nI i) := by
  intro d
  induction d with
  | zero =>
    intro i m hi hm
    obtain ⟨m, rfl⟩ : ∃ m', m = m' + 1 := ⟨m - 1, by omega⟩
    have e : i = c := by omega
    subst e
    exact br_t (nI_le (Nat.le_refl _) (by omega)) H
  | succ d ih =>
    intro i m hi hm
    obtain ⟨m, rfl⟩ : ∃ m', m = m' + 1 := ⟨m - 1, by omega⟩
    refine br_f (nI_ge (by omega) (by omega)) ⟨vp_in_nI (by omega) (by decide), nm_r (e' := pd_cr g i ^^^ (nI (g i) <<< ((16 : Int32) &&& 31))) ?_ ⟨9, ?_⟩⟩
    · rw [nI_clamp (by omega), hg i (by omega)]
    · refine pd_crcW25 8 0 9 _ (by omega) (by omega) (fun y hy => ?_)
      rw [hy, nI_1]
      exact ih (i + 1) m (by omega) (by omega)
theorem pd_crcW {post : Int32 → Prop} {x : Int32} {g : Nat → Nat} (c : Nat) (hx : x = nI c) (hc : c ≤ 120) (hg : ∀ i, i < c → w i = nI (g i)) (H : post (pd_cr g c)) : wpX_crcOf__work post (len, n, w, a, M, O, P) x := by
  subst hx
  exact ⟨c + 1, pd_crcW6 hc hg H c 0 (c + 1) (by omega) (by omega)⟩
theorem pd_crcD25 {post : Int32 → Prop} {J : Int32 → Int32 → Prop} {x2 x4 : Int32} : ∀ (d b m : Nat) (x : Int32), b + d = 8 → d < m → (∀ y, y = x4 + 1 → J (pd_x8 d x) y) → wX_crcOf__draft_25 post J x2 x4 len n w a M O P m x (nI b) := by
  intro d
  induction d with
  | zero =>
    intro b m x hb hm H
    obtain ⟨m, rfl⟩ : ∃ m', m = m' + 1 := ⟨m - 1, by omega⟩
    have e : b = 8 := by omega
    subst e
    exact br_t (by decide) H
  | succ d ih =>
    intro b m x hb hm H
    obtain ⟨m, rfl⟩ : ∃ m', m = m' + 1 := ⟨m - 1, by omega⟩
    have e : pd_x8 (d + 1) x = pd_x8 d (pd_xs x) := rfl
    rw [e] at H
    refine br_f (nI_ge (b := 8) (by omega) (by decide)) (nm_e ?_)
    by_cases z : (x <<< ((1 : Int32) &&& 31)) &&& 16777216 = 0
    · have q : pd_xs x = x <<< ((1 : Int32) &&& 31) := if_pos z
      rw [q] at H
      exact br_t z (nm_r (nI_1 b) (ih (b + 1) m _ (by omega) (by omega) H))
    · have q : pd_xs x = (x <<< ((1 : Int32) &&& 31)) ^^^ 25578747 := if_neg z
      rw [q] at H
      exact br_f z (nm_e (nm_r (nI_1 b) (ih (b + 1) m _ (by omega) (by omega) H)))
theorem pd_crcD6 {post : Int32 → Prop} {g : Nat → Nat} {c : Nat} (hc : c ≤ 120) (hg : ∀ i, i < c → a i = nI (g i)) (H : post (pd_cr g c)) : ∀ d i m : Nat, i + d = c → d < m → wX_crcOf__draft_6 post (nI c) len n w a M O P m (pd_cr g i) (nI i) := by
  intro d
  induction d with
  | zero =>
    intro i m hi hm
    obtain ⟨m, rfl⟩ : ∃ m', m = m' + 1 := ⟨m - 1, by omega⟩
    have e : i = c := by omega
    subst e
    exact br_t (nI_le (Nat.le_refl _) (by omega)) H
  | succ d ih =>
    intro i m hi hm
    obtain ⟨m, rfl⟩ : ∃ m', m = m' + 1 := ⟨m - 1, by omega⟩
    refine br_f (nI_ge (by omega) (by omega)) ⟨vp_in_nI (by omega) (by decide), nm_r (e' := pd_cr g i ^^^ (nI (g i) <<< ((16 : Int32) &&& 31))) ?_ ⟨9, ?_⟩⟩
    · rw [nI_clamp (by omega), hg i (by omega)]
    · refine pd_crcD25 8 0 9 _ (by omega) (by omega) (fun y hy => ?_)
      rw [hy, nI_1]
      exact ih (i + 1) m (by omega) (by omega)
theorem pd_crcD {post : Int32 → Prop} {x : Int32} {g : Nat → Nat} (c : Nat) (hx : x = nI c) (hc : c ≤ 120) (hg : ∀ i, i < c → a i = nI (g i)) (H : post (pd_cr g c)) : wpX_crcOf__draft post (len, n, w, a, M, O, P) x := by
  subst hx
  exact ⟨c + 1, pd_crcD6 hc hg H c 0 (c + 1) (by omega) (by omega)⟩
theorem pd_ychkL {post : Int32 → Prop} {b : Int32} : ∀ (k m : Nat) (c x : Int32), k < m → k ≤ 8 → x = nI k + (-1) → post (pd_y8 b k c) → wY_checked_5 post b m c x := by
  intro k
  induction k with
  | zero =>
    intro m c x hm hk hx H
    obtain ⟨m, rfl⟩ : ∃ m', m = m' + 1 := ⟨m - 1, by omega⟩
    subst hx
    exact br_t (by decide) H
  | succ k ih =>
    intro m c x hm hk hx H
    obtain ⟨m, rfl⟩ : ∃ m', m = m' + 1 := ⟨m - 1, by omega⟩
    rw [pk_m1] at hx
    subst hx
    have e : pd_y8 b (k + 1) c = pd_y8 b k (pd_yc c b k) := rfl
    rw [e] at H
    refine br_f (nI_pos (by omega)) (nm_e (nm_e ?_))
    by_cases z : pd_yt c b k = 0
    · have q : pd_yc c b k = (c <<< ((1 : Int32) &&& 31)) &&& 16777215 := if_pos z
      rw [q] at H
      exact br_t z (nm_e (ih m _ _ (by omega) (by omega) rfl H))
    · have q : pd_yc c b k = ((c <<< ((1 : Int32) &&& 31)) &&& 16777215) ^^^ 8801531 := if_neg z
      rw [q] at H
      exact br_f z (nm_e (nm_e (ih m _ _ (by omega) (by omega) rfl H)))
theorem pd_ychk {post : Int32 → Prop} {c : Int32} {b : Nat} (hb : b < 256) (hc : ∀ i, 24 ≤ i → bt c i = false) (H : post (pd_cb c b)) : wpY_checked post c (nI b) := by
  refine ⟨9, pd_ychkL 8 9 c 7 (by omega) (by omega) (by decide) ?_⟩
  rw [(pd_cbY hb hc).1]
  exact H
theorem pd_let_1 {v : Nat} (h : v < 26) : pd_let v = 65 + v := if_pos h
theorem pd_let_2 {v : Nat} (h : ¬ v < 26) (h2 : v < 52) : pd_let v = 71 + v := (if_neg h).trans (if_pos h2)
theorem pd_let_3 {v : Nat} (h : ¬ v < 52) (h2 : v < 62) : pd_let v = v - 4 := (if_neg (by omega)).trans ((if_neg h).trans (if_pos h2))
theorem pd_let_4 : pd_let 62 = 43 := by decide
theorem pd_let_5 : pd_let 63 = 47 := by decide
theorem pd_e65 (v : Nat) : 65 + nI v = nI (65 + v) := nI_add 65 v
theorem pd_e97 (v : Nat) : (97 + nI v) - 26 = nI (71 + v) := by
  have e : (97 : Int32) + nI v = nI (97 + v) := nI_add 97 v
  rw [e, show 71 + v = 97 + v - 26 by omega]
  exact pk_sub (b := 26) (by omega)
theorem pd_e48 {v : Nat} (h : 52 ≤ v) : (48 + nI v) - 52 = nI (v - 4) := by
  have e : (48 : Int32) + nI v = nI (48 + v) := nI_add 48 v
  rw [e, show v - 4 = 48 + v - 52 by omega]
  exact pk_sub (b := 52) (by omega)
theorem pd_xlet {post : Int32 → Prop} {v : Nat} (hv : v < 64) (H : post (nI (pd_let v))) : wpX_letterOf post (len, n, w, a, M, O, P) (nI v) := by
  refine pk_le 26 v (fun h1 => pk_le 52 v (fun h2 => pk_le 62 v (fun h3 => pk_eq v 62 (fun h4 => ?_) (fun h4 => ?_)) (fun h3 => ?_)) (fun h2 => ?_)) (fun h1 => ?_)
  · subst h4
    rw [pd_let_4] at H
    exact H
  · rw [show v = 63 by omega, pd_let_5] at H
    exact H
  · rw [pd_e48 h2, ← pd_let_3 (by omega) h3]
    exact H
  · rw [pd_e97, ← pd_let_2 (by omega) h2]
    exact H
  · rw [pd_e65, ← pd_let_1 h1]
    exact H
theorem pd_ylet {post : Int32 → Prop} {v : Nat} (hv : v < 64) (H : post (nI (pd_let v))) : wpY_letter post (nI v) := by
  refine pk_le 26 v (fun h1 => pk_le 52 v (fun h2 => pk_le 62 v (fun h3 => pk_eq v 62 (fun h4 => ?_) (fun h4 => ?_)) (fun h3 => ?_)) (fun h2 => ?_)) (fun h1 => ?_)
  · subst h4
    rw [pd_let_4] at H
    exact H
  · rw [show v = 63 by omega, pd_let_5] at H
    exact H
  · rw [pd_e48 h2, ← pd_let_3 (by omega) h3]
    exact H
  · rw [pd_e97, ← pd_let_2 (by omega) h2]
    exact H
  · rw [pd_e65, ← pd_let_1 h1]
    exact H
/-- six bits of a word: those of letter i -/
def pd_sx (b : Int32) (i : Nat) : Nat := (b >>> ((18 - 6 * nI i : Int32) &&& 31)).toBitVec.toNat % 2 ^ 6
theorem pd_sx_lt (b : Int32) (i : Nat) : pd_sx b i < 64 := Nat.mod_lt _ (by decide)
theorem pd_sx_e (b : Int32) (i : Nat) : (b >>> ((18 - 6 * nI i : Int32) &&& 31)) &&& 63 = nI (pd_sx b i) := pk_and _ 6 (by decide)
/-- letter i of a word of which c letters count -/
def pd_g (b : Int32) (c i : Nat) : Nat := if i < c then pd_let (pd_sx b i) else 61
theorem pd_g_lt (b : Int32) (c i : Nat) : pd_g b c i < 256 := by
  unfold pd_g
  split
  · exact pd_let_lt _ (pd_sx_lt _ _)
  · omega
theorem pd_xplL {post : SX → Prop} {b : Int32} {c : Nat} (hc : c ≤ 4) (hL : L.length < 50000) (H : ∀ a' n', pd_D 120 a' n' (L ++ pd_sl (pd_g b c) 0 4) → post (len, n', w, a', M, O, P)) : ∀ (d i m : Nat) (a : Nat → Int32) (n : Int32), i + d = 4 → d < m → pd_D 120 a n (L ++ pd_sl (pd_g b c) 0 i) → wX_putLetters_2 post b (nI c) m (nI i) len n w a M O P := by
  intro d
  induction d with
  | zero =>
    intro i m a n hi hm hD
    obtain ⟨m, rfl⟩ : ∃ m', m = m' + 1 := ⟨m - 1, by omega⟩
    have e : i = 4 := by omega
    subst e
    exact br_t (by decide) (H a n hD)
  | succ d ih =>
    intro i m a n hi hm hD
    obtain ⟨m, rfl⟩ : ∃ m', m = m' + 1 := ⟨m - 1, by omega⟩
    refine br_f (nI_ge (b := 4) (by omega) (by decide)) ?_
    rw [pd_sx_e]
    refine pd_xlet (pd_sx_lt b i) ?_
    have fin : ∀ z, z = nI (pd_g b c i) → wX_putLetters_38 post (wX_putLetters_2 post b (nI c) m) b (nI c) (nI i) z len n w a M O P := by
      intro z hz
      unfold wX_putLetters_38
      refine pd_xput (pd_g b c i) hz hD (by rw [List.length_append, pd_sl_len]; omega) (fun a' n' hD' => ?_)
      refine nm_r (nI_1 i) (ih (i + 1) m a' n' (by omega) (by omega) ?_)
      rw [pd_sl, ← List.append_assoc, Nat.zero_add]
      exact hD'
    refine pk_le c i (fun z => fin _ ?_) (fun z => fin _ ?_)
    · unfold pd_g
      rw [if_neg (by omega)]
      rfl
    · unfold pd_g
      rw [if_pos z]
theorem pd_xpl {post : SX → Prop} {b x : Int32} (c : Nat) (hx : x = nI c) (hc : c ≤ 4) (hD : pd_D 120 a n L) (hL : L.length < 50000) (H : ∀ a' n', pd_D 120 a' n' (L ++ pd_sl (pd_g b c) 0 4) → post (len, n', w, a', M, O, P)) : wpX_putLetters post (len, n, w, a, M, O, P) b x := by
  subst hx
  exact ⟨5, pd_xplL hc hL H 4 0 5 a n (by omega) (by omega) (by rw [pd_sl, List.append_nil]; exact hD)⟩
theorem pd_ypl {post : SY → Prop} {x : Int32} (v : Nat) (hv : v < 64) (hx : x &&& 63 = nI v) (hD : pd_D 400 a n L) (hL : L.length < 50000) (H : ∀ a' n', pd_D 400 a' n' (L ++ [pd_let v]) → post (len, n', w, a', M, O, P)) : wpY_putLetter post (len, n, w, a, M, O, P) x := by
  unfold wpY_putLetter
  dsimp only
  rw [hx]
  refine pd_ylet hv ?_
  refine pd_yputb (pd_let v) rfl (pd_let_lt v hv) hD (by omega) (fun a' n' hD' => ?_)
  exact H a' n' hD'
theorem pd_sl4 (L : List Nat) (g : Nat → Nat) : (((L ++ [g 0]) ++ [g 1]) ++ [g 2]) ++ [g 3] = L ++ pd_sl g 0 4 := by simp [pd_sl]
theorem pd_shr0 (x : Int32) : x >>> ((0 : Int32) &&& 31) = x := by
  apply b_ext
  intro i hi
  have e := b_sshr 0 (by omega) x hi
  refine e.trans ?_
  rw [Nat.zero_add, if_pos hi]
theorem pd_186 {post : Int32 → SY → Prop} {c : Int32} {l : Nat} (hL : L.length < 1000) (hD : pd_D 400 a n L) (H : pd_YK post (nI ((L ++ pd_sl (pd_g c 4) 0 4).length - 0)) t l M O P (L ++ pd_sl (pd_g c 4) 0 4) 0) : ∃ m, wY_letters_186 post c m 18 (nI l) n (fun i => nI (t i)) a M O P := by
  have g0 : ∀ i, i < 4 → pd_let (pd_sx c i) = pd_g c 4 i := fun i hi => (if_pos hi).symm
  refine ⟨5, br_f (by decide) ?_⟩
  refine pd_ypl (pd_sx c 0) (pd_sx_lt _ _) (pd_sx_e c 0) hD (by omega) (fun a1 n1 d1 => ?_)
  refine nm_r (e' := 12) (by decide) (br_f (by decide) ?_)
  refine pd_ypl (pd_sx c 1) (pd_sx_lt _ _) (pd_sx_e c 1) d1 (by rw [pd_len1]; omega) (fun a2 n2 d2 => ?_)
  refine nm_r (e' := 6) (by decide) (br_f (by decide) ?_)
  refine pd_ypl (pd_sx c 2) (pd_sx_lt _ _) (pd_sx_e c 2) d2 (by rw [pd_len1, pd_len1]; omega) (fun a3 n3 d3 => ?_)
  refine nm_r (e' := 0) (by decide) (br_f (by decide) ?_)
  refine pd_ypl (pd_sx c 3) (pd_sx_lt _ _) (pd_sx_e c 3) d3 (by rw [pd_len1, pd_len1, pd_len1]; omega) (fun a4 n4 d4 => ?_)
  refine nm_r (e' := -6) (by decide) (br_t (by decide) ?_)
  rw [g0 0 (by omega), g0 1 (by omega), g0 2 (by omega), g0 3 (by omega), pd_sl4] at d4
  exact pd_YKb (by rw [List.length_append, pd_sl_len]; omega) H d4
theorem pd_152 {post : Int32 → SY → Prop} {l : Nat} (ht : ∀ i, t i < 256) (hl : l ≤ 120) (hL : L.length < 900) (hD : pd_D 400 a n L) (H : pd_YK post (nI (((L ++ [61]) ++ pd_sl (pd_g (pd_cr t l) 4) 0 4).length - 0)) t l M O P ((L ++ [61]) ++ pd_sl (pd_g (pd_cr t l) 4) 0 4) 0) : ∀ d i m : Nat, i + d = l → d < m → wY_letters_152 post (nI l) n (fun i => nI (t i)) a M O P m (pd_cr t i) (nI i) := by
  intro d
  induction d with
  | zero =>
    intro i m hi hm
    obtain ⟨m, rfl⟩ : ∃ m', m = m' + 1 := ⟨m - 1, by omega⟩
    have e : i = l := by omega
    subst e
    refine br_t (nI_le (Nat.le_refl _) (by omega)) ?_
    refine pd_yputb 61 rfl (by decide) hD (by omega) (fun a' n' hD' => ?_)
    exact pd_186 (by rw [pd_len1]; omega) hD' H
  | succ d ih =>
    intro i m hi hm
    obtain ⟨m, rfl⟩ : ∃ m', m = m' + 1 := ⟨m - 1, by omega⟩
    refine br_f (nI_ge (by omega) (by omega)) ⟨vp_in_nI (by omega) (by decide), ?_⟩
    rw [nI_clamp (by omega)]
    refine pd_ychk (ht i) (pd_cr24 (fun j _ => ht j)) ?_
    exact nm_r (nI_1 i) (ih (i + 1) m (by omega) (by omega))
end
theorem pd_lets {t : Nat → Nat} {M O P : Nat → Int64} {len : Nat} (ht : ∀ i, t i < 256) (hl : len ≤ 120) : ∀ (d f : Nat) (L : List Nat), len - f < d → f ≤ len + 2 → pd_By L → L.length ≤ 2 * f → ∃ L' : List Nat, pd_By L' ∧ L'.length < 1000 ∧ (∀ (post : Int32 → SX → Prop) (m : Nat) (a : Nat → Int32) (n : Int32), d ≤ m → pd_D 120 a n L → pd_XK post (nI (L'.length - 0)) t len M O P L' 0 → wX_letters_7 post m (nI f) (nI len) n (fun i => nI (t i)) a M O P) ∧ (∀ (post : Int32 → SY → Prop) (m : Nat) (a : Nat → Int32) (n : Int32), d ≤ m → pd_D 400 a n L → pd_YK post (nI (L'.length - 0)) t len M O P L' 0 → wY_letters_7 post m (nI f) (nI len) n (fun i => nI (t i)) a M O P) := by
  intro d
  induction d with
  | zero => intro f L h; exact absurd h (Nat.not_lt_zero _)
  | succ d ih =>
    intro f L hd hf hB hL
    rcases Nat.lt_or_ge f len with z | z
    · -- the bits and how many letters they make
      obtain ⟨b1, b2, c, hb1, hb2, hc, hc4⟩ : ∃ (b1 b2 : Int32) (c : Nat), ((f + 1 < len ∧ b1 = nI (t (f + 1)) <<< ((8 : Int32) &&& 31)) ∨ (len ≤ f + 1 ∧ b1 = 0)) ∧ ((f + 2 < len ∧ b2 = nI (t (f + 2))) ∨ (len ≤ f + 2 ∧ b2 = 0)) ∧ ((f + 2 < len ∧ c = 4) ∨ (len ≤ f + 2 ∧ c = len - f + 1)) ∧ 2 ≤ c ∧ c ≤ 4 := by
        rcases Nat.lt_or_ge (f + 2) len with y | y
        · exact ⟨_, _, 4, Or.inl ⟨by omega, rfl⟩, Or.inl ⟨y, rfl⟩, Or.inl ⟨y, rfl⟩, by omega, by omega⟩
        · rcases Nat.lt_or_ge (f + 1) len with x | x
          · exact ⟨_, _, len - f + 1, Or.inl ⟨x, rfl⟩, Or.inr ⟨y, rfl⟩, Or.inr ⟨y, rfl⟩, by omega, by omega⟩
          · exact ⟨_, _, len - f + 1, Or.inr ⟨x, rfl⟩, Or.inr ⟨y, rfl⟩, Or.inr ⟨y, rfl⟩, by omega, by omega⟩
      obtain ⟨B, hBe⟩ : ∃ B, B = ((nI (t f) <<< ((16 : Int32) &&& 31)) ||| b1) ||| b2 := ⟨_, rfl⟩
      obtain ⟨L', p1, p2, hX, hY⟩ := ih (f + 3) (L ++ pd_sl (pd_g B c) 0 4) (by omega) (by omega) (pd_By_app hB (pd_sl_By (pd_g_lt B c) _ _)) (by rw [pd_app, pd_sl_len]; omega)
      have e1 : nI f + 1 = nI (f + 1) := nI_1 f
      have e2 : nI f + 2 = nI (f + 2) := nI_add f 2
      have e3 : nI f + 3 = nI (f + 3) := nI_add f 3
      have ed : nI len - nI f = nI (len - f) := pk_sub (by omega)
      refine ⟨L', p1, p2, ?_, ?_⟩
      · intro post m a n hm hD H
        obtain ⟨m, rfl⟩ : ∃ m', m = m' + 1 := ⟨m - 1, by omega⟩
        have f89 : wX_letters_89 post (wX_letters_7 post m) (nI f) (nI c) B (nI len) n (fun i => nI (t i)) a M O P := by
          unfold wX_letters_89
          refine pd_xpl c rfl hc4.2 hD (by omega) (fun a' n' hD' => ?_)
          exact nm_r e3 (hX post m a' n' (by omega) hD' H)
        have f73 : wX_letters_73 post (wX_letters_7 post m) (nI f) (nI (len - f)) b2 ((nI (t f) <<< ((16 : Int32) &&& 31)) ||| b1) (nI len) n (fun i => nI (t i)) a M O P := by
          refine nm_r hBe.symm (pk_le (len - f) 2 (fun y => ?_) (fun y => ?_))
          · rcases hc with ⟨x, _⟩ | ⟨_, x⟩
            · omega
            · rw [nI_1, ← x]
              exact f89
          · rcases hc with ⟨_, x⟩ | ⟨x, _⟩
            · rw [x] at f89
              exact f89
            · omega
        have f53 : wX_letters_53 post (wX_letters_7 post m) (nI f) (nI (len - f)) b1 (nI (t f) <<< ((16 : Int32) &&& 31)) (nI len) n (fun i => nI (t i)) a M O P := by
          refine nm_e (pk_le (len - f) 2 (fun y => ?_) (fun y => ⟨by rw [e2]; exact vp_in_nI (by omega) (by decide), ?_⟩))
          · rcases hb2 with ⟨x, _⟩ | ⟨_, x⟩
            · omega
            · rw [x] at f73
              exact f73
          · rcases hb2 with ⟨_, x⟩ | ⟨x, _⟩
            · rw [e2, nI_clamp (by omega)]
              rw [x] at f73
              exact f73
            · omega
        refine br_f (nI_ge z (by omega)) (nm_r ed ⟨vp_in_nI (by omega) (by decide), nm_r (e' := nI (t f) <<< ((16 : Int32) &&& 31)) (by rw [nI_clamp (by omega)]) (pk_le (len - f) 1 (fun y => ?_) (fun y => ⟨by rw [e1]; exact vp_in_nI (by omega) (by decide), ?_⟩))⟩)
        · rcases hb1 with ⟨x, _⟩ | ⟨_, x⟩
          · omega
          · rw [x] at f53
            exact f53
        · rcases hb1 with ⟨_, x⟩ | ⟨x, _⟩
          · rw [e1, nI_clamp (by omega)]
            rw [x] at f53
            exact f53
          · omega
      · intro post m a n hm hD H
        obtain ⟨m, rfl⟩ : ∃ m', m = m' + 1 := ⟨m - 1, by omega⟩
        have gi : ∀ i, i < c → pd_let (pd_sx B i) = pd_g B c i := fun i hi => (if_pos hi).symm
        have gn : ∀ i, ¬ i < c → 61 = pd_g B c i := fun i hi => (if_neg hi).symm
        have s3 : B &&& 63 = nI (pd_sx B 3) := by
          have q := pd_sx_e B 3
          rw [show ((18 - 6 * nI 3 : Int32) &&& 31) = ((0 : Int32) &&& 31) by decide, pd_shr0] at q
          exact q
        have f117 : ∀ (D : List Nat) a1 n1, D.length < 600 → D ++ [pd_g B c 3] = L ++ pd_sl (pd_g B c) 0 4 → pd_D 400 a1 n1 D → wY_letters_117 post (wY_letters_7 post m) (nI f) B (nI len) n1 (fun i => nI (t i)) a1 M O P := by
          intro D a1 n1 hDl eD hD1
          have fin : ∀ a2 n2, pd_D 400 a2 n2 (D ++ [pd_g B c 3]) → ∀ y, y = nI f + 3 → wY_letters_7 post m y (nI len) n2 (fun i => nI (t i)) a2 M O P := by
            intro a2 n2 d2
            rw [eD] at d2
            exact nm_r e3 (hY post m a2 n2 (by omega) d2 H)
          refine pk_le len (f + 2) (fun y => ?_) (fun y => ?_) rfl e2
          · refine pd_yputb 61 rfl (by decide) hD1 (by omega) (fun a2 n2 d2 => ?_)
            rw [gn 3 (by omega)] at d2
            exact fin a2 n2 d2
          · refine pd_ypl (pd_sx B 3) (pd_sx_lt _ _) s3 hD1 (by omega) (fun a2 n2 d2 => ?_)
            rw [gi 3 (by omega)] at d2
            exact fin a2 n2 d2
        have f72 : wY_letters_72 post (wY_letters_7 post m) (nI f) b2 ((nI (t f) <<< ((16 : Int32) &&& 31)) ||| b1) (nI len) n (fun i => nI (t i)) a M O P := by
          refine nm_r hBe.symm ?_
          refine pd_ypl (pd_sx B 0) (pd_sx_lt _ _) (pd_sx_e B 0) hD (by omega) (fun a1 n1 d1 => ?_)
          refine pd_ypl (pd_sx B 1) (pd_sx_lt _ _) (pd_sx_e B 1) d1 (by rw [pd_len1]; omega) (fun a2 n2 d2 => ?_)
          rw [gi 0 (by omega), gi 1 (by omega)] at d2
          refine pk_le len (f + 1) (fun y => ?_) (fun y => ?_) rfl e1
          · refine pd_yputb 61 rfl (by decide) d2 (by rw [pd_len1, pd_len1]; omega) (fun a3 n3 d3 => ?_)
            rw [gn 2 (by omega)] at d3
            exact f117 _ a3 n3 (by rw [pd_len1, pd_len1, pd_len1]; omega) (pd_sl4 L (pd_g B c)) d3
          · refine pd_ypl (pd_sx B 2) (pd_sx_lt _ _) (pd_sx_e B 2) d2 (by rw [pd_len1, pd_len1]; omega) (fun a3 n3 d3 => ?_)
            rw [gi 2 (by omega)] at d3
            exact f117 _ a3 n3 (by rw [pd_len1, pd_len1, pd_len1]; omega) (pd_sl4 L (pd_g B c)) d3
        have f49 : wY_letters_49 post (wY_letters_7 post m) (nI f) b1 (nI (t f) <<< ((16 : Int32) &&& 31)) (nI len) n (fun i => nI (t i)) a M O P := by
          refine pk_le len (f + 2) (fun y => ?_) (fun y => ⟨by rw [e2]; exact vp_in_nI (by omega) (by decide), ?_⟩) rfl e2
          · rcases hb2 with ⟨x, _⟩ | ⟨_, x⟩
            · omega
            · rw [x] at f72
              exact f72
          · rcases hb2 with ⟨_, x⟩ | ⟨x, _⟩
            · rw [e2, nI_clamp (by omega)]
              rw [x] at f72
              exact f72
            · omega
        refine br_f (nI_ge z (by omega)) ⟨vp_in_nI (by omega) (by decide), ?_⟩
        rw [nI_clamp (by omega)]
        refine pk_le len (f + 1) (fun y => ?_) (fun y => ⟨by rw [e1]; exact vp_in_nI (by omega) (by decide), ?_⟩) rfl e1
        · rcases hb1 with ⟨x, _⟩ | ⟨_, x⟩
          · omega
          · rw [x] at f49
            exact f49
        · rcases hb1 with ⟨_, x⟩ | ⟨x, _⟩
          · rw [e1, nI_clamp (by omega)]
            rw [x] at f49
            exact f49
          · omega
    · have hlen : ((L ++ [61]) ++ pd_sl (pd_g (pd_cr t len) 4) 0 4).length < 1000 := by rw [pd_app, pd_len1, pd_sl_len]; omega
      refine ⟨(L ++ [61]) ++ pd_sl (pd_g (pd_cr t len) 4) 0 4, pd_By_app (pd_By_put hB (by decide)) (pd_sl_By (pd_g_lt _ _) _ _), hlen, ?_, ?_⟩
      · intro post m a n hm hD H
        obtain ⟨m, rfl⟩ : ∃ m', m = m' + 1 := ⟨m - 1, by omega⟩
        refine br_t (nI_le z (by omega)) ?_
        refine pd_xput 61 rfl hD (by omega) (fun a1 n1 d1 => ?_)
        refine pd_crcW len rfl hl (fun i _ => rfl) ?_
        refine pd_xpl 4 rfl (by omega) d1 (by rw [pd_len1]; omega) (fun a2 n2 d2 => ?_)
        exact pd_XKb (by omega) H d2
      · intro post m a n hm hD H
        obtain ⟨m, rfl⟩ : ∃ m', m = m' + 1 := ⟨m - 1, by omega⟩
        refine br_t (nI_le z (by omega)) ⟨len + 1, ?_⟩
        exact pd_152 ht hl (by omega) hD H len 0 (len + 1) (by omega) (by omega)
theorem i_vc_letters {k : Nat} {u : SX} {v : SY} (I : i_Rel k u v) (hk : k + 5 ≤ 2560) : wpX_letters (fun r u' => wpY_letters (fun r' v' => r' = r ∧ i_Rel (k + 5) u' v') v) u := by
  obtain ⟨t, len, M, O, P, a, n, b, c, ht, hl, hK, rfl, rfl⟩ := I
  obtain ⟨L', b1, b2, hX, hY⟩ := pd_lets (M := M) (O := O) (P := P) ht hl (len + 1) 0 [] (by omega) (by omega) pd_By_nil (by simp)
  exact pd_fin (k + 5) (r := nI (L'.length - 0)) (L := L') (f := 0) ht hl hK b1 (fun post => wpX_letters post (nI len, n, (fun i => nI (t i)), a, M, O, P)) (fun post => wpY_letters post (nI len, c, (fun i => nI (t i)), b, M, O, P)) (fun post H => ⟨len + 1, hX post (len + 1) a 0 (by omega) (pd_D_nil 120 a) H⟩) (fun post H => ⟨len + 1, hY post (len + 1) b 0 (by omega) (pd_D_nil 400 b) H⟩)
