/-! the draft, put by put; the draft kept -/
section
variable {len n : Int32} {w a : Nat → Int32} {t : Nat → Nat} {M O P : Nat → Int64} {L : List Nat}
theorem pd_xput {post : SX → Prop} {x : Int32} (b : Nat) (hx : x = nI b) (hD : pd_D 120 a n L) (hL : L.length < 100000) (H : ∀ a' n', pd_D 120 a' n' (L ++ [b]) → post (len, n', w, a', M, O, P)) : wpX_put post (len, n, w, a, M, O, P) x := by
  have e := hD.1
  subst e
  subst hx
  exact pk_le 120 L.length (fun z => nm_r (nI_1 _) (H _ _ (pd_D_skip b hD z))) (fun z => ⟨vp_in_nI z (by decide), nm_r (by rw [nI_clamp (by omega)]) (nm_r (nI_1 _) (H _ _ (pd_D_put b hD)))⟩)
theorem pd_yput {post : SY → Prop} {x : Int32} (b : Nat) (hx : x &&& 255 = nI b) (hD : pd_D 400 a n L) (hL : L.length < 100000) (H : ∀ a' n', pd_D 400 a' n' (L ++ [b]) → post (len, n', w, a', M, O, P)) : wpY_put post (len, n, w, a, M, O, P) x := by
  have e := hD.1
  subst e
  exact pk_le 400 L.length (fun z => nm_r (nI_1 _) (H _ _ (pd_D_skip b hD z))) (fun z => ⟨vp_in_nI z (by decide), nm_r (by rw [nI_clamp (by omega), hx]) (nm_r (nI_1 _) (H _ _ (pd_D_put b hD)))⟩)
theorem pd_yputb {post : SY → Prop} {x : Int32} (b : Nat) (hx : x = nI b) (hb : b < 256) (hD : pd_D 400 a n L) (hL : L.length < 100000) (H : ∀ a' n', pd_D 400 a' n' (L ++ [b]) → post (len, n', w, a', M, O, P)) : wpY_put post (len, n, w, a, M, O, P) x := pd_yput b (by rw [hx]; exact pd_msk hb) hD hL H
theorem pd_xpwL {post : SX → Prop} {f c : Nat} (hf : f + c ≤ 120) (hL : L.length < 50000) (H : ∀ a' n', pd_D 120 a' n' (L ++ pd_sl t f c) → post (len, n', (fun i => nI (t i)), a', M, O, P)) : ∀ (d i m : Nat) (a : Nat → Int32) (n : Int32), i + d = c → d < m → pd_D 120 a n (L ++ pd_sl t f i) → wX_putWork_2 post (nI f) (nI c) m (nI i) len n (fun i => nI (t i)) a M O P := by
  intro d
  induction d with
  | zero =>
    intro i m a n hi hm hD
    obtain ⟨m, rfl⟩ : ∃ m', m = m' + 1 := ⟨m - 1, by omega⟩
    have e : i = c := by omega
    subst e
    exact br_t (nI_le (Nat.le_refl _) (by omega)) (H a n hD)
  | succ d ih =>
    intro i m a n hi hm hD
    obtain ⟨m, rfl⟩ : ∃ m', m = m' + 1 := ⟨m - 1, by omega⟩
    have e : nI f + nI i = nI (f + i) := nI_add f i
    refine br_f (nI_ge (by omega) (by omega)) ⟨by rw [e]; exact vp_in_nI (by omega) (by decide), ?_⟩
    refine pd_xput (t (f + i)) (by rw [e, nI_clamp (by omega)]) hD (by rw [List.length_append, pd_sl_len]; omega) ?_
    intro a' n' hD'
    refine nm_r (nI_1 i) ?_
    refine ih (i + 1) m a' n' (by omega) (by omega) ?_
    rw [pd_sl, ← List.append_assoc]
    exact hD'
theorem pd_xpw {post : SX → Prop} {x y : Int32} (f c : Nat) (hx : x = nI f) (hy : y = nI c) (hf : f + c ≤ 120) (hD : pd_D 120 a n L) (hL : L.length < 50000) (H : ∀ a' n', pd_D 120 a' n' (L ++ pd_sl t f c) → post (len, n', (fun i => nI (t i)), a', M, O, P)) : wpX_putWork post (len, n, (fun i => nI (t i)), a, M, O, P) x y := by
  subst hx hy
  exact ⟨c + 1, pd_xpwL hf hL H c 0 (c + 1) a n (by omega) (by omega) (by rw [pd_sl, List.append_nil]; exact hD)⟩
theorem pd_ypwL {post : SY → Prop} {f c : Nat} (ht : ∀ i, t i < 256) (hf : f + c ≤ 120) (hL : L.length < 50000) (H : ∀ a' n', pd_D 400 a' n' (L ++ pd_sl t f c) → post (len, n', (fun i => nI (t i)), a', M, O, P)) : ∀ (d i m : Nat) (a : Nat → Int32) (n : Int32), i + d = c → d < m → pd_D 400 a n (L ++ pd_sl t f i) → wY_putWork_2 post (nI (f + c)) m (nI (f + i)) len n (fun i => nI (t i)) a M O P := by
  intro d
  induction d with
  | zero =>
    intro i m a n hi hm hD
    obtain ⟨m, rfl⟩ : ∃ m', m = m' + 1 := ⟨m - 1, by omega⟩
    have e : i = c := by omega
    subst e
    exact br_t (nI_le (Nat.le_refl _) (by omega)) (H a n hD)
  | succ d ih =>
    intro i m a n hi hm hD
    obtain ⟨m, rfl⟩ : ∃ m', m = m' + 1 := ⟨m - 1, by omega⟩
    refine br_f (nI_ge (by omega) (by omega)) ⟨vp_in_nI (by omega) (by decide), ?_⟩
    refine pd_yputb (t (f + i)) (by rw [nI_clamp (by omega)]) (ht _) hD (by rw [List.length_append, pd_sl_len]; omega) ?_
    intro a' n' hD'
    refine nm_r (nI_1 (f + i)) ?_
    refine ih (i + 1) m a' n' (by omega) (by omega) ?_
    rw [pd_sl, ← List.append_assoc]
    exact hD'
theorem pd_ypw {post : SY → Prop} {x y : Int32} (f c : Nat) (hx : x = nI f) (hy : y = nI (f + c)) (ht : ∀ i, t i < 256) (hf : f + c ≤ 120) (hD : pd_D 400 a n L) (hL : L.length < 50000) (H : ∀ a' n', pd_D 400 a' n' (L ++ pd_sl t f c) → post (len, n', (fun i => nI (t i)), a', M, O, P)) : wpY_putWork post (len, n, (fun i => nI (t i)), a, M, O, P) x y := by
  subst hx hy
  exact ⟨c + 1, pd_ypwL ht hf hL H c 0 (c + 1) a n (by omega) (by omega) (by rw [pd_sl, List.append_nil]; exact hD)⟩
theorem pd_xkeepL {post : Int32 → SX → Prop} {f : Nat} {l0 : Int32} (hf : f ≤ L.length) (hL : L.length ≤ 120) (hD : pd_D 120 a (nI L.length) L) (H : post (nI (L.length - f)) (nI (L.length - f), nI L.length, (fun i => nI (pd_kp t L f i)), a, M, O, P)) : ∀ (d i m : Nat), f + i + d = L.length → d < m → wX_keepDraft_14 post (nI f) l0 (nI L.length) m (nI (f + i)) (pd_kc (fun i => nI (t i)) L f i) a M O P := by
  intro d
  induction d with
  | zero =>
    intro i m hi hm
    obtain ⟨m, rfl⟩ : ∃ m', m = m' + 1 := ⟨m - 1, by omega⟩
    have e : i = L.length - f := by omega
    have e2 := pd_kc_e t L f
    rw [← e] at e2
    refine br_t (nI_le (by omega) (by omega)) (nm_r (pk_sub hf) ?_)
    rw [e2]
    exact H
  | succ d ih =>
    intro i m hi hm
    obtain ⟨m, rfl⟩ : ∃ m', m = m' + 1 := ⟨m - 1, by omega⟩
    have e : nI (f + i) - nI f = nI i := by rw [pk_sub (by omega), Nat.add_sub_cancel_left]
    refine br_f (nI_ge (by omega) (by omega)) ⟨vp_in_nI (by omega) (by decide), by rw [e]; exact vp_in_nI (by omega) (by decide), ?_⟩
    refine nm_r (e' := pd_kc (fun i => nI (t i)) L f (i + 1)) ?_ (nm_r (nI_1 (f + i)) (ih (i + 1) m (by omega) (by omega)))
    rw [e, nI_clamp (by omega), nI_clamp (by omega), hD.2 (f + i) (by omega) (by omega), Nat.add_comm f i]
    exact pd_kc_s _ L f i
theorem pd_xkeep {post : Int32 → SX → Prop} {x l0 : Int32} (f : Nat) (hx : x = nI f) (hf : f ≤ L.length) (hl : L.length < 100000) (hD : pd_D 120 a n L) (H1 : 120 < L.length → post (-2) (l0, n, (fun i => nI (t i)), a, M, O, P)) (H2 : L.length ≤ 120 → post (nI (L.length - f)) (nI (L.length - f), n, (fun i => nI (pd_kp t L f i)), a, M, O, P)) : wpX_keepDraft post (l0, n, (fun i => nI (t i)), a, M, O, P) x := by
  have e := hD.1
  subst e
  subst hx
  refine pk_le L.length 120 (fun z => ⟨L.length + 1, ?_⟩) (fun z => H1 z)
  have q := pd_xkeepL (l0 := l0) hf z hD (H2 z) (L.length - f) 0 (L.length + 1) (by omega) (by omega)
  rw [pd_kc_0] at q
  exact q
theorem pd_ybecomeL {post : Int32 → SY → Prop} (hL : L.length ≤ 120) (hD : pd_D 400 a (nI L.length) L) (H : post (nI L.length) (nI L.length, nI L.length, (fun i => nI (pd_kp t L 0 i)), a, M, O, P)) : ∀ (d i m : Nat), i + d = L.length → d < m → wY_become_22 post (nI L.length) (nI L.length) m (nI i) (pd_kc (fun i => nI (t i)) L 0 i) a M O P := by
  intro d
  induction d with
  | zero =>
    intro i m hi hm
    obtain ⟨m, rfl⟩ : ∃ m', m = m' + 1 := ⟨m - 1, by omega⟩
    have e : i = L.length - 0 := by omega
    have e2 := pd_kc_e t L 0
    rw [← e] at e2
    refine br_t (nI_le (by omega) (by omega)) ?_
    rw [e2]
    exact H
  | succ d ih =>
    intro i m hi hm
    obtain ⟨m, rfl⟩ : ∃ m', m = m' + 1 := ⟨m - 1, by omega⟩
    refine br_f (nI_ge (by omega) (by omega)) ⟨vp_in_nI (by omega) (by decide), vp_in_nI (by omega) (by decide), ?_⟩
    refine nm_r (e' := pd_kc (fun i => nI (t i)) L 0 (i + 1)) ?_ (nm_r (nI_1 i) (ih (i + 1) m (by omega) (by omega)))
    rw [nI_clamp (by omega), hD.2 i (by omega) (by omega)]
    exact pd_kc_s _ L 0 i
theorem pd_ybecome {post : Int32 → SY → Prop} {l0 : Int32} (hl : L.length < 100000) (hD : pd_D 400 a n L) (H1 : 120 < L.length → post (-2) (l0, n, (fun i => nI (t i)), a, M, O, P)) (H2 : L.length ≤ 120 → post (nI L.length) (nI L.length, n, (fun i => nI (pd_kp t L 0 i)), a, M, O, P)) : wpY_become post (l0, n, (fun i => nI (t i)), a, M, O, P) := by
  have e := hD.1
  subst e
  refine pk_le L.length 120 (fun z => ⟨L.length + 1, ?_⟩) (fun z => H1 z)
  have q := pd_ybecomeL z hD (H2 z) L.length 0 (L.length + 1) (by omega) (by omega)
  rw [pd_kc_0] at q
  exact q
theorem pd_xbw {post : Int32 → Prop} {x y : Int32} (k : Nat) (hk : k < 4) (hy : y = nI k) (H : post (nI (pd_by x k))) : wpX_byteOfWord post (len, n, w, a, M, O, P) x y := by
  subst hy
  have e : post ((x.toUInt32 >>> ((24 - 8 * nI k : Int32).toUInt32 &&& Int32.toUInt32 31)).toInt32 &&& 255) := by
    rw [pd_byX x hk]
    exact H
  exact e
/-- the draft and the four bytes of a word -/
def pd_LW (L : List Nat) (x : Int32) : List Nat := (((L ++ [pd_by x 0]) ++ [pd_by x 1]) ++ [pd_by x 2]) ++ [pd_by x 3]
theorem pd_LW_len (L : List Nat) (x : Int32) : (pd_LW L x).length = L.length + 4 := by simp [pd_LW]
theorem pd_LW_By {L : List Nat} (h : pd_By L) (x : Int32) : pd_By (pd_LW L x) := pd_By_put (pd_By_put (pd_By_put (pd_By_put h (pd_by_lt _ _)) (pd_by_lt _ _)) (pd_by_lt _ _)) (pd_by_lt _ _)
theorem pd_xpwd {post : SX → Prop} {x : Int32} (hD : pd_D 120 a n L) (hL : L.length < 50000) (H : ∀ a' n', pd_D 120 a' n' (pd_LW L x) → post (len, n', w, a', M, O, P)) : wpX_putWord post (len, n, w, a, M, O, P) x := by
  refine ⟨5, br_f (by decide) ?_⟩
  refine pd_xbw 0 (by omega) rfl ?_
  refine pd_xput (pd_by x 0) rfl hD (by omega) ?_
  intro a1 n1 h1
  refine nm_r (e' := 1) (by decide) ?_
  refine br_f (by decide) ?_
  refine pd_xbw 1 (by omega) rfl ?_
  refine pd_xput (pd_by x 1) rfl h1 (by simp; omega) ?_
  intro a2 n2 h2
  refine nm_r (e' := 2) (by decide) ?_
  refine br_f (by decide) ?_
  refine pd_xbw 2 (by omega) rfl ?_
  refine pd_xput (pd_by x 2) rfl h2 (by simp; omega) ?_
  intro a3 n3 h3
  refine nm_r (e' := 3) (by decide) ?_
  refine br_f (by decide) ?_
  refine pd_xbw 3 (by omega) rfl ?_
  refine pd_xput (pd_by x 3) rfl h3 (by simp; omega) ?_
  intro a4 n4 h4
  refine nm_r (e' := 4) (by decide) ?_
  exact br_t (by decide) (H a4 n4 h4)
theorem pd_ypwd {post : SY → Prop} {x : Int32} (hD : pd_D 400 a n L) (hL : L.length < 50000) (H : ∀ a' n', pd_D 400 a' n' (pd_LW L x) → post (len, n', w, a', M, O, P)) : wpY_putWord post (len, n, w, a, M, O, P) x := by
  refine ⟨5, br_f (by decide) ?_⟩
  refine pd_yput (pd_by x 0) (pd_byS x (k := 0) (by omega)) hD (by omega) ?_
  intro a1 n1 h1
  refine nm_r (e' := 16) (by decide) ?_
  refine br_f (by decide) ?_
  refine pd_yput (pd_by x 1) (pd_byS x (k := 1) (by omega)) h1 (by simp; omega) ?_
  intro a2 n2 h2
  refine nm_r (e' := 8) (by decide) ?_
  refine br_f (by decide) ?_
  refine pd_yput (pd_by x 2) (pd_byS x (k := 2) (by omega)) h2 (by simp; omega) ?_
  intro a3 n3 h3
  refine nm_r (e' := 0) (by decide) ?_
  refine br_f (by decide) ?_
  refine pd_yput (pd_by x 3) (pd_byS x (k := 3) (by omega)) h3 (by simp; omega) ?_
  intro a4 n4 h4
  refine nm_r (e' := -8) (by decide) ?_
  exact br_t (by decide) (H a4 n4 h4)
end
