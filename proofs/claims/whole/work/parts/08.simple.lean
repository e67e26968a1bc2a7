/-! bounds of arguments; add, at, set, clear, hash, stretch -/
def pd_bad (N : Nat) (x : Int32) : Prop := x < 0 ∨ ∃ j, N ≤ j ∧ j < 2 ^ 31 ∧ x = nI j
theorem pd_cs (N : Nat) (x : Int32) : pd_bad N x ∨ ∃ j, j < N ∧ j < 2 ^ 31 ∧ x = nI j := by
  by_cases z : x < 0
  · exact Or.inl (Or.inl z)
  · obtain ⟨j, hj, rfl⟩ := nI_of z
    rcases Nat.lt_or_ge j N with y | y
    · exact Or.inr ⟨j, y, hj, rfl⟩
    · exact Or.inl (Or.inr ⟨j, y, hj, rfl⟩)
theorem pd_n10 : ¬ (1 : Int32) = 0 := by decide
section
variable {len n : Int32} {w a : Nat → Int32} {t : Nat → Nat} {M O P : Nat → Int64} {L : List Nat}
theorem pd_xB0 {post : Int32 → Prop} {x : Int32} (h : pd_bad 256 x) (hp : post 0) : wpX_isByte post (len, n, w, a, M, O, P) x := by
  rcases h with z | ⟨j, h1, h2, rfl⟩
  · exact br_t z hp
  · exact br_f (nI_pos h2) (br_t (nI_lt (a := 255) (by omega) h2) hp)
theorem pd_xB1 {post : Int32 → Prop} {j : Nat} (h : j < 256) (hp : post 1) : wpX_isByte post (len, n, w, a, M, O, P) (nI j) :=
  br_f (nI_pos (by omega)) (br_f (nI_nlt (a := 255) (by omega) (by omega)) hp)
theorem pd_xP0 {post : Int32 → Prop} {x : Int32} {l : Nat} (h : pd_bad l x) (hp : post 0) : wpX_isPlace post (nI l, n, w, a, M, O, P) x := by
  rcases h with z | ⟨j, h1, h2, rfl⟩
  · exact br_t z hp
  · exact br_f (nI_pos h2) (br_t (nI_le h1 h2) hp)
theorem pd_xP1 {post : Int32 → Prop} {j l : Nat} (hl : l ≤ 120) (h : j < l) (hp : post 1) : wpX_isPlace post (nI l, n, w, a, M, O, P) (nI j) :=
  br_f (nI_pos (by omega)) (br_f (nI_ge h (by omega)) hp)
theorem pd_yO1 {post : Int32 → Prop} {x y : Int32} (N : Nat) (hy : y = nI N) (h : pd_bad N x) (hp : post 1) : wpY_out post x y := by
  subst hy
  rcases h with z | ⟨j, h1, h2, rfl⟩
  · exact br_t z hp
  · exact br_f (nI_pos h2) (br_f (nI_nlt h1 h2) hp)
theorem pd_yO0 {post : Int32 → Prop} {y : Int32} {j : Nat} (N : Nat) (hy : y = nI N) (hN : N < 2 ^ 31) (h : j < N) (hp : post 0) : wpY_out post (nI j) y := by
  subst hy
  exact br_f (nI_pos (by omega)) (br_t (nI_lt h hN) hp)
theorem pd_cl {i : Nat} (h : i < 2 ^ 31) : (fun i => nI (t i)) (nI i).toNatClampNeg = nI (t i) := by rw [nI_clamp h]
end
theorem i_vc0 : wpX_init (fun u => wpY_init (fun v => i_Rel 0 u v)) := ⟨fun _ => 0, 0, fun _ => 0, fun _ => 0, fun _ => 0, fun _ => 0, 0, fun _ => 0, 0, fun _ => Nat.zero_lt_succ _, by omega, fun _ _ => Or.inl rfl, rfl, rfl⟩
theorem i_vc_add {k : Nat} {u : SX} {v : SY} (I : i_Rel k u v) (hk : k + 5 ≤ 2560) (v1 : Int32) : wpX_add (fun r u' => wpY_add (fun r' v' => r' = r ∧ i_Rel (k + 5) u' v') v v1) u v1 := by
  obtain ⟨t, len, M, O, P, a, n, b, c, ht, hl, hK, rfl, rfl⟩ := I
  unfold wpX_add wpY_add
  dsimp only
  rcases pd_cs 256 v1 with h | ⟨j, hj, _, rfl⟩
  · refine pd_xB0 h ?_
    refine br_t rfl ?_
    refine pd_yO1 256 rfl h ?_
    exact br_f pd_n10 ⟨rfl, pd_R _ ht hl hK _ _ _ _⟩
  · rcases Nat.lt_or_ge len 120 with z | z
    · have e : upd (fun i => nI (t i)) (nI len).toNatClampNeg (nI j) = fun i => nI ((fun i => if i = len then j else t i) i) := by
        rw [nI_clamp (by omega)]
        exact pd_updT t len j
      refine pd_xB1 hj ?_
      refine br_f pd_n10 (br_t (nI_lt (b := 120) z (by decide)) ⟨vp_in_nI z (by decide), nm_r e (nm_r (nI_1 len) ?_)⟩)
      refine pd_yO0 256 rfl (by decide) hj ?_
      exact br_t rfl (br_f (fun q => absurd ((nI_eq (b := 120) (by omega) (by decide)).mp q) (by omega)) (nm_r (nI_1 len) ⟨vp_in_nI z (by decide), nm_r e ⟨rfl, pd_R _ (pd_updB ht hj) (by omega) hK _ _ _ _⟩⟩))
    · have e : len = 120 := by omega
      subst e
      refine pd_xB1 hj ?_
      refine br_f pd_n10 (br_f (nI_nlt (a := 120) (b := 120) (by omega) (by decide)) ?_)
      refine pd_yO0 256 rfl (by decide) hj ?_
      exact br_t rfl (br_t rfl ⟨rfl, pd_R _ ht hl hK _ _ _ _⟩)
theorem i_vc_at {k : Nat} {u : SX} {v : SY} (I : i_Rel k u v) (hk : k + 5 ≤ 2560) (v1 : Int32) : wpX_at (fun r => wpY_at (fun r' => r' = r ∧ i_Rel (k + 5) u v) v v1) u v1 := by
  have J := I
  obtain ⟨t, len, M, O, P, a, n, b, c, ht, hl, hK, rfl, rfl⟩ := I
  unfold wpX_at wpY_at
  dsimp only
  rcases pd_cs len v1 with h | ⟨j, hj, _, rfl⟩
  · refine pd_xP0 h ?_
    refine br_t rfl ?_
    refine pd_yO1 len rfl h ?_
    exact br_f pd_n10 ⟨rfl, J⟩
  · refine pd_xP1 hl hj ?_
    refine br_f pd_n10 ⟨vp_in_nI (by omega) (by decide), ?_⟩
    refine pd_yO0 len rfl (by omega) hj ?_
    exact br_t rfl ⟨vp_in_nI (by omega) (by decide), rfl, J⟩
theorem i_vc_set {k : Nat} {u : SX} {v : SY} (I : i_Rel k u v) (hk : k + 5 ≤ 2560) (v1 : Int32) (v2 : Int32) : wpX_set (fun r u' => wpY_set (fun r' v' => r' = r ∧ i_Rel (k + 5) u' v') v v1 v2) u v1 v2 := by
  have J := I
  obtain ⟨t, len, M, O, P, a, n, b, c, ht, hl, hK, rfl, rfl⟩ := I
  unfold wpX_set wpY_set
  dsimp only
  rcases pd_cs len v1 with h | ⟨j, hj, _, rfl⟩
  · refine pd_xP0 h ?_
    refine br_t rfl ?_
    refine pd_yO1 len rfl h ?_
    exact br_f pd_n10 ⟨rfl, J⟩
  · refine pd_xP1 hl hj ?_
    refine br_f pd_n10 ?_
    rcases pd_cs 256 v2 with h2 | ⟨i, hi, _, rfl⟩
    · refine pd_xB0 h2 ?_
      refine br_t rfl ?_
      refine pd_yO0 len rfl (by omega) hj ?_
      refine br_t rfl ?_
      refine pd_yO1 256 rfl h2 ?_
      exact br_f pd_n10 ⟨rfl, J⟩
    · have e : upd (fun i => nI (t i)) (nI j).toNatClampNeg (nI i) = fun q => nI ((fun q => if q = j then i else t q) q) := by
        rw [nI_clamp (by omega)]
        exact pd_updT t j i
      have hv : vp_in (nI j) 120 := vp_in_nI (by omega) (by decide)
      refine pd_xB1 hi ?_
      refine br_f pd_n10 ⟨hv, nm_e ⟨hv, nm_r e ?_⟩⟩
      refine pd_yO0 len rfl (by omega) hj ?_
      refine br_t rfl ?_
      refine pd_yO0 256 rfl (by decide) hi ?_
      exact br_t rfl ⟨hv, nm_e ⟨hv, nm_r e ⟨rfl, pd_R _ (pd_updB ht hi) hl hK _ _ _ _⟩⟩⟩
theorem i_vc_clear {k : Nat} {u : SX} {v : SY} (I : i_Rel k u v) (hk : k + 5 ≤ 2560) : wpX_clear (fun r u' => wpY_clear (fun r' v' => r' = r ∧ i_Rel (k + 5) u' v') v) u := by
  obtain ⟨t, len, M, O, P, a, n, b, c, ht, hl, hK, rfl, rfl⟩ := I
  unfold wpX_clear wpY_clear
  exact ⟨rfl, pd_R (len := 0) _ ht (by omega) hK _ _ _ _⟩
section
variable {len n : Int32} {w a : Nat → Int32} {t : Nat → Nat} {M O P : Nat → Int64} {L : List Nat}
theorem pd_xhL {post : Int32 → Prop} {c : Nat} (hc : c ≤ 120) (H : post (pd_he (pd_hs t c))) : ∀ d i m : Nat, i + d = c → d < m → wX_hashOfFirst_5 post (nI c) len n (fun i => nI (t i)) a M O P m (pd_hs t i) (nI i) := by
  intro d
  induction d with
  | zero =>
    intro i m hi hm
    obtain ⟨m, rfl⟩ : ∃ m', m = m' + 1 := ⟨m - 1, by omega⟩
    have e : i = c := by omega
    subst e
    exact br_t (nI_le (Nat.le_refl _) (by omega)) (nm_e H)
  | succ d ih =>
    intro i m hi hm
    obtain ⟨m, rfl⟩ : ∃ m', m = m' + 1 := ⟨m - 1, by omega⟩
    refine br_f (nI_ge (by omega) (by omega)) ⟨vp_in_nI (by omega) (by decide), ?_⟩
    refine nm_r (nI_1 i) ?_
    rw [nI_clamp (by omega)]
    exact ih (i + 1) m (by omega) (by omega)
theorem pd_xh {post : Int32 → Prop} (c : Nat) (hc : c ≤ 120) (H : post (pd_he (pd_hs t c))) : wpX_hashOfFirst post (len, n, (fun i => nI (t i)), a, M, O, P) (nI c) := ⟨c + 1, pd_xhL hc H c 0 (c + 1) (by omega) (by omega)⟩
theorem pd_yhL {post : Int32 → Prop} {c : Nat} (hc : c ≤ 120) (H : post (pd_he (pd_hs t c))) : ∀ d i m : Nat, i + d = c → d < m → wY_hashOf_5 post (nI c) len n (fun i => nI (t i)) a M O P m (pd_hs t i) (nI i) := by
  intro d
  induction d with
  | zero =>
    intro i m hi hm
    obtain ⟨m, rfl⟩ : ∃ m', m = m' + 1 := ⟨m - 1, by omega⟩
    have e : i = c := by omega
    subst e
    exact br_t (nI_le (Nat.le_refl _) (by omega)) (nm_e H)
  | succ d ih =>
    intro i m hi hm
    obtain ⟨m, rfl⟩ : ∃ m', m = m' + 1 := ⟨m - 1, by omega⟩
    refine br_f (nI_ge (by omega) (by omega)) ⟨vp_in_nI (by omega) (by decide), ?_⟩
    refine nm_r (nI_1 i) ?_
    rw [nI_clamp (by omega)]
    exact ih (i + 1) m (by omega) (by omega)
theorem pd_yh {post : Int32 → Prop} (c : Nat) (hc : c ≤ 120) (H : post (pd_he (pd_hs t c))) : wpY_hashOf post (len, n, (fun i => nI (t i)), a, M, O, P) (nI c) := ⟨c + 1, pd_yhL hc H c 0 (c + 1) (by omega) (by omega)⟩
theorem pd_mod1 {i m : Nat} (hm : 0 < m) : (i % m + 1 < m → (i + 1) % m = i % m + 1) ∧ (m ≤ i % m + 1 → (i + 1) % m = 0) := by
  have e : (i % m + 1) % m = (i + 1) % m := Nat.mod_add_mod i m 1
  have h : i % m < m := Nat.mod_lt _ hm
  refine ⟨fun z => by rw [← e, Nat.mod_eq_of_lt z], fun z => ?_⟩
  have q : i % m + 1 = m := by omega
  rw [← e, q, Nat.mod_self]
theorem pd_xsL {post : Int32 → Prop} {salt : Int32} {l c : Nat} (hl : l ≤ 120) (hc : c ≤ 2000) (H : post (pd_he (pd_sh salt t l c))) : ∀ d i m : Nat, i + d = c → d < m → wX_stretch_22 post salt (nI c) (nI l) n (fun i => nI (t i)) a M O P m (pd_sh salt t l i) (nI (i % (l + 4))) (nI i) := by
  intro d
  induction d with
  | zero =>
    intro i m hi hm
    obtain ⟨m, rfl⟩ : ∃ m', m = m' + 1 := ⟨m - 1, by omega⟩
    have e : i = c := by omega
    subst e
    exact br_t (nI_le (Nat.le_refl _) (by omega)) (nm_e H)
  | succ d ih =>
    intro i m hi hm
    obtain ⟨m, rfl⟩ : ∃ m', m = m' + 1 := ⟨m - 1, by omega⟩
    have hp : i % (l + 4) < l + 4 := Nat.mod_lt _ (by omega)
    have h1 := (pd_mod1 (i := i) (m := l + 4) (by omega)).1
    have h2 := (pd_mod1 (i := i) (m := l + 4) (by omega)).2
    have q := ih (i + 1) m (by omega) (by omega)
    have es : pd_sh salt t l (i + 1) = (pd_sh salt t l i ^^^ nI (pd_sb salt t (i % (l + 4)))) * 16777619 := rfl
    rw [es] at q
    generalize i % (l + 4) = p at hp h1 h2 q
    have e4 : (4 : Int32) + nI l = nI (l + 4) := by rw [Nat.add_comm l 4]; exact nI_add 4 l
    have nx : ∀ z, z = nI (pd_sb salt t p) → wX_stretch_53 post (wX_stretch_22 post salt (nI c) (nI l) n (fun i => nI (t i)) a M O P m) salt (nI c) (pd_sh salt t l i) (nI p) (nI i) z (nI l) n (fun i => nI (t i)) a M O P := by
      intro z hz
      subst hz
      refine pk_le (l + 4) (p + 1) (fun y => nm_r (nI_1 i) ?_) (fun y => nm_r (nI_1 p) (nm_r (nI_1 i) ?_)) e4 (nI_1 p)
      · rw [h2 y] at q
        exact q
      · rw [h1 y] at q
        exact q
    refine br_f (nI_ge (by omega) (by omega)) (pk_le 4 p (fun y => ?_) (fun y => ?_))
    · have e : nI p - 4 = nI (p - 4) := pk_sub (b := 4) y
      refine ⟨by rw [e]; exact vp_in_nI (by omega) (by decide), nx _ ?_⟩
      unfold pd_sb
      rw [e, nI_clamp (by omega), if_neg (by omega)]
    · refine nx _ ?_
      unfold pd_sb
      rw [if_pos y]
      exact pd_byX salt y
theorem pd_ysL {post : Int32 → Prop} {salt : Int32} {l c : Nat} (hl : l ≤ 120) (hc : c ≤ 2000) (H : post (pd_he (pd_sh salt t l c))) : ∀ d i m : Nat, i + d = c → d < m → wY_stretch_18 post salt (nI c) (nI l) n (fun i => nI (t i)) a M O P m (pd_sh salt t l i) (nI i) := by
  intro d
  induction d with
  | zero =>
    intro i m hi hm
    obtain ⟨m, rfl⟩ : ∃ m', m = m' + 1 := ⟨m - 1, by omega⟩
    have e : i = c := by omega
    subst e
    exact br_t (nI_le (Nat.le_refl _) (by omega)) (nm_e H)
  | succ d ih =>
    intro i m hi hm
    obtain ⟨m, rfl⟩ : ∃ m', m = m' + 1 := ⟨m - 1, by omega⟩
    have hp : i % (l + 4) < l + 4 := Nat.mod_lt _ (by omega)
    have q := ih (i + 1) m (by omega) (by omega)
    have es : pd_sh salt t l (i + 1) = (pd_sh salt t l i ^^^ nI (pd_sb salt t (i % (l + 4)))) * 16777619 := rfl
    rw [es] at q
    have e4 : nI l + 4 = nI (l + 4) := nI_add l 4
    have er : nI i - nI i / (nI l + 4) * (nI l + 4) = nI (i % (l + 4)) := by
      rw [e4]
      exact pk_rem (by omega) (by omega) (by omega)
    have nx : ∀ z, z = nI (pd_sb salt t (i % (l + 4))) → wY_stretch_67 post (wY_stretch_18 post salt (nI c) (nI l) n (fun i => nI (t i)) a M O P m) salt (nI c) (pd_sh salt t l i) (nI i) z (nI l) n (fun i => nI (t i)) a M O P := by
      intro z hz
      subst hz
      exact nm_r (nI_1 i) q
    generalize i % (l + 4) = p at hp er nx
    refine br_f (nI_ge (by omega) (by omega)) ⟨by rw [e4]; exact nI_ne0 (by omega) (by omega), nm_r er (pk_le 4 p (fun y => ?_) (fun y => ?_))⟩
    · have e : nI p - 4 = nI (p - 4) := pk_sub (b := 4) y
      refine ⟨by rw [e]; exact vp_in_nI (by omega) (by decide), nx _ ?_⟩
      unfold pd_sb
      rw [e, nI_clamp (by omega), if_neg (by omega)]
    · refine nx _ ?_
      unfold pd_sb
      rw [if_pos y, pd_c24 p y]
      exact pd_byS salt y
end
theorem i_vc_hash {k : Nat} {u : SX} {v : SY} (I : i_Rel k u v) (hk : k + 5 ≤ 2560) : wpX_hash (fun r => wpY_hash (fun r' => r' = r ∧ i_Rel (k + 5) u v) v) u := by
  have J := I
  obtain ⟨t, len, M, O, P, a, n, b, c, ht, hl, hK, rfl, rfl⟩ := I
  unfold wpX_hash wpY_hash
  dsimp only
  refine pd_xh len hl ?_
  refine pd_yh len hl ?_
  exact ⟨rfl, J⟩
theorem i_vc_stretch {k : Nat} {u : SX} {v : SY} (I : i_Rel k u v) (hk : k + 5 ≤ 2560) (v1 : Int32) (v2 : Int32) : wpX_stretch (fun r => wpY_stretch (fun r' => r' = r ∧ i_Rel (k + 5) u v) v v1 v2) u v1 v2 := by
  have J := I
  obtain ⟨t, len, M, O, P, a, n, b, c, ht, hl, hK, rfl, rfl⟩ := I
  rcases pd_cs 2001 v2 with h | ⟨j, hj, _, rfl⟩
  · have hY : wpY_stretch (fun r' => r' = 0 ∧ i_Rel (k + 5) (nI len, n, (fun i => nI (t i)), a, M, O, P) (nI len, c, (fun i => nI (t i)), b, M, O, P)) (nI len, c, (fun i => nI (t i)), b, M, O, P) v1 v2 := by
      unfold wpY_stretch
      dsimp only
      refine pd_yO1 2001 rfl h ?_
      exact br_f pd_n10 ⟨rfl, J⟩
    rcases h with z | ⟨j, h1, h2, rfl⟩
    · exact br_t z hY
    · exact br_f (nI_pos h2) (br_f (nI_ge (a := 2000) (by omega) h2) hY)
  · refine br_f (nI_pos (by omega)) (br_t (nI_le (b := 2000) (by omega) (by decide)) ⟨j + 1, ?_⟩)
    refine pd_xsL hl (by omega) ?_ j 0 (j + 1) (by omega) (by omega)
    unfold wpY_stretch
    dsimp only
    refine pd_yO0 2001 rfl (by decide) hj ?_
    refine br_t rfl ⟨j + 1, ?_⟩
    exact pd_ysL hl (by omega) ⟨rfl, J⟩ j 0 (j + 1) (by omega) (by omega)
