/-! pack -/
section
variable {n : Int32} {a : Nat → Int32} {t : Nat → Nat} {M O P : Nat → Int64} {L : List Nat} {len : Nat}
theorem pd_xrunL {post : Int32 → Prop} {i r : Nat} (ht : ∀ i, t i < 256) (hl : len ≤ 120) (hi : i < len) (hR : pd_Rn t len i r) (H : post (nI (min r 66))) : ∀ d c m : Nat, c + d = min r 66 → d < m → 1 ≤ c → wX_runLength_6 post (nI i) (nI len) n (fun i => nI (t i)) a M O P m (nI c) (nI (i + c)) := by
  obtain ⟨r1, r2, r3, r4⟩ := hR
  intro d
  induction d with
  | zero =>
    intro c m hc hm h1
    obtain ⟨m, rfl⟩ : ∃ m', m = m' + 1 := ⟨m - 1, by omega⟩
    have hcr : c ≤ r := by omega
    have H' : post (nI c) := by rw [show c = min r 66 by omega]; exact H
    refine pk_le len (i + c) (fun _ => H') (fun z => pk_le 66 c (fun _ => H') (fun y => ⟨vp_in_nI (by omega) (by decide), vp_in_nI (by omega) (by decide), ?_⟩))
    have e : c = r := by omega
    subst e
    refine br_f ?_ H'
    rw [nI_clamp (by omega), nI_clamp (by omega)]
    intro q
    have a1 := ht (i + c)
    have a2 := ht i
    have q2 := (nI_eq (by omega) (by omega)).mp q
    omega
  | succ d ih =>
    intro c m hc hm h1
    obtain ⟨m, rfl⟩ : ∃ m', m = m' + 1 := ⟨m - 1, by omega⟩
    have hcr : c < r := by omega
    refine br_f (nI_ge (by omega) (by omega)) (br_f (nI_ge (b := 66) (by omega) (by decide)) ⟨vp_in_nI (by omega) (by decide), vp_in_nI (by omega) (by decide), ?_⟩)
    refine br_t ?_ (nm_r (nI_1 c) (nm_r (nI_1 (i + c)) (ih (c + 1) m (by omega) (by omega) (by omega))))
    rw [nI_clamp (by omega), nI_clamp (by omega)]
    exact congrArg nI (r3 c hcr)
theorem pd_xrun {post : Int32 → Prop} {i r : Nat} (ht : ∀ i, t i < 256) (hl : len ≤ 120) (hi : i < len) (hR : pd_Rn t len i r) (H : post (nI (min r 66))) : wpX_runLength post (nI len, n, (fun i => nI (t i)), a, M, O, P) (nI i) := by
  have h1 := hR.1
  exact nm_r (nI_1 i) ⟨66, pd_xrunL ht hl hi hR H (min r 66 - 1) 1 66 (by omega) (by omega) (by omega)⟩
theorem pd_yrunL {post : Int32 → Prop} {i r : Nat} (ht : ∀ i, t i < 256) (hl : len ≤ 120) (hi : i < len) (hR : pd_Rn t len i r) (H : post (nI r)) : ∀ d c m : Nat, c + d = r → d < m → 1 ≤ c → wY_run_2 post (nI i) (nI len) n (fun i => nI (t i)) a M O P m (nI c) := by
  obtain ⟨r1, r2, r3, r4⟩ := hR
  intro d
  induction d with
  | zero =>
    intro c m hc hm h1
    obtain ⟨m, rfl⟩ : ∃ m', m = m' + 1 := ⟨m - 1, by omega⟩
    have e : c = r := by omega
    subst e
    refine pk_le len (i + c) (fun _ => H) (fun z => ⟨by rw [nI_add]; exact vp_in_nI (by omega) (by decide), vp_in_nI (by omega) (by decide), ?_⟩) rfl (nI_add i c)
    refine br_f ?_ H
    rw [nI_add, nI_clamp (by omega), nI_clamp (by omega)]
    intro q
    have a1 := ht (i + c)
    have a2 := ht i
    have q2 := (nI_eq (by omega) (by omega)).mp q
    omega
  | succ d ih =>
    intro c m hc hm h1
    obtain ⟨m, rfl⟩ : ∃ m', m = m' + 1 := ⟨m - 1, by omega⟩
    have hcr : c < r := by omega
    refine br_f (by rw [nI_add]; exact nI_ge (by omega) (by omega)) ⟨by rw [nI_add]; exact vp_in_nI (by omega) (by decide), vp_in_nI (by omega) (by decide), ?_⟩
    refine br_t ?_ (nm_r (nI_1 c) (ih (c + 1) m (by omega) (by omega) (by omega)))
    rw [nI_add, nI_clamp (by omega), nI_clamp (by omega)]
    exact congrArg nI (r3 c hcr)
theorem pd_yrun {post : Int32 → Prop} {i r : Nat} (ht : ∀ i, t i < 256) (hl : len ≤ 120) (hi : i < len) (hR : pd_Rn t len i r) (H : post (nI r)) : wpY_run post (nI len, n, (fun i => nI (t i)), a, M, O, P) (nI i) := by
  have h1 := hR.1
  exact ⟨r + 1, pd_yrunL ht hl hi hR H (r - 1) 1 (r + 1) (by omega) (by omega) (by omega)⟩
end
theorem pd_lits {t : Nat → Nat} {M O P : Nat → Int64} {len f : Nat} (ht : ∀ i, t i < 256) (hl : len ≤ 120) (hf : f < len) : ∀ d c : Nat, c + d = 64 → 1 ≤ c → f + c ≤ len → ∃ q, c ≤ q ∧ q ≤ 64 ∧ f + q ≤ len ∧ (∀ (post : Int32 → Prop) (m : Nat) (a : Nat → Int32) (n : Int32), d < m → post (nI q) → wX_literalLength_6 post (nI len) n (fun i => nI (t i)) a M O P m (nI c) (nI (f + c))) ∧ (∀ (post : Int32 → Prop) (m : Nat) (a : Nat → Int32) (n : Int32), d + 1 < m → post (nI q) → wY_plainFrom_4 post (nI f) (nI len) n (fun i => nI (t i)) a M O P m (nI (c - 1)) 1) := by
  intro d
  induction d with
  | zero =>
    intro c hc h1 h2
    have e : c = 64 := by omega
    subst e
    refine ⟨64, by omega, by omega, h2, ?_, ?_⟩
    · intro post m a n hm H
      obtain ⟨m, rfl⟩ : ∃ m', m = m' + 1 := ⟨m - 1, by omega⟩
      exact pk_le len (f + 64) (fun _ => H) (fun _ => br_t (by decide) H)
    · intro post m a n hm H
      obtain ⟨m, rfl⟩ : ∃ m', m = m' + 2 := ⟨m - 2, by omega⟩
      refine br_f pd_n10 (nm_r (e' := nI 64) (nI_1 63) ?_)
      have fin : wY_plainFrom_31 post (wY_plainFrom_4 post (nI f) (nI len) n (fun i => nI (t i)) a M O P (m + 1)) (nI f) (nI 64) (nI len) n (fun i => nI (t i)) a M O P := by
        unfold wY_plainFrom_31
        exact br_t rfl (br_t rfl H)
      exact pk_le len (f + 64) (fun _ => fin) (fun _ => br_t (by decide) fin) rfl (nI_add f 64)
  | succ d ih =>
    intro c hc h1 h2
    have ec : nI (c - 1) + 1 = nI c := by rw [nI_1, Nat.sub_add_cancel h1]
    -- an end here
    have stop : (f + c = len ∨ ∃ r, f + c < len ∧ pd_Rn t len (f + c) r ∧ 3 ≤ r) → ∃ q, c ≤ q ∧ q ≤ 64 ∧ f + q ≤ len ∧ (∀ (post : Int32 → Prop) (m : Nat) (a : Nat → Int32) (n : Int32), d + 1 < m → post (nI q) → wX_literalLength_6 post (nI len) n (fun i => nI (t i)) a M O P m (nI c) (nI (f + c))) ∧ (∀ (post : Int32 → Prop) (m : Nat) (a : Nat → Int32) (n : Int32), d + 1 + 1 < m → post (nI q) → wY_plainFrom_4 post (nI f) (nI len) n (fun i => nI (t i)) a M O P m (nI (c - 1)) 1) := by
      intro hs
      refine ⟨c, Nat.le_refl _, by omega, h2, ?_, ?_⟩
      · intro post m a n hm H
        obtain ⟨m, rfl⟩ : ∃ m', m = m' + 1 := ⟨m - 1, by omega⟩
        rcases hs with z | ⟨r, z, hR, h3⟩
        · exact br_t (nI_le (by omega) (by omega)) H
        · refine br_f (nI_ge z (by omega)) (br_f (nI_ge (b := 64) (by omega) (by decide)) ?_)
          refine pd_xrun ht hl z hR ?_
          exact br_f (nI_nlt (b := 3) (by omega) (by omega)) H
      · intro post m a n hm H
        obtain ⟨m, rfl⟩ : ∃ m', m = m' + 2 := ⟨m - 2, by omega⟩
        refine br_f pd_n10 (nm_r ec ?_)
        rcases hs with z | ⟨r, z, hR, h3⟩
        · refine br_t (by rw [nI_add]; exact nI_le (by omega) (by omega)) ?_
          unfold wY_plainFrom_31
          exact br_t rfl (br_t rfl H)
        · refine br_f (by rw [nI_add]; exact nI_ge z (by omega)) (br_f (nI_ge (b := 64) (by omega) (by decide)) ?_)
          refine br_f pd_n10 ?_
          rw [nI_add]
          refine pd_yrun ht hl z hR ?_
          have hr := hR.2.1
          exact br_t (nI_le (a := 3) h3 (by omega)) (br_t rfl H)
    rcases Nat.lt_or_ge (f + c) len with z | z
    · obtain ⟨r, hR⟩ := pd_Rn_ex t len (f + c) z
      rcases Nat.lt_or_ge r 3 with y | y
      · obtain ⟨q, q1, q2, q3, hX, hY⟩ := ih (c + 1) (by omega) (by omega) (by omega)
        refine ⟨q, by omega, q2, q3, ?_, ?_⟩
        · intro post m a n hm H
          obtain ⟨m, rfl⟩ : ∃ m', m = m' + 1 := ⟨m - 1, by omega⟩
          refine br_f (nI_ge z (by omega)) (br_f (nI_ge (b := 64) (by omega) (by decide)) ?_)
          refine pd_xrun ht hl z hR ?_
          exact br_t (nI_lt (b := 3) (by omega) (by decide)) (nm_r (nI_1 c) (nm_r (nI_1 (f + c)) (hX post m a n (by omega) H)))
        · intro post m a n hm H
          obtain ⟨m, rfl⟩ : ∃ m', m = m' + 1 := ⟨m - 1, by omega⟩
          refine br_f pd_n10 (nm_r ec ?_)
          refine br_f (by rw [nI_add]; exact nI_ge z (by omega)) (br_f (nI_ge (b := 64) (by omega) (by decide)) ?_)
          refine br_f pd_n10 ?_
          rw [nI_add]
          refine pd_yrun ht hl z hR ?_
          exact br_f (nI_ge (b := 3) y (by decide)) (hY post m a n (by omega) H)
      · exact stop (Or.inr ⟨r, z, hR, y⟩)
    · exact stop (Or.inl (by omega))
theorem pd_packs {t : Nat → Nat} {M O P : Nat → Int64} {len : Nat} (ht : ∀ i, t i < 256) (hl : len ≤ 120) : ∀ (d f : Nat) (L : List Nat), len - f < d → f ≤ len → pd_By L → L.length ≤ 2 * f → ∃ L' : List Nat, pd_By L' ∧ L'.length ≤ 2 * len ∧ (∀ (post : Int32 → SX → Prop) (m c : Nat) (a : Nat → Int32) (n : Int32), c ≤ f → len - f < m → pd_D 120 a n L → pd_XK post (nI (L'.length - 0)) t len M O P L' 0 → wX_pack_9 post m (nI f) (nI c) (nI len) n (fun i => nI (t i)) a M O P) ∧ (∀ (post : Int32 → SY → Prop) (m : Nat) (a : Nat → Int32) (n : Int32), len - f < m → pd_D 400 a n L → pd_YK post (nI (L'.length - 0)) t len M O P L' 0 → wY_pack_7 post m (nI f) (nI len) n (fun i => nI (t i)) a M O P) := by
  intro d
  induction d with
  | zero => intro f L h; exact absurd h (Nat.not_lt_zero _)
  | succ d ih =>
    intro f L hd hf hB hL
    rcases Nat.lt_or_ge f len with z | z
    · obtain ⟨r, hR⟩ := pd_Rn_ex t len f z
      have hr1 := hR.1
      have hr2 := hR.2.1
      rcases Nat.lt_or_ge r 3 with y | y
      · obtain ⟨q, q1, q2, q3, gX, gY⟩ := pd_lits (M := M) (O := O) (P := P) ht hl z 63 1 (by omega) (by omega) (by omega)
        obtain ⟨L', b1, b2, hX, hY⟩ := ih (f + q) ((L ++ [q - 1]) ++ pd_sl t f q) (by omega) q3 (pd_By_app (pd_By_put hB (by omega)) (pd_sl_By ht _ _)) (by rw [pd_app, pd_len1, pd_sl_len]; omega)
        have eq : nI q - 1 = nI (q - 1) := pk_sub (b := 1) q1
        refine ⟨L', b1, b2, ?_, ?_⟩
        · intro post m c a n hc hm hD H
          obtain ⟨m, rfl⟩ : ∃ m', m = m' + 1 := ⟨m - 1, by omega⟩
          refine br_f (nI_ge (b := 120) (by omega) (by decide)) (br_f (nI_ge z (by omega)) ?_)
          refine pd_xrun ht hl z hR ?_
          refine br_t (nI_lt (b := 3) (by omega) (by decide)) ?_
          refine nm_r (nI_1 f) ⟨64, gX _ 64 a n (by omega) ?_⟩
          refine pd_xput (q - 1) eq hD (by omega) (fun a1 n1 d1 => ?_)
          refine pd_xpw f q rfl rfl (by omega) d1 (by rw [pd_len1]; omega) (fun a2 n2 d2 => ?_)
          exact nm_r (nI_add f q) (nm_r (nI_1 c) (hX post m (c + 1) a2 n2 (by omega) (by omega) d2 H))
        · intro post m a n hm hD H
          obtain ⟨m, rfl⟩ : ∃ m', m = m' + 1 := ⟨m - 1, by omega⟩
          refine br_f (nI_ge z (by omega)) ?_
          refine pd_yrun ht hl z hR ?_
          refine br_t (nI_le (b := 2) (by omega) (by decide)) ?_
          refine ⟨65, gY _ 65 a n (by omega) ?_⟩
          refine pd_yputb (q - 1) eq (by omega) hD (by omega) (fun a1 n1 d1 => ?_)
          refine pd_ypw f q rfl (nI_add f q) ht (by omega) d1 (by rw [pd_len1]; omega) (fun a2 n2 d2 => ?_)
          exact nm_r (nI_add f q) (hY post m a2 n2 (by omega) d2 H)
      · obtain ⟨w, hw, hw2⟩ : ∃ w, w = min r 66 ∧ 3 ≤ w := ⟨min r 66, rfl, by omega⟩
        obtain ⟨L', b1, b2, hX, hY⟩ := ih (f + w) ((L ++ [128 + w - 3]) ++ [t f]) (by omega) (by omega) (pd_By_put (pd_By_put hB (by omega)) (ht f)) (by rw [pd_len1, pd_len1]; omega)
        have ew : (128 + nI w) - 3 = nI (128 + w - 3) := by
          have e : (128 : Int32) + nI w = nI (128 + w) := nI_add 128 w
          rw [e]
          exact pk_sub (b := 3) (by omega)
        refine ⟨L', b1, b2, ?_, ?_⟩
        · intro post m c a n hc hm hD H
          obtain ⟨m, rfl⟩ : ∃ m', m = m' + 1 := ⟨m - 1, by omega⟩
          refine br_f (nI_ge (b := 120) (by omega) (by decide)) (br_f (nI_ge z (by omega)) ?_)
          refine pd_xrun ht hl z hR ?_
          rw [← hw]
          refine br_f (nI_nlt (b := 3) hw2 (by omega)) ?_
          refine pd_xput (128 + w - 3) ew hD (by omega) (fun a1 n1 d1 => ?_)
          refine ⟨vp_in_nI (by omega) (by decide), ?_⟩
          refine pd_xput (t f) (pd_cl (by omega)) d1 (by rw [pd_len1]; omega) (fun a2 n2 d2 => ?_)
          exact nm_r (nI_add f w) (nm_r (nI_1 c) (hX post m (c + 1) a2 n2 (by omega) (by omega) d2 H))
        · intro post m a n hm hD H
          obtain ⟨m, rfl⟩ : ∃ m', m = m' + 1 := ⟨m - 1, by omega⟩
          refine br_f (nI_ge z (by omega)) ?_
          refine pd_yrun ht hl z hR ?_
          refine br_f (nI_ge (a := 2) (by omega) (by omega)) ?_
          have fin : wY_pack_38 post (wY_pack_7 post m) (nI f) (nI w) (nI len) n (fun i => nI (t i)) a M O P := by
            unfold wY_pack_38
            refine pd_yputb (128 + w - 3) ew (by omega) hD (by omega) (fun a1 n1 d1 => ?_)
            refine ⟨vp_in_nI (by omega) (by decide), ?_⟩
            refine pd_yputb (t f) (pd_cl (by omega)) (ht f) d1 (by rw [pd_len1]; omega) (fun a2 n2 d2 => ?_)
            exact nm_r (nI_add f w) (hY post m a2 n2 (by omega) d2 H)
          refine pk_le r 66 (fun x => ?_) (fun x => ?_)
          · rw [show r = w by omega]
            exact fin
          · rw [show w = 66 by omega] at fin
            exact fin
    · have e : f = len := by omega
      subst e
      refine ⟨L, hB, hL, ?_, ?_⟩
      · intro post m c a n hc hm hD H
        obtain ⟨m, rfl⟩ : ∃ m', m = m' + 1 := ⟨m - 1, by omega⟩
        have fin : wX_pack_95 post (nI f) n (fun i => nI (t i)) a M O P := pd_XKb (by omega) H hD
        exact pk_le 120 c (fun _ => fin) (fun _ => br_t (nI_le (Nat.le_refl _) (by omega)) fin)
      · intro post m a n hm hD H
        obtain ⟨m, rfl⟩ : ∃ m', m = m' + 1 := ⟨m - 1, by omega⟩
        refine br_t (nI_le (Nat.le_refl _) (by omega)) ?_
        exact pd_YKb (by omega) H hD
theorem i_vc_pack {k : Nat} {u : SX} {v : SY} (I : i_Rel k u v) (hk : k + 5 ≤ 2560) : wpX_pack (fun r u' => wpY_pack (fun r' v' => r' = r ∧ i_Rel (k + 5) u' v') v) u := by
  obtain ⟨t, len, M, O, P, a, n, b, c, ht, hl, hK, rfl, rfl⟩ := I
  obtain ⟨L', b1, b2, hX, hY⟩ := pd_packs (M := M) (O := O) (P := P) ht hl (len + 1) 0 [] (by omega) (by omega) pd_By_nil (by simp)
  exact pd_fin (k + 5) (r := nI (L'.length - 0)) (L := L') (f := 0) ht hl hK b1 (fun post => wpX_pack post (nI len, n, (fun i => nI (t i)), a, M, O, P)) (fun post => wpY_pack post (nI len, c, (fun i => nI (t i)), b, M, O, P)) (fun post H => ⟨len + 1, hX post (len + 1) 0 a 0 (by omega) (by omega) (pd_D_nil 120 a) H⟩) (fun post H => ⟨len + 1, hY post (len + 1) b 0 (by omega) (pd_D_nil 400 b) H⟩)
