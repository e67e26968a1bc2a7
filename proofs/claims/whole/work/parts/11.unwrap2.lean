/-! unwrap: old packets, and the call itself -/
theorem pd_olds {t : Nat → Nat} {M O P : Nat → Int64} {len : Nat} (ht : ∀ i, t i < 256) (hl : len ≤ 120) (h0 : 1 ≤ len) (s : Nat) (hs : s = 0 ∨ s = 1 ∨ s = 3) : pd_Bd t len M O P (fun post => ∀ a : Nat → Int32, wpX_draftOldBody post (nI len, 0, (fun i => nI (t i)), a, M, O, P) (nI s)) (fun post => ∀ a : Nat → Int32, wpY_old post (nI len, 0, (fun i => nI (t i)), a, M, O, P) (nI s)) := by
  obtain ⟨st, sz, hst, hsz, h12⟩ : ∃ st sz : Nat, 1 ≤ st ∧ sz < 66000 ∧ ((s = 0 ∧ st = 2 ∧ sz = t 1) ∨ (s = 1 ∧ st = 3 ∧ sz = t 1 * 256 + t 2) ∨ (s = 3 ∧ st = 1 ∧ sz = len - 1)) := by
    have a1 := ht 1
    have a2 := ht 2
    rcases hs with rfl | rfl | rfl
    · exact ⟨2, t 1, by omega, by omega, Or.inl ⟨rfl, rfl, rfl⟩⟩
    · exact ⟨3, t 1 * 256 + t 2, by omega, by omega, Or.inr (Or.inl ⟨rfl, rfl, rfl⟩)⟩
    · exact ⟨1, len - 1, by omega, by omega, Or.inr (Or.inr ⟨rfl, rfl, rfl⟩)⟩
  have toX : ∀ (post : Int32 → SX → Prop) (a : Nat → Int32), wX_draftOldBody_12 post (nI s) (nI st) (nI len) 0 (fun i => nI (t i)) a M O P → wpX_draftOldBody post (nI len, 0, (fun i => nI (t i)), a, M, O, P) (nI s) := by
    intro post a H
    rcases h12 with ⟨x1, x2, x3⟩ | ⟨x1, x2, x3⟩ | ⟨x1, x2, x3⟩
    · subst x1 x2
      exact br_f (by decide) H
    · subst x1 x2
      exact br_f (by decide) H
    · subst x1 x2
      exact br_t rfl H
  have toY : ∀ (post : Int32 → SY → Prop) (a : Nat → Int32), wY_old_12 post (nI s) (nI st) (nI len) 0 (fun i => nI (t i)) a M O P → wpY_old post (nI len, 0, (fun i => nI (t i)), a, M, O, P) (nI s) := by
    intro post a H
    rcases h12 with ⟨x1, x2, x3⟩ | ⟨x1, x2, x3⟩ | ⟨x1, x2, x3⟩
    · subst x1 x2
      exact br_f (by decide) H
    · subst x1 x2
      exact br_f (by decide) H
    · subst x1 x2
      exact br_t rfl H
  rcases Nat.lt_or_ge len st with z | z
  · refine Or.inl ⟨-3, -3, Or.inl ⟨rfl, rfl⟩, ?_, ?_⟩
    · intro post H a
      refine toX post a ?_
      exact br_f (nI_ge z (by omega)) (H a 0)
    · intro post H a
      refine toY post a ?_
      exact br_f (nI_ge z (by omega)) (H a 0)
  · have e1 : nI len - 1 = nI (len - 1) := pk_sub (b := 1) h0
    have eX : nI (t 1) * 256 + nI (t 2) = nI (t 1 * 256 + t 2) := by
      rw [← nI_add, ← pk_mul]
      rfl
    have eY : 256 * nI (t 1) + nI (t 2) = nI (t 1 * 256 + t 2) := by
      rw [← nI_add, Nat.mul_comm, ← pk_mul]
      rfl
    have mX : ∀ (post : Int32 → SX → Prop) (a : Nat → Int32), wX_draftOldBody_68 post (nI st) (nI sz) (nI len) 0 (fun i => nI (t i)) a M O P → wpX_draftOldBody post (nI len, 0, (fun i => nI (t i)), a, M, O, P) (nI s) := by
      intro post a H
      refine toX post a ?_
      refine br_t (nI_le z (by omega)) (nm_r e1 ?_)
      rcases h12 with ⟨x1, x2, x3⟩ | ⟨x1, x2, x3⟩ | ⟨x1, x2, x3⟩
      · subst x1 x2 x3
        exact br_t rfl (nm_e H)
      · subst x1 x2 x3
        exact br_f (by decide) (br_t rfl (nm_r eX H))
      · subst x1 x2 x3
        exact br_f (by decide) (br_f (by decide) H)
    have mY : ∀ (post : Int32 → SY → Prop) (a : Nat → Int32), wY_old_68 post (nI st) (nI sz) (nI len) 0 (fun i => nI (t i)) a M O P → wpY_old post (nI len, 0, (fun i => nI (t i)), a, M, O, P) (nI s) := by
      intro post a H
      refine toY post a ?_
      refine br_t (nI_le z (by omega)) ?_
      rcases h12 with ⟨x1, x2, x3⟩ | ⟨x1, x2, x3⟩ | ⟨x1, x2, x3⟩
      · subst x1 x2 x3
        exact br_f (by decide) (br_t rfl H)
      · subst x1 x2 x3
        rw [← eY] at H
        exact br_f (by decide) (br_f (by decide) H)
      · subst x1 x2 x3
        rw [← e1] at H
        exact br_t rfl H
    have ea : nI st + nI sz = nI (st + sz) := nI_add st sz
    rcases Nat.lt_or_ge len (st + sz) with y | y
    · refine Or.inl ⟨-3, -3, Or.inl ⟨rfl, rfl⟩, ?_, ?_⟩
      · intro post H a
        refine mX post a ?_
        exact br_f (by rw [ea]; exact nI_ge y (by omega)) (H a 0)
      · intro post H a
        refine mY post a ?_
        exact br_f (by rw [ea]; exact nI_ge y (by omega)) (H a 0)
    · have goY : ∀ (post : Int32 → SY → Prop) (a : Nat → Int32), (∀ a' n', pd_D 400 a' n' ([] ++ pd_sl t st sz) → post (nI (st + sz)) (nI len, n', (fun i => nI (t i)), a', M, O, P)) → wpY_old post (nI len, 0, (fun i => nI (t i)), a, M, O, P) (nI s) := by
        intro post a H
        refine mY post a ?_
        refine br_t (by rw [ea]; exact nI_le y (by omega)) ?_
        refine pd_ypw st sz rfl ea ht (by omega) (pd_D_nil 400 a) (by simp) (fun a' n' hD => ?_)
        have q := H a' n' hD
        rw [← ea] at q
        exact q
      rcases Nat.lt_or_ge (st + sz) len with x | x
      · refine Or.inl ⟨-4, nI (st + sz), Or.inr (Or.inr ⟨rfl, st + sz, x, rfl⟩), ?_, ?_⟩
        · intro post H a
          refine mX post a ?_
          exact br_t (by rw [ea]; exact nI_le y (by omega)) (br_f (by rw [ea]; exact nI_ge x (by omega)) (H a 0))
        · intro post H a
          exact goY post a (fun a' n' _ => H a' n')
      · have e : st + sz = len := by omega
        refine Or.inr ⟨[] ++ pd_sl t st sz, pd_By_app pd_By_nil (pd_sl_By ht _ _), by rw [pd_app, pd_sl_len]; simp; omega, ?_, ?_⟩
        · intro post H a
          refine mX post a ?_
          refine br_t (by rw [ea]; exact nI_le y (by omega)) (br_t (by rw [ea]; exact nI_le x (by omega)) ?_)
          refine pd_xpw st sz rfl rfl (by omega) (pd_D_nil 120 a) (by simp) (fun a' n' hD => ?_)
          exact H a' n' hD
        · intro post H a
          refine goY post a (fun a' n' hD => ?_)
          rw [e]
          exact H a' n' hD
section
variable {n : Int32} {a : Nat → Int32} {t : Nat → Nat} {M O P : Nat → Int64} {L : List Nat} {len : Nat}
theorem pd_y135L {post : Int32 → SY → Prop} {x : Int32} (hL : L.length ≤ 120) (hD : pd_D 400 a (nI L.length) L) (H : post x (nI L.length, nI L.length, (fun i => nI (pd_kp t L 0 i)), a, M, O, P)) : ∀ (d i m : Nat), i + d = L.length → d < m → wY_unwrap_135 post x (nI L.length) (nI L.length) m (nI i) (pd_kc (fun i => nI (t i)) L 0 i) a M O P := by
  intro d
  induction d with
  | zero =>
    intro i m hi hm
    obtain ⟨m, rfl⟩ : ∃ m', m = m' + 1 := ⟨m - 1, by omega⟩
    have e : i = L.length - 0 := by omega
    have e2 := pd_kc_e t L 0
    rw [← e] at e2
    refine br_t (nI_le (by omega) (by omega)) ?_
    rw [e2]
    exact H
  | succ d ih =>
    intro i m hi hm
    obtain ⟨m, rfl⟩ : ∃ m', m = m' + 1 := ⟨m - 1, by omega⟩
    refine br_f (nI_ge (by omega) (by omega)) ⟨vp_in_nI (by omega) (by decide), vp_in_nI (by omega) (by decide), ?_⟩
    refine nm_r (e' := pd_kc (fun i => nI (t i)) L 0 (i + 1)) ?_ (nm_r (nI_1 i) (ih (i + 1) m (by omega) (by omega)))
    rw [nI_clamp (by omega), hD.2 i (by omega) (by omega)]
    exact pd_kc_s _ L 0 i
theorem pd_y102k {post : Int32 → SY → Prop} {x : Int32} (hl : len ≤ 120) (hL : L.length ≤ 120) (hD : pd_D 400 a n L) (H : post x (nI (L.length - 0), n, (fun i => nI (pd_kp t L 0 i)), a, M, O, P)) : wY_unwrap_102 post x (nI len) (nI len) n (fun i => nI (t i)) a M O P := by
  have e := hD.1
  subst e
  refine br_t (nI_pos' (by omega)) (br_t (nI_le (Nat.le_refl _) (by omega)) ⟨L.length + 1, ?_⟩)
  have q := pd_y135L hL hD H L.length 0 (L.length + 1) (by omega) (by omega)
  rw [pd_kc_0] at q
  exact q
theorem pd_y102c {post : Int32 → SY → Prop} {x c y : Int32} (hl : len ≤ 120) (h : pd_cy len c y) (H : post c (nI len, n, (fun i => nI (t i)), a, M, O, P)) : wY_unwrap_102 post x y (nI len) n (fun i => nI (t i)) a M O P := by
  rcases h with ⟨rfl, rfl⟩ | ⟨rfl, rfl⟩ | ⟨rfl, q, hq, rfl⟩
  · exact br_f (by decide) H
  · exact br_f (by decide) H
  · exact br_t (nI_pos' (by omega)) (br_f (nI_ge hq (by omega)) H)
theorem pd_x107k {post : Int32 → SX → Prop} {x : Int32} (hL : L.length ≤ 120) (hD : pd_D 120 a n L) (H : post x (nI (L.length - 0), n, (fun i => nI (pd_kp t L 0 i)), a, M, O, P)) : wX_unwrap_107 post x 0 (nI len) n (fun i => nI (t i)) a M O P := by
  refine br_t (by decide) ?_
  refine pd_xkeep 0 rfl (by omega) (by omega) hD (fun z => absurd z (by omega)) (fun _ => ?_)
  exact H
theorem pd_x107c {post : Int32 → SX → Prop} {x c y : Int32} (h : pd_cy len c y) (H : post c (nI len, n, (fun i => nI (t i)), a, M, O, P)) : wX_unwrap_107 post x c (nI len) n (fun i => nI (t i)) a M O P := by
  rcases h with ⟨rfl, rfl⟩ | ⟨rfl, rfl⟩ | ⟨rfl, q, hq, rfl⟩
  · exact br_f (by decide) H
  · exact br_f (by decide) H
  · exact br_f (by decide) H
end
theorem i_vc_unwrap {k : Nat} {u : SX} {v : SY} (I : i_Rel k u v) (hk : k + 5 ≤ 2560) : wpX_unwrap (fun r u' => wpY_unwrap (fun r' v' => r' = r ∧ i_Rel (k + 5) u' v') v) u := by
  have J := I
  obtain ⟨t, len, M, O, P, a, n, b, c, ht, hl, hK, rfl, rfl⟩ := I
  rcases Nat.eq_zero_or_pos len with z | z
  · subst z
    exact br_t rfl (br_t rfl ⟨rfl, J⟩)
  · have n0 : ¬ nI len = 0 := nI_ne0 z (by omega)
    have hh := ht 0
    have e0 : (fun i => nI (t i)) 0 = nI (t 0) := rfl
    have startX : ∀ post, (nI (t 0) < 192 → wX_unwrap_29 post (nI (t 0)) 0 (nI len) n (fun i => nI (t i)) a M O P) ∧ (¬ nI (t 0) < 192 → wX_unwrap_29 post (nI (t 0)) 1 (nI len) n (fun i => nI (t i)) a M O P) → wpX_unwrap post (nI len, n, (fun i => nI (t i)), a, M, O, P) := fun post H => br_f n0 (nm_r e0 H)
    have startY : ∀ post, (nI (t 0) ≤ 191 → wY_unwrap_29 post (nI (t 0)) 0 (nI len) c (fun i => nI (t i)) b M O P) ∧ (¬ nI (t 0) ≤ 191 → wY_unwrap_29 post (nI (t 0)) 1 (nI len) c (fun i => nI (t i)) b M O P) → wpY_unwrap post (nI len, c, (fun i => nI (t i)), b, M, O, P) := fun post H => br_f n0 (nm_r e0 H)
    generalize t 0 = h at hh startX startY
    have bad : (∀ post, post (-1) (nI len, n, (fun i => nI (t i)), a, M, O, P) → wpX_unwrap post (nI len, n, (fun i => nI (t i)), a, M, O, P)) → (∀ post, post (-1) (nI len, c, (fun i => nI (t i)), b, M, O, P) → wpY_unwrap post (nI len, c, (fun i => nI (t i)), b, M, O, P)) → wpX_unwrap (fun r u' => wpY_unwrap (fun r' v' => r' = r ∧ i_Rel (k + 5) u' v') (nI len, c, (fun i => nI (t i)), b, M, O, P)) (nI len, n, (fun i => nI (t i)), a, M, O, P) := fun hX hY => hX _ (hY _ ⟨rfl, J⟩)
    rcases Nat.lt_or_ge h 192 with g | g
    · have lt192 : nI h < 192 := nI_lt (b := 192) g (by decide)
      have le191 : nI h ≤ 191 := nI_le (b := 191) (by omega) (by decide)
      have e3 : nI h &&& 3 = nI (h % 4) := pk_andN (by omega) 2 (by decide)
      rcases Nat.lt_or_ge h 128 with g2 | g2
      · refine bad (fun post H => startX post (br_t lt192 ?_)) (fun post H => startY post (br_t le191 ?_))
        · exact nm_e (br_t rfl (br_t (nI_lt (b := 128) g2 (by decide)) H))
        · exact br_t rfl (br_t (nI_lt (b := 128) g2 (by decide)) H)
      · have nlt : ¬ nI h < 128 := nI_nlt (b := 128) g2 (by omega)
        have eX : (nI h - 128) >>> ((2 : Int32) &&& 31) = nI ((h - 128) / 4) := by
          have e : nI h - 128 = nI (h - 128) := pk_sub (b := 128) g2
          rw [e]
          exact pk_shrN (by omega) _ 2 (by decide)
        have eY : (nI h >>> ((2 : Int32) &&& 31)) &&& 15 = nI ((h - 128) / 4) := by
          have e : nI h >>> ((2 : Int32) &&& 31) = nI (h / 4) := pk_shrN (by omega) _ 2 (by decide)
          rw [e, pk_andN (by omega) 4 (by decide), show h / 4 % 2 ^ 4 = (h - 128) / 4 by omega]
        have s1 : ∀ post, wX_unwrap_53 post (nI h) 0 (nI (h % 4)) (nI ((h - 128) / 4)) (nI len) n (fun i => nI (t i)) a M O P → wpX_unwrap post (nI len, n, (fun i => nI (t i)), a, M, O, P) := by
          intro post H
          refine startX post (br_t lt192 ?_)
          refine nm_r e3 (br_t rfl ?_)
          rw [eX]
          exact H
        have s2 : ∀ post, wY_unwrap_48 post (nI h) 0 (nI ((h - 128) / 4)) (nI len) c (fun i => nI (t i)) b M O P → wpY_unwrap post (nI len, c, (fun i => nI (t i)), b, M, O, P) := by
          intro post H
          refine startY post (br_t le191 ?_)
          refine br_t rfl ?_
          rw [eY]
          exact H
        have hs4 : h % 4 < 4 := Nat.mod_lt _ (by decide)
        have h16 : (h - 128) / 4 < 16 := by omega
        generalize (h - 128) / 4 = tag at s1 s2 h16
        rcases Nat.eq_zero_or_pos tag with y | y
        · subst y
          refine bad (fun post H => s1 post ?_) (fun post H => s2 post ?_)
          · exact br_f nlt (br_t (by decide) H)
          · exact br_f nlt (br_t rfl H)
        · have t1 : ¬ nI tag < 1 := nI_nlt (b := 1) y (by omega)
          have t0 : ¬ nI tag = 0 := nI_ne0 y (by omega)
          have t15 : ¬ 15 < nI tag := nI_nlt (a := 15) (by omega) (by decide)
          rw [← e3] at s1
          by_cases x : h % 4 = 2
          · have e32 : nI h &&& 3 = 2 := by rw [e3, x]; rfl
            refine bad (fun post H => s1 post ?_) (fun post H => s2 post ?_)
            · exact br_f nlt (br_f t1 (br_f t15 (br_t rfl (br_t e32 H))))
            · exact br_f nlt (br_f t0 (br_f t15 (br_t rfl (br_t e32 H))))
          · have e32 : ¬ nI h &&& 3 = 2 := by
              rw [e3]
              intro q
              exact absurd ((nI_eq (b := 2) (by omega) (by decide)).mp q) x
            have r1 : ∀ post, wX_unwrap_86 post 0 (nI (h % 4)) (nI tag) (nI len) n (fun i => nI (t i)) a M O P → wpX_unwrap post (nI len, n, (fun i => nI (t i)), a, M, O, P) := by
              intro post H
              refine s1 post ?_
              rw [← e3] at H
              exact br_f nlt (br_f t1 (br_f t15 (br_t rfl (br_f e32 H))))
            have r2 : ∀ post, wY_unwrap_79 post (nI h) 0 (nI tag) (nI len) c (fun i => nI (t i)) b M O P → wpY_unwrap post (nI len, c, (fun i => nI (t i)), b, M, O, P) := by
              intro post H
              refine s2 post ?_
              exact br_f nlt (br_f t0 (br_f t15 (br_t rfl (br_f e32 H))))
            rcases pd_olds (M := M) (O := O) (P := P) ht hl z (h % 4) (by omega) with ⟨cc, yy, hcy, hX, hY⟩ | ⟨L, hB, hL, hX, hY⟩
            · refine pd_finC (k + 5) (r := cc) ht hl hK (fun post => wpX_unwrap post (nI len, n, (fun i => nI (t i)), a, M, O, P)) (fun post => wpY_unwrap post (nI len, c, (fun i => nI (t i)), b, M, O, P)) ?_ ?_
              · intro post H
                refine r1 post (br_t rfl ?_)
                refine hX _ ?_ a
                intro a' n'
                exact pd_x107c hcy (H a' n')
              · intro post H
                refine r2 post (br_t rfl ?_)
                rw [e3]
                refine hY _ ?_ b
                intro a' n'
                exact pd_y102c hl hcy (H a' n')
            · refine pd_fin (k + 5) (r := nI tag) (L := L) (f := 0) ht hl hK hB (fun post => wpX_unwrap post (nI len, n, (fun i => nI (t i)), a, M, O, P)) (fun post => wpY_unwrap post (nI len, c, (fun i => nI (t i)), b, M, O, P)) ?_ ?_
              · intro post H
                refine r1 post (br_t rfl ?_)
                refine hX _ ?_ a
                intro a' n' hD
                exact pd_x107k hL hD ((H a' n').2 hL)
              · intro post H
                refine r2 post (br_t rfl ?_)
                rw [e3]
                refine hY _ ?_ b
                intro a' n' hD
                exact pd_y102k hl hL hD ((H a' n').2 hL)
    · have nlt192 : ¬ nI h < 192 := nI_nlt (b := 192) g (by omega)
      have nle191 : ¬ nI h ≤ 191 := nI_ge (a := 191) (by omega) (by omega)
      have nlt : ¬ nI h < 128 := nI_nlt (b := 128) (by omega) (by omega)
      have et : nI h - 192 = nI (h - 192) := pk_sub (b := 192) g
      have s1 : ∀ post, (∀ x3, wX_unwrap_53 post (nI h) 1 x3 (nI (h - 192)) (nI len) n (fun i => nI (t i)) a M O P) → wpX_unwrap post (nI len, n, (fun i => nI (t i)), a, M, O, P) := by
        intro post H
        refine startX post (br_f nlt192 ?_)
        refine nm_e (br_f pd_n10 ?_)
        rw [et]
        exact H _
      have s2 : ∀ post, wY_unwrap_48 post (nI h) 1 (nI (h - 192)) (nI len) c (fun i => nI (t i)) b M O P → wpY_unwrap post (nI len, c, (fun i => nI (t i)), b, M, O, P) := by
        intro post H
        refine startY post (br_f nle191 ?_)
        refine br_f pd_n10 ?_
        rw [et]
        exact H
      have h64 : h - 192 < 64 := by omega
      generalize h - 192 = tag at s1 s2 h64
      rcases Nat.eq_zero_or_pos tag with y | y
      · subst y
        refine bad (fun post H => s1 post (fun x3 => ?_)) (fun post H => s2 post ?_)
        · exact br_f nlt (br_t (by decide) H)
        · exact br_f nlt (br_t rfl H)
      · have t1 : ¬ nI tag < 1 := nI_nlt (b := 1) y (by omega)
        have t0 : ¬ nI tag = 0 := nI_ne0 y (by omega)
        rcases Nat.lt_or_ge 15 tag with x | x
        · have t15 : 15 < nI tag := nI_lt (a := 15) x (by omega)
          refine bad (fun post H => s1 post (fun x3 => ?_)) (fun post H => s2 post ?_)
          · exact br_f nlt (br_f t1 (br_t t15 H))
          · exact br_f nlt (br_f t0 (br_t t15 H))
        · have t15 : ¬ 15 < nI tag := nI_nlt (a := 15) x (by decide)
          have r1 : ∀ post, (∀ x3, wX_unwrap_86 post 1 x3 (nI tag) (nI len) n (fun i => nI (t i)) a M O P) → wpX_unwrap post (nI len, n, (fun i => nI (t i)), a, M, O, P) := by
            intro post H
            refine s1 post (fun x3 => ?_)
            exact br_f nlt (br_f t1 (br_f t15 (br_f pd_n10 (H x3))))
          have r2 : ∀ post, wY_unwrap_79 post (nI h) 1 (nI tag) (nI len) c (fun i => nI (t i)) b M O P → wpY_unwrap post (nI len, c, (fun i => nI (t i)), b, M, O, P) := by
            intro post H
            refine s2 post ?_
            exact br_f nlt (br_f t0 (br_f t15 (br_f pd_n10 H)))
          rcases pd_news (M := M) (O := O) (P := P) ht hl (len + 1) 1 [] (by omega) (by omega) z pd_By_nil (by simp) with ⟨cc, yy, hcy, hX, hY⟩ | ⟨L, hB, hL, hX, hY⟩
          · refine pd_finC (k + 5) (r := cc) ht hl hK (fun post => wpX_unwrap post (nI len, n, (fun i => nI (t i)), a, M, O, P)) (fun post => wpY_unwrap post (nI len, c, (fun i => nI (t i)), b, M, O, P)) ?_ ?_
            · intro post H
              refine r1 post (fun x3 => br_f pd_n10 ?_)
              refine ⟨len + 1, hX _ ?_ (len + 1) 0 a 0 (by omega) (by omega) (pd_D_nil 120 a)⟩
              intro a' n'
              exact pd_x107c hcy (H a' n')
            · intro post H
              refine r2 post (br_f pd_n10 ?_)
              refine ⟨len + 2, hY _ ?_ (len + 2) b 0 (by omega) (pd_D_nil 400 b)⟩
              intro a' n'
              exact pd_y102c hl hcy (H a' n')
          · refine pd_fin (k + 5) (r := nI tag) (L := L) (f := 0) ht hl hK hB (fun post => wpX_unwrap post (nI len, n, (fun i => nI (t i)), a, M, O, P)) (fun post => wpY_unwrap post (nI len, c, (fun i => nI (t i)), b, M, O, P)) ?_ ?_
            · intro post H
              refine r1 post (fun x3 => br_f pd_n10 ?_)
              refine ⟨len + 1, hX _ ?_ (len + 1) 0 a 0 (by omega) (by omega) (pd_D_nil 120 a)⟩
              intro a' n' hD
              exact pd_x107k hL hD ((H a' n').2 hL)
            · intro post H
              refine r2 post (br_f pd_n10 ?_)
              refine ⟨len + 2, hY _ ?_ (len + 2) b 0 (by omega) (pd_D_nil 400 b)⟩
              intro a' n' hD
              exact pd_y102k hl hL hD ((H a' n').2 hL)
