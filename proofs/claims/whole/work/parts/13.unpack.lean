/-! unpack -/
section
variable {len n : Int32} {w a : Nat → Int32} {t : Nat → Nat} {M O P : Nat → Int64} {L : List Nat}
theorem pd_xprL {post : SX → Prop} {b c : Nat} (hc : c ≤ 1000) (hL : L.length < 50000) (H : ∀ a' n', pd_D 120 a' n' (L ++ pd_sl (fun _ => b) 0 c) → post (len, n', w, a', M, O, P)) : ∀ (d i m : Nat) (a : Nat → Int32) (n : Int32), i + d = c → d < m → pd_D 120 a n (L ++ pd_sl (fun _ => b) 0 i) → wX_putRun_2 post (nI b) (nI c) m (nI i) len n w a M O P := by
  intro d
  induction d with
  | zero =>
    intro i m a n hi hm hD
    obtain ⟨m, rfl⟩ : ∃ m', m = m' + 1 := ⟨m - 1, by omega⟩
    have e : i = c := by omega
    subst e
    exact br_t (nI_le (Nat.le_refl _) (by omega)) (H a n hD)
  | succ d ih =>
    intro i m a n hi hm hD
    obtain ⟨m, rfl⟩ : ∃ m', m = m' + 1 := ⟨m - 1, by omega⟩
    refine br_f (nI_ge (by omega) (by omega)) ?_
    refine pd_xput b rfl hD (by rw [List.length_append, pd_sl_len]; omega) ?_
    intro a' n' hD'
    refine nm_r (nI_1 i) ?_
    refine ih (i + 1) m a' n' (by omega) (by omega) ?_
    rw [pd_sl, ← List.append_assoc]
    exact hD'
theorem pd_xpr {post : SX → Prop} {x y : Int32} (b c : Nat) (hx : x = nI b) (hy : y = nI c) (hc : c ≤ 1000) (hD : pd_D 120 a n L) (hL : L.length < 50000) (H : ∀ a' n', pd_D 120 a' n' (L ++ pd_sl (fun _ => b) 0 c) → post (len, n', w, a', M, O, P)) : wpX_putRun post (len, n, w, a, M, O, P) x y := by
  subst hx hy
  exact ⟨c + 1, pd_xprL hc hL H c 0 (c + 1) a n (by omega) (by omega) (by rw [pd_sl, List.append_nil]; exact hD)⟩
theorem pd_y126 {post : Int32 → SY → Prop} {J : Int32 → Int32 → Int32 → (Nat → Int32) → (Nat → Int32) → (Nat → Int64) → (Nat → Int64) → (Nat → Int64) → Prop} {f c : Nat} (ht : ∀ i, t i < 256) (hf : f < 120) (hc : c ≤ 1000) (hL : L.length < 50000) (H : ∀ a' n', pd_D 400 a' n' (L ++ pd_sl (fun _ => t f) 0 c) → J (nI (f + 1)) len n' (fun i => nI (t i)) a' M O P) : ∀ (d i m : Nat) (a : Nat → Int32) (n : Int32), i + d = c → d < m → pd_D 400 a n (L ++ pd_sl (fun _ => t f) 0 i) → wY_unpack_126 post J (nI f) (nI c) m (nI i) len n (fun i => nI (t i)) a M O P := by
  intro d
  induction d with
  | zero =>
    intro i m a n hi hm hD
    obtain ⟨m, rfl⟩ : ∃ m', m = m' + 1 := ⟨m - 1, by omega⟩
    have e : i = c := by omega
    subst e
    exact br_t (nI_le (Nat.le_refl _) (by omega)) (nm_r (nI_1 f) (H a n hD))
  | succ d ih =>
    intro i m a n hi hm hD
    obtain ⟨m, rfl⟩ : ∃ m', m = m' + 1 := ⟨m - 1, by omega⟩
    refine br_f (nI_ge (by omega) (by omega)) ⟨vp_in_nI hf (by decide), ?_⟩
    refine pd_yputb (t f) (pd_cl (by omega)) (ht f) hD (by rw [List.length_append, pd_sl_len]; omega) ?_
    intro a' n' hD'
    refine nm_r (nI_1 i) ?_
    refine ih (i + 1) m a' n' (by omega) (by omega) ?_
    rw [pd_sl, ← List.append_assoc]
    exact hD'
end
theorem pd_unps {t : Nat → Nat} {M O P : Nat → Int64} {len : Nat} (ht : ∀ i, t i < 256) (hl : len ≤ 120) : ∀ (d f : Nat) (L : List Nat), len - f < d → f ≤ len → pd_By L → L.length ≤ 120 → (∃ r : Int32, (∀ (post : Int32 → SX → Prop) (m c : Nat) (a : Nat → Int32) (n : Int32), c ≤ f → len - f < m → pd_D 120 a n L → pd_XC post r t len M O P → wX_unpack_9 post m (nI f) (nI c) (nI len) n (fun i => nI (t i)) a M O P) ∧ (∀ (post : Int32 → SY → Prop) (m : Nat) (a : Nat → Int32) (n : Int32), len - f < m → pd_D 400 a n L → pd_YC post r t len M O P → wY_unpack_7 post m (nI f) (nI len) n (fun i => nI (t i)) a M O P)) ∨ (∃ L' : List Nat, pd_By L' ∧ L'.length ≤ 120 ∧ (∀ (post : Int32 → SX → Prop) (m c : Nat) (a : Nat → Int32) (n : Int32), c ≤ f → len - f < m → pd_D 120 a n L → pd_XK post (nI (L'.length - 0)) t len M O P L' 0 → wX_unpack_9 post m (nI f) (nI c) (nI len) n (fun i => nI (t i)) a M O P) ∧ (∀ (post : Int32 → SY → Prop) (m : Nat) (a : Nat → Int32) (n : Int32), len - f < m → pd_D 400 a n L → pd_YK post (nI (L'.length - 0)) t len M O P L' 0 → wY_unpack_7 post m (nI f) (nI len) n (fun i => nI (t i)) a M O P)) := by
  intro d
  induction d with
  | zero => intro f L h; exact absurd h (Nat.not_lt_zero _)
  | succ d ih =>
    intro f L hd hf hB hL
    rcases Nat.lt_or_ge f len with z | z
    · have hh := ht f
      have e1 : nI f + 1 = nI (f + 1) := nI_1 f
      have stX : ∀ (post : Int32 → SX → Prop) (m c : Nat) (a : Nat → Int32) (n : Int32), c ≤ f → ((nI (t f) < 128 → wX_unpack_42 post (wX_unpack_9 post m) (nI f) (nI c) (nI (t f)) 0 (nI len) n (fun i => nI (t i)) a M O P) ∧ (¬ nI (t f) < 128 → wX_unpack_42 post (wX_unpack_9 post m) (nI f) (nI c) (nI (t f)) 1 (nI len) n (fun i => nI (t i)) a M O P)) → wX_unpack_9 post (m + 1) (nI f) (nI c) (nI len) n (fun i => nI (t i)) a M O P := by
        intro post m c a n hc H
        refine br_f (nI_ge (b := 120) (by omega) (by decide)) (br_f (nI_ge z (by omega)) ⟨vp_in_nI (by omega) (by decide), ?_⟩)
        exact nm_r (pd_cl (by omega)) H
      have stY : ∀ (post : Int32 → SY → Prop) (m : Nat) (a : Nat → Int32) (n : Int32), ((191 < nI (t f) → post (-4) (nI len, n, (fun i => nI (t i)), a, M, O, P)) ∧ (¬ 191 < nI (t f) → ((nI (t f) ≤ 63 → wY_unpack_48 post (wY_unpack_7 post m) (nI (f + 1)) (nI (t f)) (nI len) n (fun i => nI (t i)) a M O P) ∧ (¬ nI (t f) ≤ 63 → ((128 ≤ nI (t f) → wY_unpack_48 post (wY_unpack_7 post m) (nI (f + 1)) (nI (t f)) (nI len) n (fun i => nI (t i)) a M O P) ∧ (¬ 128 ≤ nI (t f) → post (-4) (nI len, n, (fun i => nI (t i)), a, M, O, P))))))) → wY_unpack_7 post (m + 1) (nI f) (nI len) n (fun i => nI (t i)) a M O P := by
        intro post m a n H
        exact br_f (nI_ge z (by omega)) (nm_r e1 ⟨vp_in_nI (by omega) (by decide), nm_r (pd_cl (by omega)) H⟩)
      generalize t f = h at hh stX stY
      by_cases hg : h < 64 ∨ (128 ≤ h ∧ h < 192)
      · -- taken: bytes behind the mark; cnt: bytes made; D: what is made
        obtain ⟨tk, ct, D, h1, h2, h3, h4, hc⟩ : ∃ (tk ct : Nat) (D : List Nat), 1 ≤ tk ∧ tk ≤ 64 ∧ ct ≤ 70 ∧ D.length = ct ∧ ((h < 64 ∧ tk = h + 1 ∧ ct = h + 1 ∧ D = pd_sl t (f + 1) ct) ∨ (128 ≤ h ∧ h < 192 ∧ tk = 1 ∧ ct = h - 125 ∧ D = pd_sl (fun _ => t (f + 1)) 0 ct)) := by
          rcases hg with y | ⟨y, x⟩
          · exact ⟨h + 1, h + 1, pd_sl t (f + 1) (h + 1), by omega, by omega, by omega, pd_sl_len _ _ _, Or.inl ⟨y, rfl, rfl, rfl⟩⟩
          · exact ⟨1, h - 125, pd_sl (fun _ => t (f + 1)) 0 (h - 125), by omega, by omega, by omega, pd_sl_len _ _ _, Or.inr ⟨y, x, rfl, rfl, rfl⟩⟩
        have hDB : pd_By D := by
          rcases hc with ⟨_, _, _, x⟩ | ⟨_, _, _, _, x⟩
          · rw [x]; exact pd_sl_By ht _ _
          · rw [x]; exact pd_sl_By (fun _ => ht _) _ _
        have ef : (nI f + 1) + nI tk = nI (f + 1 + tk) := by rw [nI_1, nI_add]
        rcases Nat.lt_or_ge len (f + 1 + tk) with y | y
        · refine Or.inl ⟨-3, ?_, ?_⟩
          · intro post m c a n hc' hm hD H
            obtain ⟨m, rfl⟩ : ∃ m', m = m' + 1 := ⟨m - 1, by omega⟩
            refine stX post m c a n hc' ?_
            have fin : ∀ x4 x5, wX_unpack_83 post (wX_unpack_9 post m) (nI f) (nI c) x4 x5 (nI tk) (nI len) n (fun i => nI (t i)) a M O P := fun x4 x5 => br_f (by rw [ef]; exact nI_ge y (by omega)) (H a n)
            rcases hc with ⟨g1, g2, g3, g4⟩ | ⟨g0, g1, g2, g3, g4⟩
            · refine br_t (nI_lt (b := 128) (by omega) (by decide)) (br_t rfl (br_t (nI_lt (b := 64) g1 (by decide)) (br_t rfl ?_)))
              have q := fin 0 (nI h)
              rw [g2, ← nI_1] at q
              exact q
            · have e : nI h - 128 = nI (h - 128) := pk_sub (b := 128) g0
              refine br_f (nI_nlt (b := 128) g0 (by omega)) (br_f pd_n10 (br_t (by rw [e]; exact nI_lt (b := 64) (by omega) (by decide)) (br_f pd_n10 ?_)))
              have q := fin 1 (nI h - 128)
              rw [g2] at q
              exact q
          · intro post m a n hm hD H
            obtain ⟨m, rfl⟩ : ∃ m', m = m' + 1 := ⟨m - 1, by omega⟩
            refine stY post m a n ?_
            have ef' : nI (f + 1) + nI tk = nI (f + 1 + tk) := nI_add _ _
            have fin : ∀ x2 x3, wY_unpack_77 post (wY_unpack_7 post m) (nI (f + 1)) x2 x3 (nI tk) (nI (f + 1)) (nI len) n (fun i => nI (t i)) a M O P := fun x2 x3 => br_f (by rw [ef']; exact nI_ge y (by omega)) (H a n)
            rcases hc with ⟨g1, g2, g3, g4⟩ | ⟨g0, g1, g2, g3, g4⟩
            · refine br_f (nI_nlt (a := 191) (by omega) (by decide)) (br_t (nI_le (b := 63) (by omega) (by decide)) ?_)
              refine br_f (nI_ge (b := 64) g1 (by decide)) (br_f (nI_ge (b := 64) g1 (by decide)) ?_)
              have q := fin (nI h) (nI h + 1)
              rw [g2, ← nI_1 h] at q
              exact q
            · refine br_f (nI_nlt (a := 191) (by omega) (by decide)) (br_f (nI_ge (a := 63) (by omega) (by omega)) (br_t (nI_le (a := 128) g0 (by omega)) ?_))
              refine br_t (nI_le (a := 64) (by omega) (by omega)) (br_t (nI_le (a := 64) (by omega) (by omega)) ?_)
              have q := fin (nI h) (nI h - 125)
              rw [g2] at q
              exact q
        · have wt := ht (f + 1)
          -- X: to the look at the count
          have mX : ∀ (post : Int32 → SX → Prop) (m c : Nat) (a : Nat → Int32) (n : Int32), c ≤ f → pd_D 120 a n L → (∀ a' n', pd_D 120 a' n' (L ++ D) → wX_unpack_134 post (wX_unpack_9 post m) (nI f) (nI c) (nI tk) (nI len) n' (fun i => nI (t i)) a' M O P) → wX_unpack_9 post (m + 1) (nI f) (nI c) (nI len) n (fun i => nI (t i)) a M O P := by
            intro post m c a n hc' hD H
            refine stX post m c a n hc' ?_
            rcases hc with ⟨g1, g2, g3, g4⟩ | ⟨g0, g1, g2, g3, g4⟩
            · have eh : nI h + 1 = nI tk := by rw [nI_1, g2]
              refine br_t (nI_lt (b := 128) (by omega) (by decide)) (br_t rfl (br_t (nI_lt (b := 64) g1 (by decide)) (br_t rfl ?_)))
              rw [eh]
              refine br_t (by rw [ef]; exact nI_le y (by omega)) (br_t rfl ?_)
              refine pd_xpw (f + 1) tk e1 rfl (by omega) hD (by omega) (fun a' n' hD' => ?_)
              refine H a' n' ?_
              rw [g4, g3, ← g2]
              exact hD'
            · have e : nI h - 128 = nI (h - 128) := pk_sub (b := 128) g0
              subst g2
              refine br_f (nI_nlt (b := 128) g0 (by omega)) (br_f pd_n10 (br_t (by rw [e]; exact nI_lt (b := 64) (by omega) (by decide)) (br_f pd_n10 ?_)))
              refine br_t ?_ (br_f pd_n10 ⟨by rw [e1]; exact vp_in_nI (by omega) (by decide), ?_⟩)
              · have q : (nI f + 1) + nI 1 ≤ nI len := by rw [ef]; exact nI_le y (by omega)
                exact q
              refine pd_xpr (t (f + 1)) ct (by rw [e1, nI_clamp (by omega)]) ?_ (by omega) hD (by omega) (fun a' n' hD' => ?_)
              · rw [e, g3]
                have e3 : nI (h - 128) + 3 = nI (h - 128 + 3) := nI_add _ 3
                rw [e3, show h - 128 + 3 = h - 125 by omega]
              · refine H a' n' ?_
                rw [g4]
                exact hD'
          have mY : ∀ (post : Int32 → SY → Prop) (m : Nat) (a : Nat → Int32) (n : Int32), pd_D 400 a n L → (120 < L.length + ct → post (-2) (nI len, n, (fun i => nI (t i)), a, M, O, P)) → (L.length + ct ≤ 120 → ∀ a' n', pd_D 400 a' n' (L ++ D) → wY_unpack_7 post m (nI (f + 1 + tk)) (nI len) n' (fun i => nI (t i)) a' M O P) → wY_unpack_7 post (m + 1) (nI f) (nI len) n (fun i => nI (t i)) a M O P := by
            intro post m a n hD H1 H2
            refine stY post m a n ?_
            have ef' : nI (f + 1) + nI tk = nI (f + 1 + tk) := nI_add _ _
            have en : n + nI ct = nI (L.length + ct) := by rw [hD.1, nI_add]
            rcases hc with ⟨g1, g2, g3, g4⟩ | ⟨g0, g1, g2, g3, g4⟩
            · have eh : nI h + 1 = nI tk := by rw [nI_1, g2]
              have etc : tk = ct := by omega
              refine br_f (nI_nlt (a := 191) (by omega) (by decide)) (br_t (nI_le (b := 63) (by omega) (by decide)) ?_)
              refine br_f (nI_ge (b := 64) g1 (by decide)) (br_f (nI_ge (b := 64) g1 (by decide)) ?_)
              rw [eh]
              refine br_t (by rw [ef']; exact nI_le y (by omega)) (pk_le (L.length + ct) 120 (fun q => ?_) (fun q => H1 q) (by rw [etc]; exact en))
              refine br_f (nI_ge (b := 64) g1 (by decide)) ?_
              refine pd_ypw (f + 1) tk rfl ef' ht (by omega) hD (by omega) (fun a' n' hD' => ?_)
              refine nm_r ef' (H2 q a' n' ?_)
              rw [g4, ← etc]
              exact hD'
            · have eh : nI h - 125 = nI ct := by rw [g3]; exact pk_sub (b := 125) (by omega)
              subst g2
              refine br_f (nI_nlt (a := 191) (by omega) (by decide)) (br_f (nI_ge (a := 63) (by omega) (by omega)) (br_t (nI_le (a := 128) g0 (by omega)) ?_))
              refine br_t (nI_le (a := 64) (by omega) (by omega)) (br_t (nI_le (a := 64) (by omega) (by omega)) ?_)
              rw [eh]
              refine br_t ?_ (pk_le (L.length + ct) 120 (fun q => ?_) (fun q => H1 q) en)
              · have q : nI (f + 1) + nI 1 ≤ nI len := by rw [ef']; exact nI_le y (by omega)
                exact q
              refine br_t (nI_le (a := 64) (by omega) (by omega)) ⟨ct + 1, ?_⟩
              refine pd_y126 (L := L) ht (by omega) (by omega) (by omega) (fun a' n' hD' => ?_) ct 0 (ct + 1) a n (by omega) (by omega) (by rw [pd_sl, List.append_nil]; exact hD)
              refine H2 q a' n' ?_
              rw [g4]
              exact hD'
          rcases Nat.lt_or_ge 120 (L.length + ct) with x | x
          · refine Or.inl ⟨-2, ?_, ?_⟩
            · intro post m c a n hc' hm hD H
              obtain ⟨m, rfl⟩ : ∃ m', m = m' + 1 := ⟨m - 1, by omega⟩
              refine mX post m c a n hc' hD (fun a' n' hD' => ?_)
              exact br_f (by rw [hD'.1, pd_app, h4]; exact nI_ge (a := 120) x (by omega)) (H a' n')
            · intro post m a n hm hD H
              obtain ⟨m, rfl⟩ : ∃ m', m = m' + 1 := ⟨m - 1, by omega⟩
              exact mY post m a n hD (fun _ => H a n) (fun q => absurd q (by omega))
          · have goX : ∀ (post : Int32 → SX → Prop), (∀ (m c : Nat) (a : Nat → Int32) (n : Int32), c ≤ f + 1 + tk → len - (f + 1 + tk) < m → pd_D 120 a n (L ++ D) → wX_unpack_9 post m (nI (f + 1 + tk)) (nI c) (nI len) n (fun i => nI (t i)) a M O P) → ∀ (m c : Nat) (a : Nat → Int32) (n : Int32), c ≤ f → len - f < m → pd_D 120 a n L → wX_unpack_9 post m (nI f) (nI c) (nI len) n (fun i => nI (t i)) a M O P := by
              intro post H m c a n hc' hm hD
              obtain ⟨m, rfl⟩ : ∃ m', m = m' + 1 := ⟨m - 1, by omega⟩
              refine mX post m c a n hc' hD (fun a' n' hD' => ?_)
              have ea : nI f + (1 + nI tk) = nI (f + 1 + tk) := by
                have e : (1 : Int32) + nI tk = nI (1 + tk) := nI_add 1 tk
                rw [e, nI_add, Nat.add_assoc]
              exact br_t (by rw [hD'.1, pd_app, h4]; exact nI_le (b := 120) x (by decide)) (nm_r ea (nm_r (nI_1 c) (H m (c + 1) a' n' (by omega) (by omega) hD')))
            have goY : ∀ (post : Int32 → SY → Prop), (∀ (m : Nat) (a : Nat → Int32) (n : Int32), len - (f + 1 + tk) < m → pd_D 400 a n (L ++ D) → wY_unpack_7 post m (nI (f + 1 + tk)) (nI len) n (fun i => nI (t i)) a M O P) → ∀ (m : Nat) (a : Nat → Int32) (n : Int32), len - f < m → pd_D 400 a n L → wY_unpack_7 post m (nI f) (nI len) n (fun i => nI (t i)) a M O P := by
              intro post H m a n hm hD
              obtain ⟨m, rfl⟩ : ∃ m', m = m' + 1 := ⟨m - 1, by omega⟩
              exact mY post m a n hD (fun q => absurd q (by omega)) (fun _ a' n' hD' => H m a' n' (by omega) hD')
            rcases ih (f + 1 + tk) (L ++ D) (by omega) y (pd_By_app hB hDB) (by rw [pd_app, h4]; exact x) with ⟨r, hX, hY⟩ | ⟨L', hB', hL', hX, hY⟩
            · refine Or.inl ⟨r, ?_, ?_⟩
              · intro post m c a n hc' hm hD H
                exact goX post (fun m c a n p1 p2 p3 => hX post m c a n p1 p2 p3 H) m c a n hc' hm hD
              · intro post m a n hm hD H
                exact goY post (fun m a n p2 p3 => hY post m a n p2 p3 H) m a n hm hD
            · refine Or.inr ⟨L', hB', hL', ?_, ?_⟩
              · intro post m c a n hc' hm hD H
                exact goX post (fun m c a n p1 p2 p3 => hX post m c a n p1 p2 p3 H) m c a n hc' hm hD
              · intro post m a n hm hD H
                exact goY post (fun m a n p2 p3 => hY post m a n p2 p3 H) m a n hm hD
      · refine Or.inl ⟨-4, ?_, ?_⟩
        · intro post m c a n hc hm hD H
          obtain ⟨m, rfl⟩ : ∃ m', m = m' + 1 := ⟨m - 1, by omega⟩
          refine stX post m c a n hc ?_
          refine pk_lt h 128 (fun y => ?_) (fun y => ?_)
          · exact br_t rfl (br_f (nI_nlt (b := 64) (by omega) (by omega)) (H a n))
          · have e : nI h - 128 = nI (h - 128) := pk_sub (b := 128) y
            exact br_f pd_n10 (br_f (by rw [e]; exact nI_nlt (b := 64) (by omega) (by omega)) (H a n))
        · intro post m a n hm hD H
          obtain ⟨m, rfl⟩ : ∃ m', m = m' + 1 := ⟨m - 1, by omega⟩
          refine stY post m a n ?_
          exact pk_lt 191 h (fun _ => H a n) (fun y => br_f (nI_ge (a := 63) (by omega) (by omega)) (br_f (nI_ge (b := 128) (by omega) (by decide)) (H a n)))
    · have e : f = len := by omega
      subst e
      refine Or.inr ⟨L, hB, hL, ?_, ?_⟩
      · intro post m c a n hc hm hD H
        obtain ⟨m, rfl⟩ : ∃ m', m = m' + 1 := ⟨m - 1, by omega⟩
        have fin : wX_unpack_159 post (nI f) n (fun i => nI (t i)) a M O P := pd_XKb (by omega) H hD
        exact pk_le 120 c (fun _ => fin) (fun _ => br_t (nI_le (Nat.le_refl _) (by omega)) fin)
      · intro post m a n hm hD H
        obtain ⟨m, rfl⟩ : ∃ m', m = m' + 1 := ⟨m - 1, by omega⟩
        refine br_t (nI_le (Nat.le_refl _) (by omega)) ?_
        exact pd_YKb (by omega) H hD
theorem i_vc_unpack {k : Nat} {u : SX} {v : SY} (I : i_Rel k u v) (hk : k + 5 ≤ 2560) : wpX_unpack (fun r u' => wpY_unpack (fun r' v' => r' = r ∧ i_Rel (k + 5) u' v') v) u := by
  obtain ⟨t, len, M, O, P, a, n, b, c, ht, hl, hK, rfl, rfl⟩ := I
  rcases pd_unps (M := M) (O := O) (P := P) ht hl (len + 1) 0 [] (by omega) (by omega) pd_By_nil (by simp) with ⟨r, hX, hY⟩ | ⟨L', b1, b2, hX, hY⟩
  · exact pd_finC (k + 5) (r := r) ht hl hK (fun post => wpX_unpack post (nI len, n, (fun i => nI (t i)), a, M, O, P)) (fun post => wpY_unpack post (nI len, c, (fun i => nI (t i)), b, M, O, P)) (fun post H => ⟨len + 1, hX post (len + 1) 0 a 0 (by omega) (by omega) (pd_D_nil 120 a) H⟩) (fun post H => ⟨len + 1, hY post (len + 1) b 0 (by omega) (pd_D_nil 400 b) H⟩)
  · exact pd_fin (k + 5) (r := nI (L'.length - 0)) (L := L') (f := 0) ht hl hK b1 (fun post => wpX_unpack post (nI len, n, (fun i => nI (t i)), a, M, O, P)) (fun post => wpY_unpack post (nI len, c, (fun i => nI (t i)), b, M, O, P)) (fun post H => ⟨len + 1, hX post (len + 1) 0 a 0 (by omega) (by omega) (pd_D_nil 120 a) H⟩) (fun post H => ⟨len + 1, hY post (len + 1) b 0 (by omega) (pd_D_nil 400 b) H⟩)
