/-! unwrap -/
/-- the faults: X's answer c and what Y's inner call gives back, y -/
def pd_cy (len : Nat) (c y : Int32) : Prop := (c = -3 ∧ y = -3) ∨ (c = -4 ∧ y = -4) ∨ (c = -4 ∧ ∃ q, q < len ∧ y = nI q)
/-- the body of a packet: one fault, or one list -/
def pd_Bd (t : Nat → Nat) (len : Nat) (M O P : Nat → Int64) (A : (Int32 → SX → Prop) → Prop) (B : (Int32 → SY → Prop) → Prop) : Prop := (∃ c y : Int32, pd_cy len c y ∧ (∀ post, (∀ a' n', post c (nI len, n', (fun i => nI (t i)), a', M, O, P)) → A post) ∧ (∀ post, (∀ a' n', post y (nI len, n', (fun i => nI (t i)), a', M, O, P)) → B post)) ∨ (∃ L : List Nat, pd_By L ∧ L.length ≤ 120 ∧ (∀ post, (∀ a' n', pd_D 120 a' n' L → post 0 (nI len, n', (fun i => nI (t i)), a', M, O, P)) → A post) ∧ (∀ post, (∀ a' n', pd_D 400 a' n' L → post (nI len) (nI len, n', (fun i => nI (t i)), a', M, O, P)) → B post))
section
variable {n : Int32} {a : Nat → Int32} {t : Nat → Nat} {M O P : Nat → Int64} {L : List Nat} {len : Nat}
theorem pd_x52s {post : Int32 → SX → Prop} {J : Int32 → Int32 → Int32 → Int32 → (Nat → Int32) → (Nat → Int32) → (Nat → Int64) → (Nat → Int64) → (Nat → Int64) → Prop} {x : Int32} {h : Nat} (st sz : Nat) (hl : len ≤ 120) (h1 : 1 ≤ st) (h2 : st ≤ len) (hps : ∀ q : Int32 → Prop, q (nI sz) → wpX_pieceSize q (nI len, n, (fun i => nI (t i)), a, M, O, P) (nI h) (nI (t (st - 1)))) (hz : len < st + sz) (hs : sz < 1000) (H : post (-3) (nI len, n, (fun i => nI (t i)), a, M, O, P)) : wX_draftNewBody_52 post J x (nI h) (nI st) (nI len) n (fun i => nI (t i)) a M O P := by
  have e : nI st - 1 = nI (st - 1) := pk_sub (b := 1) h1
  refine br_t (nI_le h2 (by omega)) ⟨by rw [e]; exact vp_in_nI (by omega) (by decide), ?_⟩
  rw [e, nI_clamp (by omega)]
  refine hps _ ?_
  exact br_f (by rw [nI_add]; exact nI_ge hz (by omega)) H
theorem pd_x52g {post : Int32 → SX → Prop} {J : Int32 → Int32 → Int32 → Int32 → (Nat → Int32) → (Nat → Int32) → (Nat → Int64) → (Nat → Int64) → (Nat → Int64) → Prop} {x : Int32} {h : Nat} (st sz : Nat) (hl : len ≤ 120) (h1 : 1 ≤ st) (hps : ∀ q : Int32 → Prop, q (nI sz) → wpX_pieceSize q (nI len, n, (fun i => nI (t i)), a, M, O, P) (nI h) (nI (t (st - 1)))) (hz : st + sz ≤ len) (hD : pd_D 120 a n L) (hL : L.length < 1000) (H : ∀ a' n', pd_D 120 a' n' (L ++ pd_sl t st sz) → (((224 : Int32) ≤ nI h → ∀ y, y = x + 1 → J (nI (st + sz)) y (nI len) n' (fun i => nI (t i)) a' M O P) ∧ (¬ (224 : Int32) ≤ nI h → ((nI len ≤ nI (st + sz) → post 0 (nI len, n', (fun i => nI (t i)), a', M, O, P)) ∧ (¬ nI len ≤ nI (st + sz) → post (-4) (nI len, n', (fun i => nI (t i)), a', M, O, P)))))) : wX_draftNewBody_52 post J x (nI h) (nI st) (nI len) n (fun i => nI (t i)) a M O P := by
  have e : nI st - 1 = nI (st - 1) := pk_sub (b := 1) h1
  refine br_t (nI_le (by omega) (by omega)) ⟨by rw [e]; exact vp_in_nI (by omega) (by decide), ?_⟩
  rw [e, nI_clamp (by omega)]
  refine hps _ ?_
  refine br_t (by rw [nI_add]; exact nI_le hz (by omega)) ?_
  refine pd_xpw st sz rfl rfl (by omega) hD (by omega) (fun a' n' hD' => ?_)
  exact nm_r (nI_add st sz) (H a' n' hD')
theorem pd_y127s {post : Int32 → SY → Prop} {J : Int32 → Int32 → Int32 → Int32 → (Nat → Int32) → (Nat → Int32) → (Nat → Int64) → (Nat → Int64) → (Nat → Int64) → Prop} {x y : Int32} (st sz : Nat) (hy : y = nI sz) (hz : len < st + sz) (hs : st + sz < 1000) (H : post (-3) (nI len, n, (fun i => nI (t i)), a, M, O, P)) : wY_pieces_127 post J (nI st) x y (nI len) n (fun i => nI (t i)) a M O P := by
  subst hy
  exact br_f (by rw [nI_add]; exact nI_ge hz (by omega)) H
theorem pd_y127g {post : Int32 → SY → Prop} {J : Int32 → Int32 → Int32 → Int32 → (Nat → Int32) → (Nat → Int32) → (Nat → Int64) → (Nat → Int64) → (Nat → Int64) → Prop} {x y : Int32} (ht : ∀ i, t i < 256) (st sz : Nat) (hy : y = nI sz) (hl : len ≤ 120) (hz : st + sz ≤ len) (hD : pd_D 400 a n L) (hL : L.length < 1000) (H : ∀ a' n', pd_D 400 a' n' (L ++ pd_sl t st sz) → J (nI (st + sz)) x (nI len) n' (fun i => nI (t i)) a' M O P) : wY_pieces_127 post J (nI st) x y (nI len) n (fun i => nI (t i)) a M O P := by
  subst hy
  refine br_t (by rw [nI_add]; exact nI_le hz (by omega)) ?_
  refine pd_ypw st sz rfl (nI_add st sz) ht (by omega) hD (by omega) (fun a' n' hD' => ?_)
  exact nm_r (nI_add st sz) (H a' n' hD')
theorem pd_isz1 {post : Int32 → Prop} {h : Nat} (hh : h < 24 ∨ h = 192 ∨ (224 ≤ h ∧ h ≤ 228)) (H : post 1) : wpX_isSizeByte post (nI len, n, (fun i => nI (t i)), a, M, O, P) (nI h) :=
  pk_lt h 24 (fun _ => H) (fun z => pk_eq h 192 (fun _ => H) (fun y => br_f (nI_nlt (b := 224) (by omega) (by omega)) (br_f (nI_nlt (a := 228) (by omega) (by decide)) H)))
theorem pd_isz0 {post : Int32 → Prop} {h : Nat} (h256 : h < 256) (hh : ¬ (h < 24 ∨ h = 192 ∨ (224 ≤ h ∧ h ≤ 228))) (H : post 0) : wpX_isSizeByte post (nI len, n, (fun i => nI (t i)), a, M, O, P) (nI h) :=
  pk_lt h 24 (fun z => absurd (Or.inl z) hh) (fun z => pk_eq h 192 (fun z => absurd (Or.inr (Or.inl z)) hh) (fun y => pk_lt h 224 (fun _ => H) (fun x => pk_lt 228 h (fun _ => H) (fun q => absurd (Or.inr (Or.inr ⟨x, q⟩)) hh))))
end
theorem pd_224 : ∀ h, 224 ≤ h → h < 229 → (1 : Int32) <<< ((nI h - 224) &&& 31) = nI (2 ^ (h - 224)) ∧ 1 ≤ 2 ^ (h - 224) ∧ 2 ^ (h - 224) ≤ 16 := by
  intro h h1 h2
  have e : nI h - 224 = nI (h - 224) := pk_sub (b := 224) h1
  rw [e]
  exact pd_sz (h - 224) (by omega)
theorem pd_news {t : Nat → Nat} {M O P : Nat → Int64} {len : Nat} (ht : ∀ i, t i < 256) (hl : len ≤ 120) : ∀ (d f : Nat) (L : List Nat), len - f < d → 1 ≤ f → f ≤ len → pd_By L → L.length ≤ f → pd_Bd t len M O P (fun post => ∀ (m c : Nat) (a : Nat → Int32) (n : Int32), c < f → len - f < m → pd_D 120 a n L → wX_draftNewBody_4 post m (nI f) (nI c) (nI len) n (fun i => nI (t i)) a M O P) (fun post => ∀ (m : Nat) (a : Nat → Int32) (n : Int32), len - f + 1 < m → pd_D 400 a n L → wY_pieces_4 post m (nI f) 1 (nI len) n (fun i => nI (t i)) a M O P) := by
  intro d
  induction d with
  | zero => intro f L h; exact absurd h (Nat.not_lt_zero _)
  | succ d ih =>
    intro f L hd h1 hf hB hL
    rcases Nat.lt_or_ge f len with z | z
    · have hh : t f < 256 := ht f
      have ecl : (fun i => nI (t i)) (nI f).toNatClampNeg = nI (t f) := pd_cl (by omega)
      -- what both do before the byte is looked at
      have preX : ∀ (post : Int32 → SX → Prop) (m c : Nat) (a : Nat → Int32) (n : Int32), c < f → wpX_isSizeByte (fun r_5 => (((r_5 = 0 → (post (-4) (nI len, n, (fun i => nI (t i)), a, M, O, P))) ∧ (¬ r_5 = 0 → (((nI (t f) = 192 → (wX_draftNewBody_52 post (wX_draftNewBody_4 post m) (nI c) (nI (t f)) (nI f + 2) (nI len) n (fun i => nI (t i)) a M O P)) ∧ (¬ nI (t f) = 192 → (wX_draftNewBody_52 post (wX_draftNewBody_4 post m) (nI c) (nI (t f)) (nI f + 1) (nI len) n (fun i => nI (t i)) a M O P)))))))) (nI len, n, (fun i => nI (t i)), a, M, O, P) (nI (t f)) → wX_draftNewBody_4 post (m + 1) (nI f) (nI c) (nI len) n (fun i => nI (t i)) a M O P := by
        intro post m c a n hc H
        refine br_f (nI_ge (b := 120) (by omega) (by decide)) (br_f (nI_ge z (by omega)) ⟨vp_in_nI (by omega) (by decide), ?_⟩)
        exact nm_r ecl H
      have preY : ∀ (post : Int32 → SY → Prop) (m : Nat) (a : Nat → Int32) (n : Int32), ((nI (t f) ≤ 223 → (wY_pieces_47 post (wY_pieces_4 post m) (nI (f + 1)) (nI (t f)) (nI len) n (fun i => nI (t i)) a M O P)) ∧ (¬ nI (t f) ≤ 223 → (((229 ≤ nI (t f) → (wY_pieces_47 post (wY_pieces_4 post m) (nI (f + 1)) (nI (t f)) (nI len) n (fun i => nI (t i)) a M O P)) ∧ (¬ 229 ≤ nI (t f) → (wY_pieces_48 post (wY_pieces_4 post m) (nI (f + 1)) (nI (t f)) 1 (nI len) n (fun i => nI (t i)) a M O P)))))) → wY_pieces_4 post (m + 1) (nI f) 1 (nI len) n (fun i => nI (t i)) a M O P := by
        intro post m a n H
        refine br_f pd_n10 (br_f (fun q => absurd ((nI_eq (by omega) (by omega)).mp q) (by omega)) (nm_r (nI_1 f) ⟨vp_in_nI (by omega) (by decide), nm_r ecl H⟩))
      generalize ehd : t f = h at hh preX preY
      by_cases hz : h < 24 ∨ h = 192 ∨ (224 ≤ h ∧ h ≤ 228)
      · rcases Nat.lt_or_ge h 224 with g | g
        · -- the last piece: its start and its size
          have hcase : (h = 192 ∧ f + 1 = len) ∨ ∃ st sz, f + 1 ≤ st ∧ st ≤ len ∧ sz < 300 ∧ ((h = 192 ∧ st = f + 2 ∧ sz = 24 + t (f + 1)) ∨ (h < 24 ∧ st = f + 1 ∧ sz = h)) := by
            by_cases q : h = 192
            · rcases Nat.lt_or_ge (f + 1) len with y | y
              · exact Or.inr ⟨f + 2, 24 + t (f + 1), by omega, by omega, by have := ht (f + 1); omega, Or.inl ⟨q, rfl, rfl⟩⟩
              · exact Or.inl ⟨q, by omega⟩
            · exact Or.inr ⟨f + 1, h, by omega, by omega, by omega, Or.inr ⟨by omega, rfl, rfl⟩⟩
          rcases hcase with ⟨q, y⟩ | ⟨st, sz, s1, s2, s3, hs⟩
          · subst q
            refine Or.inl ⟨-3, -3, Or.inl ⟨rfl, rfl⟩, ?_, ?_⟩
            · intro post H m c a n hc hm hD
              obtain ⟨m, rfl⟩ : ∃ m', m = m' + 1 := ⟨m - 1, by omega⟩
              refine preX post m c a n hc ?_
              refine pd_isz1 (by omega) ?_
              have e : nI f + 2 = nI (f + 2) := nI_add f 2
              rw [e]
              exact br_f pd_n10 (br_t rfl (br_f (nI_ge (by omega) (by omega)) (H a n)))
            · intro post H m a n hm hD
              obtain ⟨m, rfl⟩ : ∃ m', m = m' + 1 := ⟨m - 1, by omega⟩
              refine preY post m a n ?_
              refine br_t (by decide) ?_
              unfold wY_pieces_47
              refine br_f (by decide) (br_t rfl ?_)
              exact br_t rfl (br_t (by rw [y]) (H a n))
          · have hpsX : ∀ (a : Nat → Int32) (n : Int32) (q : Int32 → Prop), q (nI sz) → wpX_pieceSize q (nI len, n, (fun i => nI (t i)), a, M, O, P) (nI h) (nI (t (st - 1))) := by
              intro a n q H
              refine br_t (nI_lt (b := 224) g (by decide)) ?_
              rcases hs with ⟨x1, x2, x3⟩ | ⟨x1, x2, x3⟩
              · subst x1
                refine br_t rfl ?_
                have e : (24 : Int32) + nI (t (st - 1)) = nI sz := by
                  rw [x3, x2]
                  exact nI_add 24 _
                rw [e]
                exact H
              · refine br_f (fun q => absurd ((nI_eq (b := 192) (by omega) (by decide)).mp q) (by omega)) ?_
                rw [← x3]
                exact H
            have stX : ∀ (post : Int32 → SX → Prop) (m c : Nat) (a : Nat → Int32) (n : Int32), c < f → wX_draftNewBody_52 post (wX_draftNewBody_4 post m) (nI c) (nI h) (nI st) (nI len) n (fun i => nI (t i)) a M O P → wX_draftNewBody_4 post (m + 1) (nI f) (nI c) (nI len) n (fun i => nI (t i)) a M O P := by
              intro post m c a n hc H
              refine preX post m c a n hc ?_
              refine pd_isz1 hz ?_
              have e2 : nI f + 2 = nI (f + 2) := nI_add f 2
              have e1 : nI f + 1 = nI (f + 1) := nI_add f 1
              rw [e1, e2]
              rcases hs with ⟨x1, x2, x3⟩ | ⟨x1, x2, x3⟩
              · subst x1
                subst x2
                exact br_f pd_n10 (br_t rfl H)
              · subst x2
                exact br_f pd_n10 (br_f (fun q => absurd ((nI_eq (b := 192) (by omega) (by decide)).mp q) (by omega)) H)
            have stY : ∀ (post : Int32 → SY → Prop) (m : Nat) (a : Nat → Int32) (n : Int32), (∀ y, y = nI sz → wY_pieces_127 post (wY_pieces_4 post m) (nI st) 0 y (nI len) n (fun i => nI (t i)) a M O P) → wY_pieces_4 post (m + 1) (nI f) 1 (nI len) n (fun i => nI (t i)) a M O P := by
              intro post m a n H
              refine preY post m a n ?_
              refine br_t (nI_le (b := 223) (by omega) (by decide)) ?_
              unfold wY_pieces_47
              rcases hs with ⟨x1, x2, x3⟩ | ⟨x1, x2, x3⟩
              · subst x1
                subst x2
                refine br_f (by decide) (br_t rfl ?_)
                refine br_t rfl (br_f (fun q => absurd ((nI_eq (by omega) (by omega)).mp q) (by omega)) ?_)
                refine br_t rfl (br_t rfl (nm_r (nI_1 (f + 1)) ⟨vp_in_nI (by omega) (by decide), ?_⟩))
                refine H _ ?_
                rw [pd_cl (by omega), x3]
                exact nI_add 24 _
              · subst x2
                have ne : ¬ nI h = 192 := fun q => absurd ((nI_eq (b := 192) (by omega) (by decide)).mp q) (by omega)
                refine br_t (nI_le (b := 23) (by omega) (by decide)) ?_
                refine br_f ne ?_
                refine br_t rfl (br_f ne ?_)
                exact H _ (by rw [x3])
            rcases Nat.lt_or_ge len (st + sz) with y | y
            · refine Or.inl ⟨-3, -3, Or.inl ⟨rfl, rfl⟩, ?_, ?_⟩
              · intro post H m c a n hc hm hD
                obtain ⟨m, rfl⟩ : ∃ m', m = m' + 1 := ⟨m - 1, by omega⟩
                refine stX post m c a n hc ?_
                exact pd_x52s st sz hl (by omega) s2 (hpsX a n) y (by omega) (H a n)
              · intro post H m a n hm hD
                obtain ⟨m, rfl⟩ : ∃ m', m = m' + 1 := ⟨m - 1, by omega⟩
                refine stY post m a n (fun x hx => ?_)
                exact pd_y127s st sz hx y (by omega) (H a n)
            · rcases Nat.lt_or_ge (st + sz) len with x | x
              · refine Or.inl ⟨-4, nI (st + sz), Or.inr (Or.inr ⟨rfl, st + sz, x, rfl⟩), ?_, ?_⟩
                · intro post H m c a n hc hm hD
                  obtain ⟨m, rfl⟩ : ∃ m', m = m' + 1 := ⟨m - 1, by omega⟩
                  refine stX post m c a n hc ?_
                  refine pd_x52g st sz hl (by omega) (hpsX a n) y hD (by omega) (fun a' n' _ => ?_)
                  exact br_f (nI_ge (b := 224) g (by decide)) (br_f (nI_ge x (by omega)) (H a' n'))
                · intro post H m a n hm hD
                  obtain ⟨m, rfl⟩ : ∃ m', m = m' + 2 := ⟨m - 2, by omega⟩
                  refine stY post (m + 1) a n (fun w hw => ?_)
                  refine pd_y127g ht st sz hw hl y hD (by omega) (fun a' n' _ => ?_)
                  exact br_t rfl (H a' n')
              · have e : st + sz = len := by omega
                refine Or.inr ⟨L ++ pd_sl t st sz, pd_By_app hB (pd_sl_By ht _ _), by rw [pd_app, pd_sl_len]; omega, ?_, ?_⟩
                · intro post H m c a n hc hm hD
                  obtain ⟨m, rfl⟩ : ∃ m', m = m' + 1 := ⟨m - 1, by omega⟩
                  refine stX post m c a n hc ?_
                  refine pd_x52g st sz hl (by omega) (hpsX a n) y hD (by omega) (fun a' n' hD' => ?_)
                  exact br_f (nI_ge (b := 224) g (by decide)) (br_t (nI_le x (by omega)) (H a' n' hD'))
                · intro post H m a n hm hD
                  obtain ⟨m, rfl⟩ : ∃ m', m = m' + 2 := ⟨m - 2, by omega⟩
                  refine stY post (m + 1) a n (fun w hw => ?_)
                  refine pd_y127g ht st sz hw hl y hD (by omega) (fun a' n' hD' => ?_)
                  have q := H a' n' hD'
                  rw [← e] at q
                  rw [← e]
                  exact br_t rfl q
        · -- a piece ahead of others
          have g2 : h < 229 := by omega
          obtain ⟨esz, z1, z2⟩ := pd_224 h g g2
          generalize 2 ^ (h - 224) = sz at esz z1 z2
          have ne : ¬ nI h = 192 := fun q => absurd ((nI_eq (b := 192) (by omega) (by decide)).mp q) (by omega)
          have hpsX : ∀ (a : Nat → Int32) (n : Int32) (q : Int32 → Prop), q (nI sz) → wpX_pieceSize q (nI len, n, (fun i => nI (t i)), a, M, O, P) (nI h) (nI (t (f + 1 - 1))) := by
            intro a n q H
            refine br_f (nI_nlt (b := 224) g (by omega)) ?_
            rw [esz]
            exact H
          have stX : ∀ (post : Int32 → SX → Prop) (m c : Nat) (a : Nat → Int32) (n : Int32), c < f → wX_draftNewBody_52 post (wX_draftNewBody_4 post m) (nI c) (nI h) (nI (f + 1)) (nI len) n (fun i => nI (t i)) a M O P → wX_draftNewBody_4 post (m + 1) (nI f) (nI c) (nI len) n (fun i => nI (t i)) a M O P := by
            intro post m c a n hc H
            refine preX post m c a n hc ?_
            refine pd_isz1 hz ?_
            have e1 : nI f + 1 = nI (f + 1) := nI_add f 1
            rw [e1]
            exact br_f pd_n10 (br_f ne H)
          have stY : ∀ (post : Int32 → SY → Prop) (m : Nat) (a : Nat → Int32) (n : Int32), (∀ y, y = nI sz → wY_pieces_127 post (wY_pieces_4 post m) (nI (f + 1)) 1 y (nI len) n (fun i => nI (t i)) a M O P) → wY_pieces_4 post (m + 1) (nI f) 1 (nI len) n (fun i => nI (t i)) a M O P := by
            intro post m a n H
            refine preY post m a n ?_
            refine br_f (nI_ge (a := 223) (by omega) (by omega)) (br_f (nI_ge (b := 229) g2 (by decide)) ?_)
            refine br_f (nI_ge (a := 23) (by omega) (by omega)) (br_f ne (br_f pd_n10 ?_))
            refine br_f ne ?_
            exact br_f pd_n10 (H _ esz)
          rcases Nat.lt_or_ge len (f + 1 + sz) with y | y
          · refine Or.inl ⟨-3, -3, Or.inl ⟨rfl, rfl⟩, ?_, ?_⟩
            · intro post H m c a n hc hm hD
              obtain ⟨m, rfl⟩ : ∃ m', m = m' + 1 := ⟨m - 1, by omega⟩
              refine stX post m c a n hc ?_
              exact pd_x52s (f + 1) sz hl (by omega) (by omega) (hpsX a n) y (by omega) (H a n)
            · intro post H m a n hm hD
              obtain ⟨m, rfl⟩ : ∃ m', m = m' + 1 := ⟨m - 1, by omega⟩
              refine stY post m a n (fun x hx => ?_)
              exact pd_y127s (f + 1) sz hx y (by omega) (H a n)
          · have goX : ∀ (post : Int32 → SX → Prop), (∀ (m c : Nat) (a : Nat → Int32) (n : Int32), c < f + 1 + sz → len - (f + 1 + sz) < m → pd_D 120 a n (L ++ pd_sl t (f + 1) sz) → wX_draftNewBody_4 post m (nI (f + 1 + sz)) (nI c) (nI len) n (fun i => nI (t i)) a M O P) → ∀ (m c : Nat) (a : Nat → Int32) (n : Int32), c < f → len - f < m → pd_D 120 a n L → wX_draftNewBody_4 post m (nI f) (nI c) (nI len) n (fun i => nI (t i)) a M O P := by
              intro post H m c a n hc hm hD
              obtain ⟨m, rfl⟩ : ∃ m', m = m' + 1 := ⟨m - 1, by omega⟩
              refine stX post m c a n hc ?_
              refine pd_x52g (f + 1) sz hl (by omega) (hpsX a n) y hD (by omega) (fun a' n' hD' => ?_)
              exact br_t (nI_le (a := 224) g (by omega)) (nm_r (nI_1 c) (H m (c + 1) a' n' (by omega) (by omega) hD'))
            have goY : ∀ (post : Int32 → SY → Prop), (∀ (m : Nat) (a : Nat → Int32) (n : Int32), len - (f + 1 + sz) + 1 < m → pd_D 400 a n (L ++ pd_sl t (f + 1) sz) → wY_pieces_4 post m (nI (f + 1 + sz)) 1 (nI len) n (fun i => nI (t i)) a M O P) → ∀ (m : Nat) (a : Nat → Int32) (n : Int32), len - f + 1 < m → pd_D 400 a n L → wY_pieces_4 post m (nI f) 1 (nI len) n (fun i => nI (t i)) a M O P := by
              intro post H m a n hm hD
              obtain ⟨m, rfl⟩ : ∃ m', m = m' + 1 := ⟨m - 1, by omega⟩
              refine stY post m a n (fun x hx => ?_)
              refine pd_y127g ht (f + 1) sz hx hl y hD (by omega) (fun a' n' hD' => ?_)
              exact H m a' n' (by omega) hD'
            rcases ih (f + 1 + sz) (L ++ pd_sl t (f + 1) sz) (by omega) (by omega) y (pd_By_app hB (pd_sl_By ht _ _)) (by rw [pd_app, pd_sl_len]; omega) with ⟨c, y', hc, hX, hY⟩ | ⟨L', hB', hL', hX, hY⟩
            · exact Or.inl ⟨c, y', hc, fun post H => goX post (hX post H), fun post H => goY post (hY post H)⟩
            · exact Or.inr ⟨L', hB', hL', fun post H => goX post (hX post H), fun post H => goY post (hY post H)⟩
      · -- no size
        refine Or.inl ⟨-4, -4, Or.inr (Or.inl ⟨rfl, rfl⟩), ?_, ?_⟩
        · intro post H m c a n hc hm hD
          obtain ⟨m, rfl⟩ : ∃ m', m = m' + 1 := ⟨m - 1, by omega⟩
          refine preX post m c a n hc ?_
          refine pd_isz0 hh hz ?_
          exact br_t rfl (H a n)
        · intro post H m a n hm hD
          obtain ⟨m, rfl⟩ : ∃ m', m = m' + 1 := ⟨m - 1, by omega⟩
          refine preY post m a n ?_
          have ne : ¬ nI h = 192 := fun q => absurd ((nI_eq (b := 192) (by omega) (by decide)).mp q) (by omega)
          have fin : wY_pieces_47 post (wY_pieces_4 post m) (nI (f + 1)) (nI h) (nI len) n (fun i => nI (t i)) a M O P := by
            unfold wY_pieces_47
            exact br_f (nI_ge (a := 23) (by omega) (by omega)) (br_f ne (br_t rfl (H a n)))
          exact pk_le h 223 (fun _ => fin) (fun x => br_t (nI_le (a := 229) (by omega) (by omega)) fin)
    · have e : f = len := by omega
      subst e
      refine Or.inl ⟨-3, -3, Or.inl ⟨rfl, rfl⟩, ?_, ?_⟩
      · intro post H m c a n hc hm hD
        obtain ⟨m, rfl⟩ : ∃ m', m = m' + 1 := ⟨m - 1, by omega⟩
        exact pk_le 120 c (fun _ => H a n) (fun _ => br_t (nI_le (Nat.le_refl _) (by omega)) (H a n))
      · intro post H m a n hm hD
        obtain ⟨m, rfl⟩ : ∃ m', m = m' + 1 := ⟨m - 1, by omega⟩
        exact br_f pd_n10 (br_t rfl (H a n))
