/-! wrap -/
theorem pd_app (L M : List Nat) : (L ++ M).length = L.length + M.length := List.length_append
section
variable {n : Int32} {a : Nat → Int32} {t : Nat → Nat} {M O P : Nat → Int64} {L : List Nat} {len : Nat}
theorem pd_XKb {post : Int32 → SX → Prop} (hl : L.length < 100000) (H : pd_XK post (nI (L.length - 0)) t len M O P L 0) (hD : pd_D 120 a n L) : wpX_keepDraft post (nI len, n, (fun i => nI (t i)), a, M, O, P) 0 := pd_xkeep 0 rfl (by omega) hl hD (H a n).1 (H a n).2
theorem pd_YKb {post : Int32 → SY → Prop} (hl : L.length < 100000) (H : pd_YK post (nI (L.length - 0)) t len M O P L 0) (hD : pd_D 400 a n L) : wpY_become post (nI len, n, (fun i => nI (t i)), a, M, O, P) := pd_ybecome hl hD (H a n).1 (H a n).2
/-- an old packet -/
def pd_LO (t : Nat → Nat) (len tag s : Nat) : List Nat := (if s = 3 then (if s = 1 then ([] ++ [128 + 4 * tag + s]) ++ [len / 256] else [] ++ [128 + 4 * tag + s]) else (if s = 1 then ([] ++ [128 + 4 * tag + s]) ++ [len / 256] else [] ++ [128 + 4 * tag + s]) ++ [len % 256]) ++ pd_sl t 0 len
theorem pd_LO_len (t : Nat → Nat) (len tag s : Nat) : (pd_LO t len tag s).length ≤ len + 3 := by
  unfold pd_LO
  rw [pd_app, pd_sl_len]
  repeat' split
  all_goals simp
  all_goals omega
theorem pd_LO_By (ht : ∀ i, t i < 256) (hl : len ≤ 120) {tag s : Nat} (h1 : tag < 16) (h2 : s < 4) : pd_By (pd_LO t len tag s) := by
  unfold pd_LO
  have b0 : pd_By ([] ++ [128 + 4 * tag + s]) := pd_By_put pd_By_nil (by omega)
  have b1 : pd_By (([] ++ [128 + 4 * tag + s]) ++ [len / 256]) := pd_By_put b0 (by omega)
  refine pd_By_app ?_ (pd_sl_By ht _ _)
  repeat' split
  · exact b1
  · exact b0
  · exact pd_By_put b1 (by omega)
  · exact pd_By_put b0 (by omega)
theorem pd_256 : ¬ (256 : Int32) = 0 := by decide
theorem pd_xold {post : SX → Prop} (hl : len ≤ 120) (tag s : Nat) (h1 : tag < 16) (h2 : s < 4) (H : ∀ a' n', pd_D 120 a' n' (pd_LO t len tag s) → post (nI len, n', (fun i => nI (t i)), a', M, O, P)) : wpX_draftOldPacket post (nI len, 0, (fun i => nI (t i)), a, M, O, P) (nI tag) (nI s) := by
  have e0 : (128 + 4 * nI tag) + nI s = nI (128 + 4 * tag + s) := by
    rw [← nI_add, ← nI_add, ← pk_mul]
    rfl
  have ed : nI len / 256 = nI (len / 256) := pk_div (d := 256) (by omega) (by decide) (by decide)
  have em : nI len - nI len / 256 * 256 = nI (len % 256) := pk_rem (d := 256) (by omega) (by decide) (by decide)
  have fin : ∀ (C : List Nat) a1 n1, C.length ≤ 3 → C ++ pd_sl t 0 len = pd_LO t len tag s → pd_D 120 a1 n1 C → wX_draftOldPacket_47 post (nI len) n1 (fun i => nI (t i)) a1 M O P := by
    intro C a1 n1 hC eC hD
    refine pd_xpw 0 len rfl rfl (by omega) hD (by omega) (fun a2 n2 h => H a2 n2 ?_)
    rw [← eC]
    exact h
  have mid : ∀ (B : List Nat) a1 n1, B.length ≤ 2 → B = (if s = 1 then ([] ++ [128 + 4 * tag + s]) ++ [len / 256] else [] ++ [128 + 4 * tag + s]) → pd_D 120 a1 n1 B → wX_draftOldPacket_30 post (nI s) (nI len) n1 (fun i => nI (t i)) a1 M O P := by
    intro B a1 n1 hB eB hD
    refine pk_eq s 3 (fun z => ?_) (fun z => ⟨pd_256, ?_⟩)
    · refine fin B a1 n1 (by omega) ?_ hD
      unfold pd_LO
      rw [← eB, if_pos z]
    · refine pd_xput (len % 256) em hD (by omega) (fun a2 n2 h => fin _ a2 n2 (by rw [pd_len1]; omega) ?_ h)
      unfold pd_LO
      rw [← eB, if_neg z]
  unfold wpX_draftOldPacket
  dsimp only
  refine pd_xput (128 + 4 * tag + s) e0 (pd_D_nil 120 a) (by simp) (fun a1 n1 hD => ?_)
  refine pk_eq s 1 (fun z => ⟨pd_256, ?_⟩) (fun z => ?_)
  · refine pd_xput (len / 256) ed hD (by simp) (fun a2 n2 h => mid _ a2 n2 (by simp) ?_ h)
    rw [if_pos z]
  · refine mid _ a1 n1 (by simp) ?_ hD
    rw [if_neg z]
theorem pd_yw198 {post : Int32 → SY → Prop} (ht : ∀ i, t i < 256) (f : Nat) (hl : len ≤ 120) (hf : f ≤ len) (hL : L.length < 1000) (hD : pd_D 400 a n L) (H : pd_YK post (nI ((L ++ pd_sl t f (len - f)).length - 0)) t len M O P (L ++ pd_sl t f (len - f)) 0) : wY_wrap_198 post (nI f) (nI len) n (fun i => nI (t i)) a M O P := by
  refine pd_ypw f (len - f) rfl (by rw [Nat.add_sub_cancel' hf]) ht (by omega) hD (by omega) (fun a2 n2 h => ?_)
  exact pd_YKb (by rw [pd_app, pd_sl_len]; omega) H h
theorem pd_yold {post : Int32 → SY → Prop} (ht : ∀ i, t i < 256) (hl : len ≤ 120) (tag s j : Nat) (h1 : tag < 16) (hj : (j = 6 ∧ s = 0) ∨ (j = 7 ∧ s = 1) ∨ (j = 8 ∧ s = 3)) (H : pd_YK post (nI ((pd_LO t len tag s).length - 0)) t len M O P (pd_LO t len tag s) 0) : wY_wrap_56 post (nI j) 0 (nI s) (128 + 4 * nI tag) (nI len) 0 (fun i => nI (t i)) a M O P := by
  have e0 : (128 + 4 * nI tag) + nI s = nI (128 + 4 * tag + s) := by
    rw [← nI_add, ← nI_add, ← pk_mul]
    rfl
  have ed : nI len / 256 = nI (len / 256) := pk_div (d := 256) (by omega) (by decide) (by decide)
  have fin : ∀ (C : List Nat) a1 n1, C.length ≤ 3 → C ++ pd_sl t 0 len = pd_LO t len tag s → pd_D 400 a1 n1 C → wY_wrap_198 post 0 (nI len) n1 (fun i => nI (t i)) a1 M O P := by
    intro C a1 n1 hC eC hD
    refine pd_yw198 ht 0 hl (by omega) (by omega) hD ?_
    rw [show len - 0 = len from rfl, eC]
    exact H
  have mid : ∀ (B : List Nat) a1 n1, B.length ≤ 2 → B = (if s = 1 then ([] ++ [128 + 4 * tag + s]) ++ [len / 256] else [] ++ [128 + 4 * tag + s]) → pd_D 400 a1 n1 B → wY_wrap_78 post (nI j) 0 (nI len) n1 (fun i => nI (t i)) a1 M O P := by
    intro B a1 n1 hB eB hD
    refine pk_le 8 j (fun z => ?_) (fun z => ?_)
    · refine fin B a1 n1 (by omega) ?_ hD
      unfold pd_LO
      rw [← eB, if_pos (by omega)]
    · refine pd_yput (len % 256) (pd_msk2 (by omega)) hD (by omega) (fun a2 n2 h => fin _ a2 n2 (by rw [pd_len1]; omega) ?_ h)
      unfold pd_LO
      rw [← eB, if_neg (by omega)]
  refine pd_yputb (128 + 4 * tag + s) e0 (by omega) (pd_D_nil 400 a) (by simp) (fun a1 n1 hD => ?_)
  refine pk_eq j 7 (fun z => ⟨pd_256, ?_⟩) (fun z => ?_)
  · refine pd_yputb (len / 256) ed (by omega) hD (by simp) (fun a2 n2 h => mid _ a2 n2 (by simp) ?_ h)
    rw [if_pos (by omega)]
  · refine mid _ a1 n1 (by simp) ?_ hD
    rw [if_neg (by omega)]
/-- the last piece of a new packet -/
def pd_TL (t : Nat → Nat) (len f : Nat) (L : List Nat) : List Nat := (if len - f < 24 then L ++ [len - f] else (L ++ [192]) ++ [len - f - 24]) ++ pd_sl t f (len - f)
theorem pd_TL_len (t : Nat → Nat) (len f : Nat) (L : List Nat) : (pd_TL t len f L).length ≤ L.length + 2 + len := by
  unfold pd_TL
  rw [pd_app, pd_sl_len]
  split
  all_goals simp
  all_goals omega
theorem pd_TL_By (ht : ∀ i, t i < 256) (hl : len ≤ 120) {f : Nat} (hL : pd_By L) : pd_By (pd_TL t len f L) := by
  unfold pd_TL
  refine pd_By_app ?_ (pd_sl_By ht _ _)
  split
  · exact pd_By_put hL (by omega)
  · exact pd_By_put (pd_By_put hL (by omega)) (by omega)
theorem pd_xtail {post : SX → Prop} (f : Nat) (hl : len ≤ 120) (hf : f ≤ len) (hL : L.length < 1000) (hD : pd_D 120 a n L) (H : ∀ a' n', pd_D 120 a' n' (pd_TL t len f L) → post (nI len, n', (fun i => nI (t i)), a', M, O, P)) : wX_draftNewPacket_24 post (nI f) (nI len) n (fun i => nI (t i)) a M O P := by
  have fin : ∀ (C : List Nat) a1 n1, C.length < 2000 → C ++ pd_sl t f (len - f) = pd_TL t len f L → pd_D 120 a1 n1 C → wX_draftNewPacket_65 post (nI f) (nI (len - f)) (nI len) n1 (fun i => nI (t i)) a1 M O P := by
    intro C a1 n1 hC eC hD
    refine pd_xpw f (len - f) rfl rfl (by omega) hD (by omega) (fun a2 n2 h => H a2 n2 ?_)
    rw [← eC]
    exact h
  refine nm_r (pk_sub hf) (pk_le 24 (len - f) (fun z => ?_) (fun z => ?_))
  · refine pd_xput 192 rfl hD (by omega) (fun a1 n1 h1 => ?_)
    refine pd_xput (len - f - 24) (pk_sub (b := 24) z) h1 (by rw [pd_len1]; omega) (fun a2 n2 h2 => fin _ a2 n2 (by rw [pd_len1, pd_len1]; omega) ?_ h2)
    unfold pd_TL
    rw [if_neg (by omega)]
  · refine pd_xput (len - f) rfl hD (by omega) (fun a1 n1 h1 => fin _ a1 n1 (by rw [pd_len1]; omega) ?_ h1)
    unfold pd_TL
    rw [if_pos z]
theorem pd_ytail {post : Int32 → SY → Prop} (ht : ∀ i, t i < 256) (f : Nat) (hl : len ≤ 120) (hf : f ≤ len) (hL : L.length < 500) (hD : pd_D 400 a n L) (H : pd_YK post (nI ((pd_TL t len f L).length - 0)) t len M O P (pd_TL t len f L) 0) : wY_wrap_154 post (nI f) (nI len) n (fun i => nI (t i)) a M O P := by
  have e : nI len - nI f = nI (len - f) := pk_sub hf
  have fin : ∀ (C : List Nat) a1 n1, C.length < 1000 → C ++ pd_sl t f (len - f) = pd_TL t len f L → pd_D 400 a1 n1 C → wY_wrap_198 post (nI f) (nI len) n1 (fun i => nI (t i)) a1 M O P := by
    intro C a1 n1 hC eC hD
    refine pd_yw198 ht f hl hf hC hD ?_
    rw [eC]
    exact H
  refine pk_le (len - f) 23 (fun z => ?_) (fun z => ?_) e
  · refine pd_yputb (len - f) e (by omega) hD (by omega) (fun a1 n1 h1 => fin _ a1 n1 (by rw [pd_len1]; omega) ?_ h1)
    unfold pd_TL
    rw [if_pos (by omega)]
  · refine pd_yputb 192 rfl (by decide) hD (by omega) (fun a1 n1 h1 => ?_)
    refine pd_yputb (len - f - 24) (by rw [e]; exact pk_sub (b := 24) (by omega)) (by omega) h1 (by rw [pd_len1]; omega) (fun a2 n2 h2 => fin _ a2 n2 (by rw [pd_len1, pd_len1]; omega) ?_ h2)
    unfold pd_TL
    rw [if_neg (by omega)]
end
/-- the pieces ahead: one list and one place for both -/
theorem pd_pcs {t : Nat → Nat} {M O P : Nat → Int64} {len k sz : Nat} (ht : ∀ i, t i < 256) (hl : len ≤ 120) (hk : k ≤ 4) (hs : 1 ≤ sz) (hs2 : sz ≤ 16) : ∀ (d f : Nat) (L : List Nat), len - f < d → f ≤ len → pd_By L → L.length ≤ 2 * f + 1 → ∃ (L' : List Nat) (f' : Nat), f' ≤ len ∧ pd_By L' ∧ L'.length ≤ 2 * f' + 1 ∧ (∀ (post : Int32 → SX → Prop) (m c : Nat) (a : Nat → Int32) (n : Int32), c ≤ f → len - f < m → pd_D 120 a n L → (∀ a' n', pd_D 120 a' n' L' → post (nI f') (nI len, n', (fun i => nI (t i)), a', M, O, P)) → wX_putPartialPieces_9 post (nI k) (nI sz) m (nI f) (nI c) (nI len) n (fun i => nI (t i)) a M O P) ∧ (∀ (post : Int32 → SY → Prop) (m : Nat) (a : Nat → Int32) (n : Int32), len - f < m → pd_D 400 a n L → (∀ a' n', pd_D 400 a' n' L' → wY_wrap_154 post (nI f') (nI len) n' (fun i => nI (t i)) a' M O P) → wY_wrap_111 post (nI (k + 1)) (nI sz) m (nI f) (nI len) n (fun i => nI (t i)) a M O P) := by
  intro d
  induction d with
  | zero => intro f L h; exact absurd h (Nat.not_lt_zero _)
  | succ d ih =>
    intro f L hd hf hB hL
    rcases Nat.lt_or_ge len (f + sz) with z | z
    · refine ⟨L, f, hf, hB, hL, ?_, ?_⟩
      · intro post m c a n hc hm hD H
        obtain ⟨m, rfl⟩ : ∃ m', m = m' + 1 := ⟨m - 1, by omega⟩
        refine pk_le 120 c (fun _ => H a n hD) (fun _ => ?_)
        exact br_t (by rw [nI_add]; exact nI_lt z (by omega)) (H a n hD)
      · intro post m a n hm hD H
        obtain ⟨m, rfl⟩ : ∃ m', m = m' + 1 := ⟨m - 1, by omega⟩
        exact br_f (nI_nle (by omega) (by omega)) (br_t (by rw [pk_sub hf]; exact nI_lt (by omega) (by omega)) (H a n hD))
    · obtain ⟨L', f', h1, h2, h3, hX, hY⟩ := ih (f + sz) ((L ++ [224 + k]) ++ pd_sl t f sz) (by omega) z (pd_By_app (pd_By_put hB (by omega)) (pd_sl_By ht _ _)) (by rw [pd_app, pd_len1, pd_sl_len]; omega)
      refine ⟨L', f', h1, h2, h3, ?_, ?_⟩
      · intro post m c a n hc hm hD H
        obtain ⟨m, rfl⟩ : ∃ m', m = m' + 1 := ⟨m - 1, by omega⟩
        refine br_f (nI_ge (b := 120) (by omega) (by decide)) (br_f (by rw [nI_add]; exact nI_nlt z (by omega)) ?_)
        refine pd_xput (224 + k) (nI_add 224 k) hD (by omega) (fun a1 n1 d1 => ?_)
        refine pd_xpw f sz rfl rfl (by omega) d1 (by rw [pd_len1]; omega) (fun a2 n2 d2 => ?_)
        exact nm_r (nI_add f sz) (nm_r (nI_1 c) (hX post m (c + 1) a2 n2 (by omega) (by omega) d2 H))
      · intro post m a n hm hD H
        obtain ⟨m, rfl⟩ : ∃ m', m = m' + 1 := ⟨m - 1, by omega⟩
        refine br_f (nI_nle (by omega) (by omega)) (br_f (by rw [pk_sub hf]; exact nI_nlt (by omega) (by omega)) ?_)
        refine pd_yputb (224 + k) ?_ (by omega) hD (by omega) (fun a1 n1 d1 => ?_)
        · have e : (224 : Int32) + nI (k + 1) = nI (224 + k + 1) := nI_add 224 (k + 1)
          rw [e]
          exact nI_pred _
        refine pd_ypw f sz rfl (nI_add f sz) ht (by omega) d1 (by rw [pd_len1]; omega) (fun a2 n2 d2 => ?_)
        exact nm_r (nI_add f sz) (hY post m a2 n2 (by omega) d2 H)
theorem pd_sz : ∀ k, k < 5 → (1 : Int32) <<< (nI k &&& 31) = nI (2 ^ k) ∧ 1 ≤ 2 ^ k ∧ 2 ^ k ≤ 16 := by decide +kernel
theorem pd_tag {x : Int32} (h : pd_bad 16 x ∨ x = nI 0) : x < 1 ∨ (¬ x < 1 ∧ 15 < x) := by
  rcases h with (z | ⟨j, h1, h2, rfl⟩) | rfl
  · exact Or.inl (Int32.lt_trans z (by decide))
  · exact Or.inr ⟨nI_nlt (b := 1) (by omega) h2, nI_lt (a := 15) (by omega) h2⟩
  · exact Or.inl (by decide)
theorem i_vc_wrap {k : Nat} {u : SX} {v : SY} (I : i_Rel k u v) (hk : k + 5 ≤ 2560) (v1 : Int32) (v2 : Int32) : wpX_wrap (fun r u' => wpY_wrap (fun r' v' => r' = r ∧ i_Rel (k + 5) u' v') v v1 v2) u v1 v2 := by
  have J := I
  obtain ⟨t, len, M, O, P, a, n, b, c, ht, hl, hK, rfl, rfl⟩ := I
  have hT : (pd_bad 16 v1 ∨ v1 = nI 0) ∨ ∃ j, 1 ≤ j ∧ j < 16 ∧ v1 = nI j := by
    rcases pd_cs 16 v1 with h | ⟨j, h1, _, rfl⟩
    · exact Or.inl (Or.inl h)
    · rcases Nat.eq_zero_or_pos j with z | z
      · subst z; exact Or.inl (Or.inr rfl)
      · exact Or.inr ⟨j, z, h1, rfl⟩
  rcases hT with h | ⟨tag, g1, g2, rfl⟩
  · rcases pd_tag h with z | ⟨z, y⟩
    · exact br_t z (br_t z ⟨rfl, J⟩)
    · exact br_f z (br_t y (br_f z (br_t y ⟨rfl, J⟩)))
  · have q1 : ¬ nI tag < 1 := nI_nlt (b := 1) g1 (by omega)
    have q2 : ¬ 15 < nI tag := nI_nlt (a := 15) (by omega) (by decide)
    rcases pd_cs 9 v2 with h | ⟨j, hj, _, rfl⟩
    · have hY : wpY_wrap (fun r' v' => r' = -1 ∧ i_Rel (k + 5) (nI len, n, (fun i => nI (t i)), a, M, O, P) v') (nI len, c, (fun i => nI (t i)), b, M, O, P) (nI tag) v2 := br_f q1 (br_f q2 (pd_yO1 9 rfl h (br_f pd_n10 ⟨rfl, J⟩)))
      rcases h with z | ⟨j, h1, h2, rfl⟩
      · exact br_f q1 (br_f q2 (br_t z hY))
      · exact br_f q1 (br_f q2 (br_f (nI_pos h2) (br_f (nI_ge (a := 8) (by omega) h2) hY)))
    · have q3 : ¬ nI j < 0 := nI_pos (by omega)
      have q4 : nI j ≤ 8 := nI_le (b := 8) (by omega) (by decide)
      rcases Nat.lt_or_ge 5 j with z | z
      · -- an old packet
        obtain ⟨s, hs, hs4, es8, esn⟩ : ∃ s, ((j = 6 ∧ s = 0) ∨ (j = 7 ∧ s = 1) ∨ (j = 8 ∧ s = 3)) ∧ s < 4 ∧ (nI j = 8 → s = 3) ∧ (¬ nI j = 8 → (nI j - 5) - 1 = nI s ∧ nI j - 6 = nI s) := by
          have : j = 6 ∨ j = 7 ∨ j = 8 := by omega
          rcases this with rfl | rfl | rfl
          · exact ⟨0, Or.inl ⟨rfl, rfl⟩, by omega, fun h => absurd h (by decide), fun _ => by decide⟩
          · exact ⟨1, Or.inr (Or.inl ⟨rfl, rfl⟩), by omega, fun h => absurd h (by decide), fun _ => by decide⟩
          · exact ⟨3, Or.inr (Or.inr ⟨rfl, rfl⟩), by omega, fun _ => rfl, fun h => absurd rfl h⟩
        have hlen := pd_LO_len t len tag s
        refine pd_fin (k + 5) (r := nI ((pd_LO t len tag s).length - 0)) (L := pd_LO t len tag s) (f := 0) ht hl hK (pd_LO_By ht hl g2 hs4) (fun post => wpX_wrap post (nI len, n, (fun i => nI (t i)), a, M, O, P) (nI tag) (nI j)) (fun post => wpY_wrap post (nI len, c, (fun i => nI (t i)), b, M, O, P) (nI tag) (nI j)) ?_ ?_
        · intro post H
          have fin : wX_wrap_59 post (nI s) (nI tag) (nI len) 0 (fun i => nI (t i)) a M O P := pd_xold hl tag s g2 hs4 (fun a' n' hD => pd_XKb (by omega) H hD)
          refine br_f q1 (br_f q2 (br_f q3 (br_t q4 (br_t (nI_lt (a := 5) z (by omega)) ⟨fun y => ?_, fun y => ?_⟩))))
          · rw [es8 y] at fin
            exact fin
          · rw [(esn y).1]
            exact fin
        · intro post H
          have fin : wY_wrap_56 post (nI j) 0 (nI s) (128 + 4 * nI tag) (nI len) 0 (fun i => nI (t i)) b M O P := pd_yold ht hl tag s j g2 hs H
          refine br_f q1 (br_f q2 (pd_yO0 9 rfl (by decide) hj (br_t rfl (br_f (nI_ge (a := 5) z (by omega)) ⟨fun y => ?_, fun y => ?_⟩))))
          · rw [es8 y] at fin
            exact fin
          · rw [(esn y).2]
            exact fin
      · -- a new packet
        have b1 : pd_By ([] ++ [192 + tag]) := pd_By_put pd_By_nil (by omega)
        rcases Nat.eq_zero_or_pos j with y | y
        · subst y
          have hlen := pd_TL_len t len 0 ([] ++ [192 + tag])
          have hl1 : ([] ++ [192 + tag]).length = 1 := rfl
          refine pd_fin (k + 5) (r := nI ((pd_TL t len 0 ([] ++ [192 + tag])).length - 0)) (L := pd_TL t len 0 ([] ++ [192 + tag])) (f := 0) ht hl hK (pd_TL_By ht hl b1) (fun post => wpX_wrap post (nI len, n, (fun i => nI (t i)), a, M, O, P) (nI tag) (nI 0)) (fun post => wpY_wrap post (nI len, c, (fun i => nI (t i)), b, M, O, P) (nI tag) (nI 0)) ?_ ?_
          · intro post H
            refine br_f q1 (br_f q2 (br_f q3 (br_t q4 (br_f (by decide) ?_))))
            unfold wpX_draftNewPacket
            dsimp only
            refine pd_xput (192 + tag) (nI_add 192 tag) (pd_D_nil 120 a) (by simp) (fun a1 n1 d1 => ?_)
            refine br_t (by decide) ?_
            exact pd_xtail 0 hl (by omega) (by omega) d1 (fun a2 n2 d2 => pd_XKb (by omega) H d2)
          · intro post H
            refine br_f q1 (br_f q2 (pd_yO0 9 rfl (by decide) hj (br_t rfl (br_t (by decide) ?_))))
            refine pd_yputb (192 + tag) (nI_add 192 tag) (by omega) (pd_D_nil 400 b) (by simp) (fun a1 n1 d1 => ?_)
            refine nm_e ⟨1, br_t (by decide) ?_⟩
            exact pd_ytail ht 0 hl (by omega) (by omega) d1 H
        · obtain ⟨i, rfl⟩ : ∃ i, j = i + 1 := ⟨j - 1, by omega⟩
          obtain ⟨esz, hs1, hs2⟩ := pd_sz i (by omega)
          have ei : nI (i + 1) - 1 = nI i := nI_pred i
          obtain ⟨L', f', h1, h2, h3, hX, hY⟩ := pd_pcs (M := M) (O := O) (P := P) (k := i) ht hl (by omega) hs1 hs2 (len + 1) 0 ([] ++ [192 + tag]) (by omega) (by omega) b1 (by simp)
          have hlen := pd_TL_len t len f' L'
          refine pd_fin (k + 5) (r := nI ((pd_TL t len f' L').length - 0)) (L := pd_TL t len f' L') (f := 0) ht hl hK (pd_TL_By ht hl h2) (fun post => wpX_wrap post (nI len, n, (fun i => nI (t i)), a, M, O, P) (nI tag) (nI (i + 1))) (fun post => wpY_wrap post (nI len, c, (fun i => nI (t i)), b, M, O, P) (nI tag) (nI (i + 1))) ?_ ?_
          · intro post H
            refine br_f q1 (br_f q2 (br_f q3 (br_t q4 (br_f (nI_nlt (a := 5) z (by decide)) ?_))))
            unfold wpX_draftNewPacket
            dsimp only
            refine pd_xput (192 + tag) (nI_add 192 tag) (pd_D_nil 120 a) (by simp) (fun a1 n1 d1 => ?_)
            refine br_f (nI_nle (by omega) (by omega)) ?_
            rw [ei]
            unfold wpX_putPartialPieces
            dsimp only
            refine nm_r esz ⟨len + 1, hX _ (len + 1) 0 a1 n1 (by omega) (by omega) d1 (fun a2 n2 d2 => ?_)⟩
            exact pd_xtail f' hl h1 (by omega) d2 (fun a3 n3 d3 => pd_XKb (by omega) H d3)
          · intro post H
            refine br_f q1 (br_f q2 (pd_yO0 9 rfl (by decide) hj (br_t rfl (br_t (nI_le (b := 5) z (by decide)) ?_))))
            refine pd_yputb (192 + tag) (nI_add 192 tag) (by omega) (pd_D_nil 400 b) (by simp) (fun a1 n1 d1 => ?_)
            refine nm_r (by rw [ei]; exact esz) ⟨len + 1, hY post (len + 1) a1 n1 (by omega) d1 (fun a2 n2 d2 => ?_)⟩
            exact pd_ytail ht f' hl h1 (by omega) d2 H
