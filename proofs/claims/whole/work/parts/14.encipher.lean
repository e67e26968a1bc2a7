/-! the cipher and the feedback as they walk; encipher, decipher -/
section
variable {len n : Int32} {w a : Nat → Int32} {t : Nat → Nat} {M O P : Nat → Int64} {L : List Nat}
theorem pd_xcipL {post : Int32 → Prop} {x key : Int32} (H : post (pd_cip x key)) : ∀ d i m : Nat, i + d = 6 → d < m → wX_cipher_14 post key len n w a M O P m (pd_cp key x i).1 (pd_cp key x i).2 (nI i) := by
  intro d
  induction d with
  | zero =>
    intro i m hi hm
    obtain ⟨m, rfl⟩ : ∃ m', m = m' + 1 := ⟨m - 1, by omega⟩
    have e : i = 6 := by omega
    subst e
    exact br_t (by decide) H
  | succ d ih =>
    intro i m hi hm
    obtain ⟨m, rfl⟩ : ∃ m', m = m' + 1 := ⟨m - 1, by omega⟩
    refine br_f (nI_ge (b := 6) (by omega) (by decide)) ?_
    exact nm_e (nm_e (nm_e (nm_e (nm_r (nI_1 i) (ih (i + 1) m (by omega) (by omega))))))
theorem pd_xcip {post : Int32 → Prop} {x key : Int32} (H : post (pd_cip x key)) : wpX_cipher post (len, n, w, a, M, O, P) x key := nm_e (nm_e ⟨7, pd_xcipL H 6 0 7 (by omega) (by omega)⟩)
theorem pd_yturn {post : Int32 → Prop} {key : Int32} {i : Nat} (hi : i < 6) (H : post (pd_tr key i)) : wpY_turned post key ((7 * nI i) - (7 * nI i) / 32 * 32) := by
  by_cases z : i = 0
  · subst z
    rw [pd_tr0] at H
    exact br_t (by decide) H
  · refine br_f (fun q => z ((pd_by7 i hi).mp q)) ?_
    rw [← pd_tr1 i hi, ← pd_tr2 i hi]
    exact H
theorem pd_yencL {post : Int32 → Prop} {x key : Int32} (H : post (pd_cip x key)) : ∀ d i m : Nat, i + d = 6 → d < m → wY_enciphered_13 post key m (pd_cp key x i).1 (pd_cp key x i).2 (nI i) := by
  intro d
  induction d with
  | zero =>
    intro i m hi hm
    obtain ⟨m, rfl⟩ : ∃ m', m = m' + 1 := ⟨m - 1, by omega⟩
    have e : i = 6 := by omega
    subst e
    exact br_t (by decide) H
  | succ d ih =>
    intro i m hi hm
    obtain ⟨m, rfl⟩ : ∃ m', m = m' + 1 := ⟨m - 1, by omega⟩
    refine br_f (nI_ge (b := 6) (by omega) (by decide)) ⟨by decide, ?_⟩
    refine pd_yturn (by omega) ?_
    exact nm_e (nm_e (nm_e (nm_r (pd_rnY key x i) (nm_r (nI_1 i) (ih (i + 1) m (by omega) (by omega))))))
theorem pd_yenc {post : Int32 → Prop} {x key : Int32} (H : post (pd_cip x key)) : wpY_enciphered post x key := nm_e (nm_e ⟨7, pd_yencL H 6 0 7 (by omega) (by omega)⟩)
def pd_uI (u : Bool) : Int32 := if u then 1 else 0
theorem pd_xfbL {post : SX → Prop} {key : Int32} {u : Bool} (hL : L.length < 1000) (hD : pd_D 120 a (nI L.length) L) (H : post (len, nI L.length, w, pd_mx (pd_ot key u (fun i => L.getD i 0)) a (min L.length 120), M, O, P)) : ∀ d i m : Nat, i + d = min L.length 120 → d < m → wX_feedback_8 post key (pd_uI u) len (nI L.length) m (pd_st key u (fun i => L.getD i 0) i).1 (pd_st key u (fun i => L.getD i 0) i).2 (nI i) w (pd_mx (pd_ot key u (fun i => L.getD i 0)) a i) M O P := by
  intro d
  induction d with
  | zero =>
    intro i m hi hm
    obtain ⟨m, rfl⟩ : ∃ m', m = m' + 1 := ⟨m - 1, by omega⟩
    have e : min L.length 120 = i := by omega
    rw [e] at H
    exact pk_le L.length i (fun _ => H) (fun z => br_t (nI_le (a := 120) (by omega) (by omega)) H)
  | succ d ih =>
    intro i m hi hm
    obtain ⟨m, rfl⟩ : ∃ m', m = m' + 1 := ⟨m - 1, by omega⟩
    have er : nI i - nI i / 4 * 4 = nI (i % 4) := pk_rem (d := 4) (by omega) (by decide) (by decide)
    have q := ih (i + 1) m (by omega) (by omega)
    rw [pd_st_s] at q
    have go : ∀ mk, mk = pd_mk key u (fun i => L.getD i 0) i → wX_feedback_43 post (wX_feedback_8 post key (pd_uI u) len (nI L.length) m) key (pd_uI u) (pd_st key u (fun i => L.getD i 0) i).1 mk (nI i) (nI (i % 4)) len (nI L.length) w (pd_mx (pd_ot key u (fun i => L.getD i 0)) a i) M O P := by
      intro mk hmk
      have hv : vp_in (nI i) 120 := vp_in_nI (by omega) (by decide)
      refine ⟨hv, nm_r (e' := nI (L.getD i 0)) ?_ ?_⟩
      · rw [nI_clamp (by omega), pd_mx_hi _ _ (Nat.le_refl i)]
        exact hD.2 i (by omega) (by omega)
      · refine pd_xbw (i % 4) (Nat.mod_lt _ (by decide)) rfl ?_
        refine nm_r (e' := nI (pd_ot key u (fun i => L.getD i 0) i)) ?_ ⟨hv, nm_r (e' := pd_mx (pd_ot key u (fun i => L.getD i 0)) a (i + 1)) ?_ ?_⟩
        · rw [nx_xor, hmk]
          rfl
        · rw [nI_clamp (by omega)]
          exact pd_mx_s _ _ _
        · rw [← hmk] at q
          cases u with
          | false => exact br_t rfl (nm_e (nm_r (nI_1 i) q))
          | true => exact br_f pd_n10 (nm_e (nm_r (nI_1 i) q))
    refine br_f (nI_ge (by omega) (by omega)) (br_f (nI_ge (b := 120) (by omega) (by decide)) ⟨by decide, nm_r er ?_⟩)
    refine pk_eq (i % 4) 0 (fun z => ?_) (fun z => ?_)
    · refine pd_xcip ?_
      refine go _ ?_
      unfold pd_mk
      rw [if_pos z]
    · refine go _ ?_
      unfold pd_mk
      rw [if_neg z]
theorem pd_xfb {post : SX → Prop} {key uI : Int32} (u : Bool) (hu : uI = pd_uI u) (hL : L.length < 1000) (hD : pd_D 120 a n L) (H : post (len, n, w, pd_mx (pd_ot key u (fun i => L.getD i 0)) a (min L.length 120), M, O, P)) : wpX_feedback post (len, n, w, a, M, O, P) key uI := by
  subst hu
  have e := hD.1
  subst e
  have q := pd_xfbL hL hD H (min L.length 120) 0 (L.length + 1) (by omega) (by omega)
  rw [pd_mx_0] at q
  exact ⟨L.length + 1, q⟩
/-- the word as Y gathers it -/
def pd_ac (key : Int32) (u : Bool) (f : Nat → Nat) (j : Nat) : Nat → Int32
  | 0 => 0
  | k + 1 => pd_ac key u f j k ||| nI (pd_nb key u f (j + k)) <<< (nI (24 - 8 * k) &&& 31)
theorem pd_ac4 (key : Int32) (u : Bool) (f : Nat → Nat) (j : Nat) : pd_ac key u f j 4 = (pd_st key u f (j + 4)).1 := (pd_st4 key u f j).symm
theorem pd_yfdL {post : SY → Prop} {key : Int32} {u : Bool} (hL : L.length ≤ 120) (hD : pd_D 400 a (nI L.length) L) (H : post (len, nI L.length, w, pd_mx (pd_ot key u (fun i => L.getD i 0)) a L.length, M, O, P)) : ∀ (d j m : Nat) (bf : Int32), L.length - j < d → j % 4 = 0 → j ≤ L.length + 3 → d ≤ m → (j ≤ L.length → bf = (pd_st key u (fun i => L.getD i 0) j).1) → wY_feed_5 post key (pd_uI u) len (nI L.length) m bf (nI j) w (pd_mx (pd_ot key u (fun i => L.getD i 0)) a (min j L.length)) M O P := by
  intro d
  induction d with
  | zero => intro j m bf h; exact absurd h (Nat.not_lt_zero _)
  | succ d ih =>
    intro j m bf hd hj hj3 hm hbf
    obtain ⟨m, rfl⟩ : ∃ m', m = m' + 1 := ⟨m - 1, by omega⟩
    rcases Nat.lt_or_ge j L.length with z | z
    · have ebf := hbf (by omega)
      subst ebf
      refine br_f (nI_ge z (by omega)) ?_
      refine pd_yenc ?_
      have inn : ∀ e k mm : Nat, k + e = 4 → e < mm → j + k ≤ L.length → wY_feed_26 post (wY_feed_5 post key (pd_uI u) len (nI L.length) m) key (pd_uI u) (nI j) (pd_cip (pd_st key u (fun i => L.getD i 0) j).1 key) len (nI L.length) mm (pd_ac key u (fun i => L.getD i 0) j k) (nI k) w (pd_mx (pd_ot key u (fun i => L.getD i 0)) a (j + k)) M O P := by
        intro e
        induction e with
        | zero =>
          intro k mm hk hmm hjk
          obtain ⟨mm, rfl⟩ : ∃ m', mm = m' + 1 := ⟨mm - 1, by omega⟩
          have ek : k = 4 := by omega
          subst ek
          refine br_t (by decide) (nm_r (nI_add j 4) ?_)
          have q := ih (j + 4) m (pd_ac key u (fun i => L.getD i 0) j 4) (by omega) (by omega) (by omega) (by omega) (fun _ => pd_ac4 _ _ _ _)
          rw [show min (j + 4) L.length = j + 4 by omega] at q
          exact q
        | succ e ihe =>
          intro k mm hk hmm hjk
          obtain ⟨mm, rfl⟩ : ∃ m', mm = m' + 1 := ⟨mm - 1, by omega⟩
          have ejk : nI j + nI k = nI (j + k) := nI_add j k
          refine br_f (nI_ge (b := 4) (by omega) (by decide)) ?_
          rcases Nat.lt_or_ge (j + k) L.length with y | y
          · have hv : vp_in (nI j + nI k) 400 := by rw [ejk]; exact vp_in_nI (by omega) (by decide)
            have hk4 : k < 4 := by omega
            have emod : (j + k) % 4 = k := by omega
            have eot : nI (L.getD (j + k) 0) ^^^ ((((pd_cip (pd_st key u (fun i => L.getD i 0) j).1 key).toUInt32 >>> ((24 - 8 * nI k : Int32).toUInt32 &&& Int32.toUInt32 31)).toInt32) &&& 255) = nI (pd_ot key u (fun i => L.getD i 0) (j + k)) := by
              rw [pd_byX _ hk4, nx_xor]
              unfold pd_ot
              rw [pd_mk4 key u (fun i => L.getD i 0) hj k hk4, emod]
            have q := ihe (k + 1) mm (by omega) (by omega) (by omega)
            have ee : pd_ac key u (fun i => L.getD i 0) j (k + 1) = pd_ac key u (fun i => L.getD i 0) j k ||| nI (pd_nb key u (fun i => L.getD i 0) (j + k)) <<< ((24 - 8 * nI k : Int32) &&& 31) := by
              rw [pd_c24 k hk4]
              rfl
            rw [ee] at q
            refine br_f (by rw [ejk]; exact nI_ge y (by omega)) ⟨hv, nm_r (e' := nI (L.getD (j + k) 0)) ?_ (nm_r eot ⟨hv, nm_r (e' := pd_mx (pd_ot key u (fun i => L.getD i 0)) a (j + (k + 1))) ?_ ?_⟩)⟩
            · rw [ejk, nI_clamp (by omega), pd_mx_hi _ _ (Nat.le_refl _)]
              exact hD.2 _ (by omega) (by omega)
            · rw [ejk, nI_clamp (by omega)]
              exact pd_mx_s _ _ _
            · cases u with
              | false => exact br_t rfl (nm_e (nm_r (nI_1 k) q))
              | true => exact br_f pd_n10 (nm_e (nm_r (nI_1 k) q))
          · refine br_t (by rw [ejk]; exact nI_le y (by omega)) (nm_r (nI_add j 4) ?_)
            have q := ih (j + 4) m (pd_ac key u (fun i => L.getD i 0) j k) (by omega) (by omega) (by omega) (by omega) (fun h => absurd h (by omega))
            rw [show min (j + 4) L.length = j + k by omega] at q
            exact q
      have q := inn 4 0 5 (by omega) (by omega) (by omega)
      rw [show min j L.length = j + 0 by omega]
      exact ⟨5, q⟩
    · rw [show min j L.length = L.length by omega]
      exact br_t (nI_le z (by omega)) H
theorem pd_yfd {post : SY → Prop} {key uI : Int32} (u : Bool) (hu : uI = pd_uI u) (hL : L.length ≤ 120) (hD : pd_D 400 a n L) (H : post (len, n, w, pd_mx (pd_ot key u (fun i => L.getD i 0)) a L.length, M, O, P)) : wpY_feed post (len, n, w, a, M, O, P) key uI := by
  subst hu
  have e := hD.1
  subst e
  have q := pd_yfdL hL hD H (L.length + 1) 0 (L.length + 1) 0 (by omega) (by omega) (by omega) (by omega) (fun _ => rfl)
  rw [show min 0 L.length = 0 by omega, pd_mx_0] at q
  exact ⟨L.length + 1, q⟩
theorem pd_y78L {post : Int32 → SY → Prop} (hL : L.length ≤ 120) (h6 : 6 ≤ L.length) (hD : pd_D 400 a (nI L.length) L) (H : post (nI (L.length - 6)) (nI (L.length - 6), nI L.length, (fun i => nI (pd_kp t L 6 i)), a, M, O, P)) : ∀ (d i m : Nat), i + 6 + d = L.length → d < m → wY_decipher_78 post (nI (L.length - 6)) (nI L.length) m (nI i) (pd_kc (fun i => nI (t i)) L 6 i) a M O P := by
  intro d
  induction d with
  | zero =>
    intro i m hi hm
    obtain ⟨m, rfl⟩ : ∃ m', m = m' + 1 := ⟨m - 1, by omega⟩
    have e : i = L.length - 6 := by omega
    have e2 := pd_kc_e t L 6
    rw [← e] at e2
    refine br_t (nI_le (by omega) (by omega)) ?_
    rw [e2]
    exact H
  | succ d ih =>
    intro i m hi hm
    obtain ⟨m, rfl⟩ : ∃ m', m = m' + 1 := ⟨m - 1, by omega⟩
    have e6 : nI i + 6 = nI (i + 6) := nI_add i 6
    refine br_f (nI_ge (by omega) (by omega)) ⟨by rw [e6]; exact vp_in_nI (by omega) (by decide), vp_in_nI (by omega) (by decide), ?_⟩
    refine nm_r (e' := pd_kc (fun i => nI (t i)) L 6 (i + 1)) ?_ (nm_r (nI_1 i) (ih (i + 1) m (by omega) (by omega)))
    rw [e6, nI_clamp (by omega), nI_clamp (by omega), hD.2 (i + 6) (by omega) (by omega)]
    exact pd_kc_s _ L 6 i
end
theorem i_vc_encipher {k : Nat} {u : SX} {v : SY} (I : i_Rel k u v) (hk : k + 5 ≤ 2560) (v1 : Int32) (v2 : Int32) : wpX_encipher (fun r u' => wpY_encipher (fun r' v' => r' = r ∧ i_Rel (k + 5) u' v') v v1 v2) u v1 v2 := by
  obtain ⟨t, len, M, O, P, a, n, b, c, ht, hl, hK, rfl, rfl⟩ := I
  have l0 : (pd_LW [] v2).length = 4 := pd_LW_len [] v2
  obtain ⟨L, hLe, hLl, hLB⟩ : ∃ L, L = ((pd_LW [] v2 ++ [pd_by v2 2]) ++ [pd_by v2 3]) ++ pd_sl t 0 len ∧ L.length = len + 6 ∧ pd_By L := by
    refine ⟨_, rfl, ?_, ?_⟩
    · rw [pd_app, pd_len1, pd_len1, pd_sl_len, l0]
      omega
    · exact pd_By_app (pd_By_put (pd_By_put (pd_LW_By pd_By_nil v2) (pd_by_lt _ _)) (pd_by_lt _ _)) (pd_sl_By ht _ _)
  have hFl := pd_FL_len v1 false L
  refine pd_fin (k + 5) (r := nI ((pd_FL v1 false L).length - 0)) (L := pd_FL v1 false L) (f := 0) ht hl hK (pd_FL_By hLB) (fun post => wpX_encipher post (nI len, n, (fun i => nI (t i)), a, M, O, P) v1 v2) (fun post => wpY_encipher post (nI len, c, (fun i => nI (t i)), b, M, O, P) v1 v2) ?_ ?_
  · intro post H
    unfold wpX_encipher
    dsimp only
    refine pd_xpwd (pd_D_nil 120 a) (by simp) (fun a1 n1 d1 => ?_)
    refine pd_xput (pd_by v2 2) (d1.2 2 (by omega) (by omega)) d1 (by omega) (fun a2 n2 d2 => ?_)
    refine pd_xput (pd_by v2 3) (d2.2 3 (by rw [pd_len1]; omega) (by omega)) d2 (by rw [pd_len1]; omega) (fun a3 n3 d3 => ?_)
    refine pd_xpw 0 len rfl rfl (by omega) d3 (by rw [pd_len1, pd_len1]; omega) (fun a4 n4 d4 => ?_)
    rw [← hLe] at d4
    refine pd_xfb false rfl (by omega) d4 ?_
    rcases Nat.lt_or_ge 120 L.length with z | z
    · exact br_f (by rw [d4.1]; exact nI_ge (a := 120) z (by omega)) ((H _ _).1 (by omega))
    · rw [show min L.length 120 = L.length by omega]
      exact pd_XKb (by omega) H (pd_FL_D d4 z)
  · intro post H
    unfold wpY_encipher
    dsimp only
    refine pd_ypwd (pd_D_nil 400 b) (by simp) (fun a1 n1 d1 => ?_)
    refine pd_yput (pd_by v2 2) (pd_byS v2 (k := 2) (by omega)) d1 (by omega) (fun a2 n2 d2 => ?_)
    refine pd_yput (pd_by v2 3) (pd_by3 v2) d2 (by rw [pd_len1]; omega) (fun a3 n3 d3 => ?_)
    refine pd_ypw 0 len rfl (by rw [Nat.zero_add]) ht (by omega) d3 (by rw [pd_len1, pd_len1]; omega) (fun a4 n4 d4 => ?_)
    rw [← hLe] at d4
    rcases Nat.lt_or_ge 120 L.length with z | z
    · exact br_f (by rw [d4.1]; exact nI_ge (a := 120) z (by omega)) ((H _ _).1 (by omega))
    · refine br_t (by rw [d4.1]; exact nI_le (b := 120) z (by decide)) ?_
      refine pd_yfd false rfl z d4 ?_
      exact pd_YKb (by omega) H (pd_FL_D d4 (by omega))
theorem i_vc_decipher {k : Nat} {u : SX} {v : SY} (I : i_Rel k u v) (hk : k + 5 ≤ 2560) (v1 : Int32) : wpX_decipher (fun r u' => wpY_decipher (fun r' v' => r' = r ∧ i_Rel (k + 5) u' v') v v1) u v1 := by
  have J := I
  obtain ⟨t, len, M, O, P, a, n, b, c, ht, hl, hK, rfl, rfl⟩ := I
  rcases Nat.lt_or_ge len 6 with z | z
  · have q : ¬ 6 ≤ nI len := nI_ge (b := 6) z (by decide)
    exact br_f q (br_f q ⟨rfl, J⟩)
  · have q : 6 ≤ nI len := nI_le (a := 6) z (by omega)
    obtain ⟨L, hLe, hLl, hLB⟩ : ∃ L, L = [] ++ pd_sl t 0 len ∧ L.length = len ∧ pd_By L := ⟨_, rfl, by rw [pd_app, pd_sl_len]; simp, pd_By_app pd_By_nil (pd_sl_By ht _ _)⟩
    have hFl := pd_FL_len v1 true L
    have hFB := pd_FL_By (key := v1) (u := true) hLB
    -- both to the look at the bytes
    have gX : ∀ post : Int32 → SX → Prop, (∀ a' n', pd_D 120 a' n' (pd_FL v1 true L) → ((a' 4 = a' 2 → ((a' 5 = a' 3 → wpX_keepDraft post (nI len, n', (fun i => nI (t i)), a', M, O, P) 6) ∧ (¬ a' 5 = a' 3 → post (-4) (nI len, n', (fun i => nI (t i)), a', M, O, P)))) ∧ (¬ a' 4 = a' 2 → post (-4) (nI len, n', (fun i => nI (t i)), a', M, O, P)))) → wpX_decipher post (nI len, n, (fun i => nI (t i)), a, M, O, P) v1 := by
      intro post H
      refine br_t q ?_
      refine pd_xpw 0 len rfl rfl (by omega) (pd_D_nil 120 a) (by simp) (fun a4 n4 d4 => ?_)
      rw [← hLe] at d4
      refine pd_xfb true rfl (by omega) d4 ?_
      rw [show min L.length 120 = L.length by omega]
      exact H _ _ (pd_FL_D d4 (by omega))
    have gY : ∀ post : Int32 → SY → Prop, (∀ a' n', pd_D 400 a' n' (pd_FL v1 true L) → ((a' 4 = a' 2 → ((a' 5 = a' 3 → ∀ y, y = nI len - 6 → ∃ m, wY_decipher_78 post y n' m 0 (fun i => nI (t i)) a' M O P) ∧ (¬ a' 5 = a' 3 → post (-4) (nI len, n', (fun i => nI (t i)), a', M, O, P)))) ∧ (¬ a' 4 = a' 2 → post (-4) (nI len, n', (fun i => nI (t i)), a', M, O, P)))) → wpY_decipher post (nI len, c, (fun i => nI (t i)), b, M, O, P) v1 := by
      intro post H
      refine br_t q ?_
      refine pd_ypw 0 len rfl (by rw [Nat.zero_add]) ht (by omega) (pd_D_nil 400 b) (by simp) (fun a4 n4 d4 => ?_)
      rw [← hLe] at d4
      refine pd_yfd true rfl (by omega) d4 ?_
      exact H _ _ (pd_FL_D d4 (by omega))
    have cmp : ∀ (cap : Nat) (a' : Nat → Int32) (n' : Int32) (i j : Nat), 120 ≤ cap → i < 6 → j < 6 → pd_D cap a' n' (pd_FL v1 true L) → (a' i = a' j ↔ (pd_FL v1 true L).getD i 0 = (pd_FL v1 true L).getD j 0) := by
      intro cap a' n' i j h0 h1 h2 hD
      rw [hD.2 i (by omega) (by omega), hD.2 j (by omega) (by omega)]
      have b1 := pd_By_get hFB i
      have b2 := pd_By_get hFB j
      exact nI_eq (by omega) (by omega)
    generalize pd_FL v1 true L = F at gX gY cmp hFl hFB
    by_cases h42 : F.getD 4 0 = F.getD 2 0
    · by_cases h53 : F.getD 5 0 = F.getD 3 0
      · refine pd_fin (k + 5) (r := nI (F.length - 6)) (L := F) (f := 6) ht hl hK hFB (fun post => wpX_decipher post (nI len, n, (fun i => nI (t i)), a, M, O, P) v1) (fun post => wpY_decipher post (nI len, c, (fun i => nI (t i)), b, M, O, P) v1) ?_ ?_
        · intro post H
          refine gX post (fun a' n' hD => ?_)
          refine br_t ((cmp 120 a' n' 4 2 (by omega) (by omega) (by omega) hD).mpr h42) (br_t ((cmp 120 a' n' 5 3 (by omega) (by omega) (by omega) hD).mpr h53) ?_)
          exact pd_xkeep 6 rfl (by omega) (by omega) hD (H a' n').1 (H a' n').2
        · intro post H
          refine gY post (fun a' n' hD => ?_)
          refine br_t ((cmp 400 a' n' 4 2 (by omega) (by omega) (by omega) hD).mpr h42) (br_t ((cmp 400 a' n' 5 3 (by omega) (by omega) (by omega) hD).mpr h53) ?_)
          have el : nI len - 6 = nI (F.length - 6) := by rw [hFl, hLl]; exact pk_sub (b := 6) z
          refine nm_r el ⟨F.length + 1, ?_⟩
          have en := hD.1
          subst en
          have q := pd_y78L (by omega) (by omega) hD ((H a' _).2 (by omega)) (F.length - 6) 0 (F.length + 1) (by omega) (by omega)
          rw [pd_kc_0] at q
          exact q
      · refine pd_finC (k + 5) (r := -4) ht hl hK (fun post => wpX_decipher post (nI len, n, (fun i => nI (t i)), a, M, O, P) v1) (fun post => wpY_decipher post (nI len, c, (fun i => nI (t i)), b, M, O, P) v1) ?_ ?_
        · intro post H
          refine gX post (fun a' n' hD => ?_)
          exact br_t ((cmp 120 a' n' 4 2 (by omega) (by omega) (by omega) hD).mpr h42) (br_f (fun e => h53 ((cmp 120 a' n' 5 3 (by omega) (by omega) (by omega) hD).mp e)) (H a' n'))
        · intro post H
          refine gY post (fun a' n' hD => ?_)
          exact br_t ((cmp 400 a' n' 4 2 (by omega) (by omega) (by omega) hD).mpr h42) (br_f (fun e => h53 ((cmp 400 a' n' 5 3 (by omega) (by omega) (by omega) hD).mp e)) (H a' n'))
    · refine pd_finC (k + 5) (r := -4) ht hl hK (fun post => wpX_decipher post (nI len, n, (fun i => nI (t i)), a, M, O, P) v1) (fun post => wpY_decipher post (nI len, c, (fun i => nI (t i)), b, M, O, P) v1) ?_ ?_
      · intro post H
        refine gX post (fun a' n' hD => ?_)
        exact br_f (fun e => h42 ((cmp 120 a' n' 4 2 (by omega) (by omega) (by omega) hD).mp e)) (H a' n')
      · intro post H
        refine gY post (fun a' n' hD => ?_)
        exact br_f (fun e => h42 ((cmp 400 a' n' 4 2 (by omega) (by omega) (by omega) hD).mp e)) (H a' n')
