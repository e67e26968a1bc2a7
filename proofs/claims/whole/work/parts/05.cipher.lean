/-! the cipher as one function of the word and the key; the feedback byte by byte -/
def pd_tr (key : Int32) (i : Nat) : Int32 := (key <<< ((7 * nI i) &&& 31)) ||| (key.toUInt32 >>> ((32 - 7 * nI i : Int32).toUInt32 &&& Int32.toUInt32 31)).toInt32
def pd_rk (key : Int32) (i : Nat) : Int32 := (pd_tr key i &&& 65535) ^^^ (nI i * 9029)
def pd_sm (key : Int32) (i : Nat) (r : Int32) : Int32 := (r * 40503 + pd_rk key i) &&& 65535
def pd_tu (s : Int32) : Int32 := ((s <<< ((5 : Int32) &&& 31)) ||| (s >>> ((11 : Int32) &&& 31))) &&& 65535
def pd_rn (key : Int32) (i : Nat) (l r : Int32) : Int32 := (l ^^^ pd_tu (pd_sm key i r)) ^^^ (r >>> ((3 : Int32) &&& 31))
def pd_cp (key w : Int32) : Nat → Int32 × Int32
  | 0 => ((w.toUInt32 >>> ((16 : Int32).toUInt32 &&& Int32.toUInt32 31)).toInt32, w &&& 65535)
  | i + 1 => ((pd_cp key w i).2, pd_rn key i (pd_cp key w i).1 (pd_cp key w i).2)
theorem pd_cp_H (key w : Int32) : ∀ i, pd_H (pd_cp key w i).1 ∧ pd_H (pd_cp key w i).2 := by
  intro i
  induction i with
  | zero => exact ⟨pd_H_shr w, pd_H_and w⟩
  | succ i ih => exact ⟨ih.2, pd_H_xor (pd_H_xor ih.1 (pd_H_and _)) (pd_H_3 ih.2)⟩
theorem pd_rnY (key w : Int32) (i : Nat) : ((pd_cp key w i).1 ^^^ (pd_tu (pd_sm key i (pd_cp key w i).2) ^^^ ((pd_cp key w i).2 >>> ((3 : Int32) &&& 31)))) &&& 65535 = (pd_cp key w (i + 1)).2 := pd_nx _ (pd_cp_H key w i).1 (pd_cp_H key w i).2
def pd_cip (w key : Int32) : Int32 := ((pd_cp key w 6).2 <<< ((16 : Int32) &&& 31)) ||| (pd_cp key w 6).1
theorem pd_tr0 (key : Int32) : pd_tr key 0 = key := by
  unfold pd_tr
  rw [show ((7 * nI 0 : Int32) &&& 31) = (nI 0 &&& 31) from by decide, show ((32 - 7 * nI 0 : Int32).toUInt32 &&& Int32.toUInt32 31) = ((nI 0).toUInt32 &&& Int32.toUInt32 31) from by decide]
  apply b_ext
  intro i hi
  rw [b_or, b_shl 0 (by omega) key hi, b_ushr 0 (by omega) key i]
  simp
theorem pd_by7 : ∀ i, i < 6 → ((7 * nI i : Int32) - (7 * nI i) / 32 * 32 = 0 ↔ i = 0) := by decide +kernel
theorem pd_tr1 : ∀ i, i < 6 → ((7 * nI i : Int32) &&& 31) = (((7 * nI i : Int32) - (7 * nI i) / 32 * 32) &&& 31) := by decide +kernel
theorem pd_tr2 : ∀ i, i < 6 → ((32 - 7 * nI i : Int32).toUInt32 &&& Int32.toUInt32 31) = ((32 - ((7 * nI i : Int32) - (7 * nI i) / 32 * 32)).toUInt32 &&& Int32.toUInt32 31) := by decide +kernel
/-- before and mask as byte i is met -/
def pd_st (key : Int32) (u : Bool) (f : Nat → Nat) : Nat → Int32 × Int32
  | 0 => (0, 0)
  | i + 1 => (((pd_st key u f i).1 <<< ((8 : Int32) &&& 31)) ||| nI (if u then f i else f i ^^^ pd_by (if i % 4 = 0 then pd_cip (pd_st key u f i).1 key else (pd_st key u f i).2) (i % 4)), if i % 4 = 0 then pd_cip (pd_st key u f i).1 key else (pd_st key u f i).2)
def pd_mk (key : Int32) (u : Bool) (f : Nat → Nat) (i : Nat) : Int32 := if i % 4 = 0 then pd_cip (pd_st key u f i).1 key else (pd_st key u f i).2
/-- byte i as the feedback leaves it -/
def pd_ot (key : Int32) (u : Bool) (f : Nat → Nat) (i : Nat) : Nat := f i ^^^ pd_by (pd_mk key u f i) (i % 4)
/-- the byte that goes into the next word -/
def pd_nb (key : Int32) (u : Bool) (f : Nat → Nat) (i : Nat) : Nat := if u then f i else pd_ot key u f i
theorem pd_st_s (key : Int32) (u : Bool) (f : Nat → Nat) (i : Nat) : pd_st key u f (i + 1) = (((pd_st key u f i).1 <<< ((8 : Int32) &&& 31)) ||| nI (pd_nb key u f i), pd_mk key u f i) := rfl
theorem pd_ot_lt {key : Int32} {u : Bool} {f : Nat → Nat} {i : Nat} (h : f i < 256) : pd_ot key u f i < 256 := Nat.xor_lt_two_pow (n := 8) h (pd_by_lt _ _)
theorem pd_mk4 (key : Int32) (u : Bool) (f : Nat → Nat) {j : Nat} (hj : j % 4 = 0) : ∀ k, k < 4 → pd_mk key u f (j + k) = pd_cip (pd_st key u f j).1 key := by
  intro k
  induction k with
  | zero => intro _; exact if_pos hj
  | succ k ih =>
    intro h
    rw [← ih (by omega)]
    have z : ¬ (j + (k + 1)) % 4 = 0 := by omega
    unfold pd_mk
    rw [if_neg z]
    rfl
theorem pd_st4 (key : Int32) (u : Bool) (f : Nat → Nat) (j : Nat) : (pd_st key u f (j + 4)).1 = (((0 ||| nI (pd_nb key u f j) <<< (nI 24 &&& 31)) ||| nI (pd_nb key u f (j + 1)) <<< (nI 16 &&& 31)) ||| nI (pd_nb key u f (j + 2)) <<< (nI 8 &&& 31)) ||| nI (pd_nb key u f (j + 3)) <<< (nI 0 &&& 31) := by
  rw [← pd_grp (pd_st key u f j).1]
  rfl
/-- an array whose first c places hold g -/
def pd_mx (g : Nat → Nat) (w : Nat → Int32) (c : Nat) : Nat → Int32 := fun i => if i < c then nI (g i) else w i
theorem pd_mx_0 (g : Nat → Nat) (w : Nat → Int32) : pd_mx g w 0 = w := by
  funext i
  exact if_neg (Nat.not_lt_zero _)
theorem pd_mx_s (g : Nat → Nat) (w : Nat → Int32) (c : Nat) : upd (pd_mx g w c) c (nI (g c)) = pd_mx g w (c + 1) := by
  funext i
  unfold pd_mx upd
  dsimp only
  rcases Nat.lt_trichotomy i c with z | z | z
  · rw [if_neg (by omega), if_pos z, if_pos (by omega)]
  · subst z; rw [if_pos rfl, if_pos (by omega)]
  · rw [if_neg (by omega), if_neg (by omega), if_neg (by omega)]
theorem pd_mx_hi (g : Nat → Nat) (w : Nat → Int32) {c i : Nat} (h : c ≤ i) : pd_mx g w c i = w i := if_neg (by omega)
theorem pd_mx_lo (g : Nat → Nat) (w : Nat → Int32) {c i : Nat} (h : i < c) : pd_mx g w c i = nI (g i) := if_pos h
/-- the draft after the feedback -/
def pd_FL (key : Int32) (u : Bool) (L : List Nat) : List Nat := pd_sl (pd_ot key u (fun i => L.getD i 0)) 0 L.length
theorem pd_FL_len (key : Int32) (u : Bool) (L : List Nat) : (pd_FL key u L).length = L.length := pd_sl_len _ _ _
theorem pd_FL_By {key : Int32} {u : Bool} {L : List Nat} (h : pd_By L) : pd_By (pd_FL key u L) := pd_sl_By (t := pd_ot key u (fun i => L.getD i 0)) (fun i => pd_ot_lt (f := fun i => L.getD i 0) (pd_By_get h i)) _ _
theorem pd_FL_D {cap : Nat} {key : Int32} {u : Bool} {a : Nat → Int32} {n : Int32} {L : List Nat} (h : pd_D cap a n L) (hc : L.length ≤ cap) : pd_D cap (pd_mx (pd_ot key u (fun i => L.getD i 0)) a L.length) n (pd_FL key u L) := by
  refine ⟨by rw [pd_FL_len]; exact h.1, fun i hi _ => ?_⟩
  rw [pd_FL_len] at hi
  unfold pd_FL
  rw [pd_mx_lo _ _ hi, pd_sl_get _ _ _ _ hi, Nat.zero_add]
/-! letters -/
def pd_let (v : Nat) : Nat := if v < 26 then 65 + v else if v < 52 then 71 + v else if v < 62 then v - 4 else if v = 62 then 43 else 47
def pd_num (c : Nat) : Nat := if 65 ≤ c ∧ c ≤ 90 then c - 65 else if 97 ≤ c ∧ c ≤ 122 then c - 71 else if 48 ≤ c ∧ c ≤ 57 then c + 4 else if c = 43 then 62 else if c = 47 then 63 else 64
theorem pd_let_lt (v : Nat) (h : v < 64) : pd_let v < 256 := by
  unfold pd_let
  repeat' split
  all_goals omega
theorem pd_num_let : ∀ v, v < 64 → pd_num (pd_let v) = v := by decide +kernel
theorem pd_let_num : ∀ c, c < 256 → pd_num c < 64 → pd_let (pd_num c) = c := by decide +kernel
def pd_nr (c : Nat) : Int32 := if pd_num c < 64 then nI (pd_num c) else -1
/-! hashes -/
def pd_hs (t : Nat → Nat) : Nat → Int32
  | 0 => -2128831035
  | n + 1 => (pd_hs t n ^^^ nI (t n)) * 16777619
def pd_he (h : Int32) : Int32 := ((h ^^^ (h.toUInt32 >>> ((15 : Int32).toUInt32 &&& Int32.toUInt32 31)).toInt32) * 739982445) ^^^ ((((h ^^^ (h.toUInt32 >>> ((15 : Int32).toUInt32 &&& Int32.toUInt32 31)).toInt32) * 739982445).toUInt32 >>> ((12 : Int32).toUInt32 &&& Int32.toUInt32 31)).toInt32)
/-- byte k of the row salt, WORK -/
def pd_sb (salt : Int32) (t : Nat → Nat) (k : Nat) : Nat := if k < 4 then pd_by salt k else t (k - 4)
def pd_sh (salt : Int32) (t : Nat → Nat) (len : Nat) : Nat → Int32
  | 0 => -2128831035
  | n + 1 => (pd_sh salt t len n ^^^ nI (pd_sb salt t (n % (len + 4)))) * 16777619
