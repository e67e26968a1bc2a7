/-! bytes in lists, slices of the WORK, drafts -/
def pd_sl (t : Nat → Nat) (i : Nat) : Nat → List Nat
  | 0 => []
  | c + 1 => pd_sl t i c ++ [t (i + c)]
theorem pd_sl_len (t : Nat → Nat) (i c : Nat) : (pd_sl t i c).length = c := by
  induction c with
  | zero => rfl
  | succ c ih => simp [pd_sl, ih]
def pd_By (L : List Nat) : Prop := ∀ b, b ∈ L → b < 256
theorem pd_By_nil : pd_By [] := by
  intro b h
  cases h
theorem pd_By_app {L M : List Nat} (h : pd_By L) (k : pd_By M) : pd_By (L ++ M) := by
  intro b hb
  rcases List.mem_append.mp hb with z | z
  · exact h b z
  · exact k b z
theorem pd_By_one {b : Nat} (h : b < 256) : pd_By [b] := by
  intro c hc
  rw [List.mem_singleton] at hc
  omega
theorem pd_By_put {L : List Nat} {b : Nat} (h : pd_By L) (k : b < 256) : pd_By (L ++ [b]) := pd_By_app h (pd_By_one k)
theorem pd_sl_By {t : Nat → Nat} (ht : ∀ i, t i < 256) (i c : Nat) : pd_By (pd_sl t i c) := by
  induction c with
  | zero => exact pd_By_nil
  | succ c ih => exact pd_By_put ih (ht _)
theorem pd_By_get {L : List Nat} (h : pd_By L) (i : Nat) : L.getD i 0 < 256 := by
  by_cases z : i < L.length
  · rw [List.getD_eq_getElem?_getD, List.getElem?_eq_getElem z]
    exact h _ (List.getElem_mem z)
  · rw [List.getD_eq_getElem?_getD, List.getElem?_eq_none (by omega)]
    exact (by decide : (0 : Nat) < 256)
theorem pd_get_lo {L M : List Nat} {i : Nat} (h : i < L.length) : (L ++ M).getD i 0 = L.getD i 0 := by
  rw [List.getD_eq_getElem?_getD, List.getElem?_append_left h, ← List.getD_eq_getElem?_getD]
theorem pd_get_at (L : List Nat) (b : Nat) : (L ++ [b]).getD L.length 0 = b := by
  rw [List.getD_eq_getElem?_getD, List.getElem?_concat_length]
  rfl
theorem pd_get_hi (L M : List Nat) (i : Nat) : (L ++ M).getD (L.length + i) 0 = M.getD i 0 := by
  rw [List.getD_eq_getElem?_getD, List.getElem?_append_right (by omega), Nat.add_sub_cancel_left, ← List.getD_eq_getElem?_getD]
theorem pd_sl_get (t : Nat → Nat) (i : Nat) : ∀ c j, j < c → (pd_sl t i c).getD j 0 = t (i + j) := by
  intro c
  induction c with
  | zero => intro j h; exact absurd h (Nat.not_lt_zero _)
  | succ c ih =>
    intro j h
    rcases Nat.lt_or_ge j c with z | z
    · rw [pd_sl, pd_get_lo (by rw [pd_sl_len]; exact z)]
      exact ih j z
    · obtain rfl : j = c := by omega
      have e := pd_get_at (pd_sl t i j) (t (i + j))
      rw [pd_sl_len] at e
      exact e
/-- the draft array a with the count n holds the list L, as far as its cap goes -/
def pd_D (cap : Nat) (a : Nat → Int32) (n : Int32) (L : List Nat) : Prop := n = nI L.length ∧ ∀ i, i < L.length → i < cap → a i = nI (L.getD i 0)
theorem pd_D_nil (cap : Nat) (a : Nat → Int32) : pd_D cap a 0 [] := ⟨rfl, fun _ h => absurd h (Nat.not_lt_zero _)⟩
theorem pd_len1 (L : List Nat) (b : Nat) : (L ++ [b]).length = L.length + 1 := by simp
theorem pd_D_put {cap : Nat} {a : Nat → Int32} {n : Int32} {L : List Nat} (b : Nat) (h : pd_D cap a n L) : pd_D cap (upd a L.length (nI b)) (nI (L.length + 1)) (L ++ [b]) := by
  refine ⟨by rw [pd_len1], fun i hi hc => ?_⟩
  rw [pd_len1] at hi
  rcases Nat.lt_or_ge i L.length with z | z
  · rw [pk_un (by omega), pd_get_lo z]
    exact h.2 i z hc
  · obtain rfl : i = L.length := by omega
    rw [pk_us, pd_get_at]
theorem pd_D_skip {cap : Nat} {a : Nat → Int32} {n : Int32} {L : List Nat} (b : Nat) (h : pd_D cap a n L) (k : cap ≤ L.length) : pd_D cap a (nI (L.length + 1)) (L ++ [b]) := by
  refine ⟨by rw [pd_len1], fun i hi hc => ?_⟩
  rw [pd_get_lo (by omega)]
  exact h.2 i (by omega) hc
theorem pd_D_take {cap : Nat} {a : Nat → Int32} {n : Int32} {L : List Nat} (k : Nat) (h : pd_D cap a n L) (hk : k ≤ L.length) : pd_D cap a (nI k) (L.take k) := by
  have e : (L.take k).length = k := by rw [List.length_take]; omega
  refine ⟨by rw [e], fun i hi hc => ?_⟩
  rw [e] at hi
  rw [List.getD_eq_getElem?_getD, List.getElem?_take_of_lt hi, ← List.getD_eq_getElem?_getD]
  exact h.2 i (by omega) hc
/-- the WORK after the draft L, from place f on, is kept -/
def pd_kp (t : Nat → Nat) (L : List Nat) (f : Nat) : Nat → Nat := fun i => if i < L.length - f then L.getD (i + f) 0 else t i
theorem pd_kp_By {t : Nat → Nat} {L : List Nat} (ht : ∀ i, t i < 256) (hL : pd_By L) (f : Nat) : ∀ i, pd_kp t L f i < 256 := by
  intro i
  unfold pd_kp
  by_cases z : i < L.length - f
  · rw [if_pos z]; exact pd_By_get hL _
  · rw [if_neg z]; exact ht i
/-- the WORK while the draft is being kept: c bytes are done -/
def pd_kc (w : Nat → Int32) (L : List Nat) (f c : Nat) : Nat → Int32 := fun i => if i < c then nI (L.getD (i + f) 0) else w i
theorem pd_kc_0 (w : Nat → Int32) (L : List Nat) (f : Nat) : pd_kc w L f 0 = w := by
  funext i
  exact if_neg (Nat.not_lt_zero _)
theorem pd_kc_s (w : Nat → Int32) (L : List Nat) (f c : Nat) : upd (pd_kc w L f c) c (nI (L.getD (c + f) 0)) = pd_kc w L f (c + 1) := by
  funext i
  unfold pd_kc upd
  dsimp only
  rcases Nat.lt_trichotomy i c with z | z | z
  · rw [if_neg (by omega), if_pos z, if_pos (by omega)]
  · subst z; rw [if_pos rfl, if_pos (by omega)]
  · rw [if_neg (by omega), if_neg (by omega), if_neg (by omega)]
theorem pd_kc_e (t : Nat → Nat) (L : List Nat) (f : Nat) : pd_kc (fun i => nI (t i)) L f (L.length - f) = fun i => nI (pd_kp t L f i) := by
  funext i
  unfold pd_kc pd_kp
  by_cases z : i < L.length - f
  · rw [if_pos z, if_pos z]
  · rw [if_neg z, if_neg z]
theorem pd_updT (t : Nat → Nat) (k b : Nat) : upd (fun i => nI (t i)) k (nI b) = fun i => nI ((fun i => if i = k then b else t i) i) := by
  funext i
  unfold upd
  by_cases z : i = k
  · simp [z]
  · simp [z]
theorem pd_updB {t : Nat → Nat} (ht : ∀ i, t i < 256) {k b : Nat} (hb : b < 256) : ∀ i, (fun i => if i = k then b else t i) i < 256 := by
  intro i
  dsimp only
  by_cases z : i = k
  · rw [if_pos z]; exact hb
  · rw [if_neg z]; exact ht i
