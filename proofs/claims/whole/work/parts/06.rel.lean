/-! the relation, and how two walks with one outcome are joined -/
/-- the keys: none, or three numbers below 2^31 -/
def pd_K (M O P : Nat → Int64) : Prop := ∀ k, k < 3 → M k = 0 ∨ ∃ m e d : Nat, M k = lN m ∧ O k = lN e ∧ P k = lN d ∧ 0 < m ∧ m < 2 ^ 31 ∧ e < 2 ^ 31 ∧ d < 2 ^ 31
def i_Rel (_ : Nat) (u : SX) (v : SY) : Prop := ∃ (t : Nat → Nat) (len : Nat) (M O P : Nat → Int64) (a : Nat → Int32) (n : Int32) (b : Nat → Int32) (c : Int32), (∀ i, t i < 256) ∧ len ≤ 120 ∧ pd_K M O P ∧ u = (nI len, n, (fun i => nI (t i)), a, M, O, P) ∧ v = (nI len, c, (fun i => nI (t i)), b, M, O, P)
theorem i_up {k : Nat} {u : SX} {v : SY} (h : i_Rel k u v) : i_Rel (k + 5) u v := h
theorem pd_R (k : Nat) {t : Nat → Nat} {len : Nat} {M O P : Nat → Int64} (ht : ∀ i, t i < 256) (hl : len ≤ 120) (hK : pd_K M O P) (a : Nat → Int32) (n : Int32) (b : Nat → Int32) (c : Int32) : i_Rel k (nI len, n, (fun i => nI (t i)), a, M, O, P) (nI len, c, (fun i => nI (t i)), b, M, O, P) := ⟨t, len, M, O, P, a, n, b, c, ht, hl, hK, rfl, rfl⟩
/-- X ends with answer r and the draft L kept from f on, or is full -/
def pd_XK (post : Int32 → SX → Prop) (r : Int32) (t : Nat → Nat) (len : Nat) (M O P : Nat → Int64) (L : List Nat) (f : Nat) : Prop := ∀ (a : Nat → Int32) (n : Int32), (120 < L.length → post (-2) (nI len, n, (fun i => nI (t i)), a, M, O, P)) ∧ (L.length ≤ 120 → post r (nI (L.length - f), n, (fun i => nI (pd_kp t L f i)), a, M, O, P))
def pd_YK (post : Int32 → SY → Prop) (r : Int32) (t : Nat → Nat) (len : Nat) (M O P : Nat → Int64) (L : List Nat) (f : Nat) : Prop := ∀ (a : Nat → Int32) (n : Int32), (120 < L.length → post (-2) (nI len, n, (fun i => nI (t i)), a, M, O, P)) ∧ (L.length ≤ 120 → post r (nI (L.length - f), n, (fun i => nI (pd_kp t L f i)), a, M, O, P))
/-- X ends with answer r, its WORK as it was -/
def pd_XC (post : Int32 → SX → Prop) (r : Int32) (t : Nat → Nat) (len : Nat) (M O P : Nat → Int64) : Prop := ∀ (a : Nat → Int32) (n : Int32), post r (nI len, n, (fun i => nI (t i)), a, M, O, P)
def pd_YC (post : Int32 → SY → Prop) (r : Int32) (t : Nat → Nat) (len : Nat) (M O P : Nat → Int64) : Prop := ∀ (a : Nat → Int32) (n : Int32), post r (nI len, n, (fun i => nI (t i)), a, M, O, P)
theorem pd_fin (k : Nat) {r : Int32} {t : Nat → Nat} {len : Nat} {M O P : Nat → Int64} {L : List Nat} {f : Nat} (ht : ∀ i, t i < 256) (hl : len ≤ 120) (hK : pd_K M O P) (hL : pd_By L) (WX : (Int32 → SX → Prop) → Prop) (WY : (Int32 → SY → Prop) → Prop) (hX : ∀ post, pd_XK post r t len M O P L f → WX post) (hY : ∀ post, pd_YK post r t len M O P L f → WY post) : WX (fun r u' => WY (fun r' v' => r' = r ∧ i_Rel k u' v')) := by
  apply hX
  intro a n
  refine ⟨fun z => hY _ fun b c => ⟨fun _ => ⟨rfl, pd_R k ht hl hK _ _ _ _⟩, fun y => absurd z (by omega)⟩, fun z => hY _ fun b c => ⟨fun y => absurd z (by omega), fun _ => ⟨rfl, pd_R k (pd_kp_By ht hL f) (by omega) hK _ _ _ _⟩⟩⟩
theorem pd_finC (k : Nat) {r : Int32} {t : Nat → Nat} {len : Nat} {M O P : Nat → Int64} (ht : ∀ i, t i < 256) (hl : len ≤ 120) (hK : pd_K M O P) (WX : (Int32 → SX → Prop) → Prop) (WY : (Int32 → SY → Prop) → Prop) (hX : ∀ post, pd_XC post r t len M O P → WX post) (hY : ∀ post, pd_YC post r t len M O P → WY post) : WX (fun r u' => WY (fun r' v' => r' = r ∧ i_Rel k u' v')) := by
  apply hX
  intro a n
  exact hY _ fun b c => ⟨rfl, pd_R k ht hl hK _ _ _ _⟩
/-! runs -/
def pd_Rn (t : Nat → Nat) (len i r : Nat) : Prop := 1 ≤ r ∧ i + r ≤ len ∧ (∀ j, j < r → t (i + j) = t i) ∧ (i + r = len ∨ t (i + r) ≠ t i)
theorem pd_Rn_ex (t : Nat → Nat) (len i : Nat) (h : i < len) : ∃ r, pd_Rn t len i r := by
  obtain ⟨r, hr, hl⟩ := pk_least (fun r => i + (r + 1) = len ∨ (i + (r + 1) < len ∧ t (i + (r + 1)) ≠ t i)) ⟨len - i - 1, Or.inl (by omega)⟩
  have hb : ∀ j, j ≤ r → i + j < len ∧ t (i + j) = t i := by
    intro j
    induction j with
    | zero => intro _; exact ⟨h, rfl⟩
    | succ j ih =>
      intro hj
      have a := ih (by omega)
      have b := hl j (by omega)
      by_cases z : i + (j + 1) = len
      · exact absurd (Or.inl z) b
      · refine ⟨by omega, ?_⟩
        by_cases y : t (i + (j + 1)) = t i
        · exact y
        · exact absurd (Or.inr ⟨by omega, y⟩) b
  refine ⟨r + 1, by omega, by have := (hb r (Nat.le_refl _)).1; omega, fun j hj => (hb j (by omega)).2, ?_⟩
  rcases hr with z | z
  · exact Or.inl z
  · exact Or.inr z.2
