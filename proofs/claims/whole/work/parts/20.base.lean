/-! ===== numbers, reads and writes of the two states ===== -/
theorem nI60 {s : Nat} (h : s < 60) : nI s < (60 : Int32) := nI_lt (b := 60) h (by decide)
theorem nI_m1 (s : Nat) (h : s < 2 ^ 31) : nI s ≠ (-1 : Int32) := fun e => by
  have h1 := nI_toInt h
  rw [e] at h1
  have h2 : (-1 : Int32).toInt = -1 := by decide
  omega
theorem nI_inj {a b : Nat} (ha : a < 60) (hb : b < 60) (h : nI a = nI b) : a = b := (nI_eq (by omega) (by omega)).mp h
theorem nI_nin {s n : Nat} (h : s < n) (hn : n < 2 ^ 31) : ¬ (nI s < 0 ∨ n ≤ (nI s).toNatClampNeg) := nI_in h hn
theorem nI_cl {s : Nat} (h : s < 60) : (nI s).toNatClampNeg = s := nI_clamp (by omega)
theorem nI_mul (a b : Nat) : nI a * nI b = nI (a * b) := (Int32.ofNat_mul a b).symm
def b2i (d : Bool) : Int32 := if d then 1 else 0
def cc (d : Bool) : Nat := if d then 3 else 4
theorem cc_t : cc true = 3 := rfl
theorem cc_f : cc false = 4 := rfl
theorem cc_le (d : Bool) : cc d = 3 ∨ cc d = 4 := by cases d <;> simp [cc]
/-- a slot, or none -/
def sl (x : Int32) : Prop := x = -1 ∨ ∃ s, s < 60 ∧ x = nI s
theorem sl_m1 : sl (-1) := Or.inl rfl
theorem sl_nI {s : Nat} (h : s < 60) : sl (nI s) := Or.inr ⟨s, h, rfl⟩
section CG
variable {F : Nat} {τ : Tau} {s : Nat}
theorem cg_key (h : s < 60) : fX4_keyOf F τ (nI s) = some (τ 0 s) := by
  unfold fX4_keyOf
  rw [if_neg (nI_pos (by omega)), if_pos (nI60 h), if_neg (nI_nin h (by omega)), nI_cl h]
theorem cg_worth (h : s < 60) : fX4_worthOf F τ (nI s) = some (τ 1 s) := by
  unfold fX4_worthOf
  rw [if_neg (nI_pos (by omega)), if_pos (nI60 h), if_neg (nI_nin h (by omega)), nI_cl h]
theorem cg_rank (h : s < 60) : fX4_rankOf F τ (nI s) = some (τ 2 s) := by
  unfold fX4_rankOf
  rw [if_neg (nI_pos (by omega)), if_pos (nI60 h), if_neg (nI_nin h (by omega)), nI_cl h]
theorem cg_left (h : s < 60) : fX4_leftOf F τ (nI s) = some (τ 3 s) := by
  unfold fX4_leftOf
  rw [if_neg (nI_pos (by omega)), if_pos (nI60 h), if_neg (nI_nin h (by omega)), nI_cl h]
theorem cg_right (h : s < 60) : fX4_rightOf F τ (nI s) = some (τ 4 s) := by
  unfold fX4_rightOf
  rw [if_neg (nI_pos (by omega)), if_pos (nI60 h), if_neg (nI_nin h (by omega)), nI_cl h]
theorem cg_parent (h : s < 60) : fX4_parentOf F τ (nI s) = some (τ 5 s) := by
  unfold fX4_parentOf
  rw [if_neg (nI_pos (by omega)), if_pos (nI60 h), if_neg (nI_nin h (by omega)), nI_cl h]
theorem cg_key0 : fX4_keyOf F τ (-1) = some (-1) := rfl
theorem cg_worth0 : fX4_worthOf F τ (-1) = some 0 := rfl
theorem cg_rank0 : fX4_rankOf F τ (-1) = some (-1) := rfl
theorem cg_left0 : fX4_leftOf F τ (-1) = some (-1) := rfl
theorem cg_right0 : fX4_rightOf F τ (-1) = some (-1) := rfl
theorem cg_parent0 : fX4_parentOf F τ (-1) = some (-1) := rfl
theorem cg_child (h : s < 60) (d : Bool) : fX4_childOf F τ (nI s) (b2i d) = some (τ (cc d) s) := by
  unfold fX4_childOf
  rw [if_neg (nI_pos (by omega)), if_pos (nI60 h)]
  cases d
  · rw [if_pos (show b2i false = 0 from rfl), if_neg (nI_nin h (by omega)), nI_cl h]; rfl
  · rw [if_neg (show ¬ b2i true = 0 by decide), if_neg (nI_nin h (by omega)), nI_cl h]; rfl
theorem cg_child1 (h : s < 60) : fX4_childOf F τ (nI s) (1 : Int32) = some (τ 3 s) := cg_child h true
theorem cg_child00 (h : s < 60) : fX4_childOf F τ (nI s) (0 : Int32) = some (τ 4 s) := cg_child h false
theorem cg_childm (d : Int32) : fX4_childOf F τ (-1) d = some (-1) := rfl
theorem cg_step {x y a b : Int32} (h1 : fX4_rankOf F τ x = some a) (h2 : fX4_rankOf F τ y = some b) : fX4_step F τ x y = some (a - b) := by
  unfold fX4_step
  rw [h1, h2]; rfl
theorem cg_leaf (h : s < 60) : fX4_isLeaf F τ (nI s) = some (if τ 3 s = -1 ∧ τ 4 s = -1 then 1 else 0) := by
  unfold fX4_isLeaf
  rw [cg_left h, cg_right h]
  show (if τ 3 s = -1 then (if τ 4 s = -1 then some (1 : Int32) else some 0) else some 0) = _
  by_cases h3 : τ 3 s = -1
  · by_cases h4 : τ 4 s = -1 <;> simp [h3, h4]
  · simp [h3]
theorem cg_addRank (h : s < 60) (v : Int32) : fX4_addRank F τ (nI s) v = some (u2 τ 2 s (τ 2 s + v)) := by
  unfold fX4_addRank
  have h1 := nI_nin h (show 60 < 2 ^ 31 by omega)
  rw [if_neg (nI_pos (by omega)), if_neg (fun q => absurd (nI60 h) (Int32.not_lt.mpr q)), if_neg h1, if_neg h1, nI_cl h]
theorem cg_setRank (h : s < 60) (v : Int32) : fX4_setRank F τ (nI s) v = some (u2 τ 2 s v) := by
  unfold fX4_setRank
  have h1 := nI_nin h (show 60 < 2 ^ 31 by omega)
  rw [if_neg (nI_pos (by omega)), if_neg (fun q => absurd (nI60 h) (Int32.not_lt.mpr q)), if_neg h1, nI_cl h]
theorem cg_setWorth (h : s < 60) (v : Int32) : fX4_setWorth F τ (nI s) v = some (u2 τ 1 s v) := by
  unfold fX4_setWorth
  have h1 := nI_nin h (show 60 < 2 ^ 31 by omega)
  rw [if_neg (nI_pos (by omega)), if_neg (fun q => absurd (nI60 h) (Int32.not_lt.mpr q)), if_neg h1, nI_cl h]
end CG
/-- hanging, as both do it -/
def hangT (τ : Tau) (p : Int32) (d : Bool) (x : Int32) : Tau :=
  let τ1 := if x = -1 then τ else u2 τ 5 x.toNatClampNeg p
  if p = -1 then u2 τ1 6 0 x else u2 τ1 (cc d) p.toNatClampNeg x
theorem cg_hang {F : Nat} {τ : Tau} {p x : Int32} (hp : sl p) (hx : sl x) (d : Bool) : fX4_hang F τ p (b2i d) x = some (hangT τ p d x) := by
  have hb : ∀ τ : Tau, fX4_hang_17 F τ p (b2i d) x = some (if p = -1 then u2 τ 6 0 x else u2 τ (cc d) p.toNatClampNeg x) := by
    intro τ
    unfold fX4_hang_17 fX4_hang_27
    rcases hp with rfl | ⟨s, hs, rfl⟩
    · rfl
    · rw [if_neg (nI_pos (by omega)), if_pos (nI60 hs), if_neg (nI_m1 s (by omega))]
      cases d
      · rw [if_pos (show b2i false = 0 from rfl), if_neg (nI_nin hs (by omega))]; rfl
      · rw [if_neg (show ¬ b2i true = 0 by decide), if_neg (nI_nin hs (by omega))]; rfl
  unfold fX4_hang hangT
  rcases hx with rfl | ⟨s, hs, rfl⟩
  · rw [hb]; rfl
  · rw [if_neg (nI_pos (by omega)), if_neg (fun q => absurd (nI60 hs) (Int32.not_lt.mpr q)), if_neg (nI_nin hs (by omega)), hb]
    simp only [if_neg (nI_m1 s (show s < 2 ^ 31 by omega))]
/-! the model's row of a tree -/
def flat (τ : Tau) : Nat → Int32 := fun k => if k < 360 then τ (k % 6) (k / 6) else if k < 362 then τ 6 (k - 360) else if k < 365 then τ 7 (k - 362) else if k < 368 then τ 8 (k - 365) else 0
theorem u2_at (τ : Tau) (c k : Nat) (v : Int32) : u2 τ c k v c k = v := by simp [u2, u1, upd]
theorem u2_app (τ : Tau) (c k : Nat) (v : Int32) (c' k' : Nat) : u2 τ c k v c' k' = if c' = c ∧ k' = k then v else τ c' k' := by
  unfold u2 u1
  by_cases h : c' = c
  · subst h
    by_cases h2 : k' = k
    · simp [upd, h2]
    · simp [upd, h2]
  · simp [h]
theorem u2_ne (τ : Tau) {c k : Nat} (v : Int32) {c' k' : Nat} (h : c' ≠ c ∨ k' ≠ k) : u2 τ c k v c' k' = τ c' k' := by
  rw [u2_app, if_neg]
  rintro ⟨rfl, rfl⟩
  rcases h with h | h <;> exact h rfl
theorem u2_row (τ : Tau) {c k : Nat} (v : Int32) {c' : Nat} (h : c' ≠ c) : u2 τ c k v c' = τ c' := u1_ne τ _ h
theorem u2_comm (τ : Tau) {a b : Nat} (h : a ≠ b) (i j : Nat) (v w : Int32) : u2 (u2 τ a i v) b j w = u2 (u2 τ b j w) a i v := by
  funext c k
  simp only [u2_app]
  by_cases h1 : c = a ∧ k = i
  · by_cases h2 : c = b ∧ k = j
    · exact absurd (h1.1.symm.trans h2.1) h
    · simp [h1, h2]
      intro h3
      exact absurd h3 h
  · by_cases h2 : c = b ∧ k = j
    · simp [h2]
      intro h3
      exact absurd h3.symm h
    · simp [h1, h2]
theorem flat_lo {τ : Tau} {c s : Nat} (hc : c < 6) (hs : s < 60) : flat τ (6 * s + c) = τ c s := by
  have h1 : 6 * s + c < 360 := by omega
  have h2 : (6 * s + c) % 6 = c := by omega
  have h3 : (6 * s + c) / 6 = s := by omega
  simp [flat, h1, h2, h3]
theorem flat_6 {τ : Tau} {k : Nat} (hk : k < 2) : flat τ (360 + k) = τ 6 k := by
  have h1 : ¬ 360 + k < 360 := by omega
  have h2 : 360 + k < 362 := by omega
  unfold flat
  rw [if_neg h1, if_pos h2, show 360 + k - 360 = k by omega]
theorem flat_7 {τ : Tau} {k : Nat} (hk : k < 3) : flat τ (362 + k) = τ 7 k := by
  have h1 : ¬ 362 + k < 360 := by omega
  have h2 : ¬ 362 + k < 362 := by omega
  have h3 : 362 + k < 365 := by omega
  unfold flat
  rw [if_neg h1, if_neg h2, if_pos h3, show 362 + k - 362 = k by omega]
theorem flat_8 {τ : Tau} {k : Nat} (hk : k < 3) : flat τ (365 + k) = τ 8 k := by
  have h1 : ¬ 365 + k < 360 := by omega
  have h2 : ¬ 365 + k < 362 := by omega
  have h3 : ¬ 365 + k < 365 := by omega
  have h4 : 365 + k < 368 := by omega
  unfold flat
  rw [if_neg h1, if_neg h2, if_neg h3, if_pos h4, show 365 + k - 365 = k by omega]
/-- the places of a tree's state -/
def vd (c k : Nat) : Prop := c < 6 ∧ k < 60 ∨ c = 6 ∧ k < 2 ∨ c = 7 ∧ k < 3 ∨ c = 8 ∧ k < 3
theorem flat_ext {τ τ' : Tau} (h : ∀ c k, vd c k → τ c k = τ' c k) : flat τ = flat τ' := by
  funext k
  unfold flat
  by_cases h1 : k < 360
  · rw [if_pos h1, if_pos h1]; exact h _ _ (Or.inl ⟨by omega, by omega⟩)
  · rw [if_neg h1, if_neg h1]
    by_cases h2 : k < 362
    · rw [if_pos h2, if_pos h2]; exact h _ _ (Or.inr (Or.inl ⟨rfl, by omega⟩))
    · rw [if_neg h2, if_neg h2]
      by_cases h3 : k < 365
      · rw [if_pos h3, if_pos h3]; exact h _ _ (Or.inr (Or.inr (Or.inl ⟨rfl, by omega⟩)))
      · rw [if_neg h3, if_neg h3]
        by_cases h4 : k < 368
        · rw [if_pos h4, if_pos h4]; exact h _ _ (Or.inr (Or.inr (Or.inr ⟨rfl, by omega⟩)))
        · rw [if_neg h4, if_neg h4]
theorem fl_up {τ : Tau} {c s : Nat} (hc : c < 6) (hs : s < 60) (v : Int32) : upd (flat τ) (6 * s + c) v = flat (u2 τ c s v) := by
  funext k
  unfold upd
  by_cases hk : k = 6 * s + c
  · subst hk
    rw [if_pos rfl, flat_lo hc hs, u2_at]
  · rw [if_neg hk]
    unfold flat
    by_cases h1 : k < 360
    · rw [if_pos h1, if_pos h1, u2_ne]
      omega
    · rw [if_neg h1, if_neg h1, u2_row τ v (show (6 : Nat) ≠ c by omega), u2_row τ v (show (7 : Nat) ≠ c by omega), u2_row τ v (show (8 : Nat) ≠ c by omega)]
theorem fl_up6 {τ : Tau} {j : Nat} (hj : j < 2) (v : Int32) : upd (flat τ) (360 + j) v = flat (u2 τ 6 j v) := by
  funext k
  unfold upd
  by_cases hk : k = 360 + j
  · subst hk
    rw [if_pos rfl, flat_6 hj, u2_at]
  · rw [if_neg hk]
    unfold flat
    by_cases h1 : k < 360
    · rw [if_pos h1, if_pos h1, u2_ne]
      omega
    · rw [if_neg h1, if_neg h1, u2_row τ v (show (7 : Nat) ≠ 6 by omega), u2_row τ v (show (8 : Nat) ≠ 6 by omega)]
      by_cases h2 : k < 362
      · rw [if_pos h2, if_pos h2, u2_ne]
        omega
      · rw [if_neg h2, if_neg h2]
theorem fl_up7 {τ : Tau} {j : Nat} (hj : j < 3) (v : Int32) : upd (flat τ) (362 + j) v = flat (u2 τ 7 j v) := by
  funext k
  unfold upd
  by_cases hk : k = 362 + j
  · subst hk
    rw [if_pos rfl, flat_7 hj, u2_at]
  · rw [if_neg hk]
    unfold flat
    by_cases h1 : k < 360
    · rw [if_pos h1, if_pos h1, u2_ne]
      omega
    · rw [if_neg h1, if_neg h1, u2_row τ v (show (6 : Nat) ≠ 7 by omega), u2_row τ v (show (8 : Nat) ≠ 7 by omega)]
      by_cases h2 : k < 362
      · rw [if_pos h2, if_pos h2]
      · rw [if_neg h2, if_neg h2]
        by_cases h3 : k < 365
        · rw [if_pos h3, if_pos h3, u2_ne]
          omega
        · rw [if_neg h3, if_neg h3]
theorem fl_up8 {τ : Tau} {j : Nat} (hj : j < 3) (v : Int32) : upd (flat τ) (365 + j) v = flat (u2 τ 8 j v) := by
  funext k
  unfold upd
  by_cases hk : k = 365 + j
  · subst hk
    rw [if_pos rfl, flat_8 hj, u2_at]
  · rw [if_neg hk]
    unfold flat
    by_cases h1 : k < 360
    · rw [if_pos h1, if_pos h1, u2_ne]
      omega
    · rw [if_neg h1, if_neg h1, u2_row τ v (show (6 : Nat) ≠ 8 by omega), u2_row τ v (show (7 : Nat) ≠ 8 by omega)]
      by_cases h2 : k < 362
      · rw [if_pos h2, if_pos h2]
      · rw [if_neg h2, if_neg h2]
        by_cases h3 : k < 365
        · rw [if_pos h3, if_pos h3]
        · rw [if_neg h3, if_neg h3]
          by_cases h4 : k < 368
          · rw [if_pos h4, if_pos h4, u2_ne]
            omega
          · rw [if_neg h4, if_neg h4]
section MG
variable {F : Nat} {τ : Tau} {s : Nat}
theorem ix_eq (s c : Nat) : ((6 : Int32) * nI s) + nI c = nI (6 * s + c) := by
  rw [show (6 : Int32) = nI 6 from rfl, nI_mul, nI_add]
theorem mg_of (c : Nat) (hs : s < 60) (hc : c < 6) : fX9_of F (flat τ) (nI s) (nI c) = some (τ c s) := by
  unfold fX9_of
  rw [ix_eq, if_neg (nI_in (by omega) (by omega)), nI_clamp (by omega), flat_lo hc hs]
theorem mg_lays (c : Nat) (hs : s < 60) (hc : c < 6) (v : Int32) : fX9_lays F (flat τ) (nI s) (nI c) v = some (flat (u2 τ c s v)) := by
  unfold fX9_lays
  rw [ix_eq, if_neg (nI_in (by omega) (by omega)), nI_clamp (by omega), fl_up hc hs]
theorem mg_top : fX9_top F (flat τ) = some (τ 6 0) := by
  unfold fX9_top
  rw [if_neg (by decide), show (360 : Int32).toNatClampNeg = 360 + 0 from by decide, flat_6 (by omega)]
theorem mg_many : fX9_many F (flat τ) = some (τ 6 1) := by
  unfold fX9_many
  rw [if_neg (by decide), show (361 : Int32).toNatClampNeg = 360 + 1 from by decide, flat_6 (by omega)]
theorem mg_key (hs : s < 60) : fX9_of F (flat τ) (nI s) (0 : Int32) = some (τ 0 s) := mg_of 0 hs (by omega)
theorem mg_worth (hs : s < 60) : fX9_of F (flat τ) (nI s) (1 : Int32) = some (τ 1 s) := mg_of 1 hs (by omega)
theorem mg_rk (hs : s < 60) : fX9_of F (flat τ) (nI s) (2 : Int32) = some (τ 2 s) := mg_of 2 hs (by omega)
theorem mg_left (hs : s < 60) : fX9_of F (flat τ) (nI s) (3 : Int32) = some (τ 3 s) := mg_of 3 hs (by omega)
theorem mg_right (hs : s < 60) : fX9_of F (flat τ) (nI s) (4 : Int32) = some (τ 4 s) := mg_of 4 hs (by omega)
theorem mg_parent (hs : s < 60) : fX9_of F (flat τ) (nI s) (5 : Int32) = some (τ 5 s) := mg_of 5 hs (by omega)
theorem mg_rank (hs : s < 60) : fX9_rankOf F (flat τ) (nI s) = some (τ 2 s) := by
  unfold fX9_rankOf
  rw [if_neg (nI_m1 s (by omega)), mg_rk hs]; rfl
theorem mg_rank0 : fX9_rankOf F (flat τ) (-1) = some (-1) := rfl
theorem mg_child (hs : s < 60) (d : Bool) : fX9_child F (flat τ) (nI s) (b2i d) = some (τ (cc d) s) := by
  unfold fX9_child
  cases d
  · rw [if_pos (show b2i false = 0 from rfl), mg_right hs]; rfl
  · rw [if_neg (show ¬ b2i true = 0 by decide), mg_left hs]; rfl
theorem mg_child1 (hs : s < 60) : fX9_child F (flat τ) (nI s) (1 : Int32) = some (τ 3 s) := mg_child hs true
theorem mg_child0 (hs : s < 60) : fX9_child F (flat τ) (nI s) (0 : Int32) = some (τ 4 s) := mg_child hs false
theorem mg_isLeft (hs : s < 60) (x : Int32) : fX9_isLeftOf F (flat τ) (nI s) x = some (b2i (decide (τ 3 s = x))) := by
  unfold fX9_isLeftOf
  rw [mg_left hs]
  show (if τ 3 s = x then some (1 : Int32) else some 0) = _
  by_cases h : τ 3 s = x <;> simp [h, b2i]
theorem mg_leaf (hs : s < 60) : fX9_hasNoChildren F (flat τ) (nI s) = some (if τ 3 s = -1 ∧ τ 4 s = -1 then 1 else 0) := by
  unfold fX9_hasNoChildren
  rw [mg_left hs, mg_right hs]
  show (if τ 3 s = -1 then (if τ 4 s = -1 then some (1 : Int32) else some 0) else some 0) = _
  by_cases h3 : τ 3 s = -1
  · by_cases h4 : τ 4 s = -1 <;> simp [h3, h4]
  · simp [h3]
theorem mg_step {y b : Int32} (hs : s < 60) (h2 : fX9_rankOf F (flat τ) y = some b) : fX9_step F (flat τ) (nI s) y = some (τ 2 s - b) := by
  unfold fX9_step
  rw [mg_rk hs, h2]; rfl
theorem mg_ranks (hs : s < 60) (v : Int32) : fX9_ranks F (flat τ) (nI s) v = some (flat (u2 τ 2 s (τ 2 s + v))) := by
  unfold fX9_ranks
  rw [mg_rk hs]
  show ((fX9_lays F (flat τ) (nI s) (nI 2) (τ 2 s + v)).bind fun q2 => some q2) = _
  rw [mg_lays 2 hs (by omega)]; rfl
/-- one more of kind j, of all and of the latest -/
def cntM (τ : Tau) (j : Nat) : Tau := u2 (u2 τ 7 j (τ 7 j + 1)) 8 j (τ 8 j + 1)
theorem mg_counts {j : Nat} (hj : j < 3) : fX9_counts F (flat τ) (nI j) = some (flat (cntM τ j)) := by
  unfold fX9_counts
  have e1 : (362 : Int32) + nI j = nI (362 + j) := nI_add 362 j
  have e2 : (365 : Int32) + nI j = nI (365 + j) := nI_add 365 j
  rw [e1, e2, if_neg (nI_in (by omega) (by omega)), if_neg (nI_in (by omega) (by omega)), if_neg (nI_in (by omega) (by omega)), if_neg (nI_in (by omega) (by omega)), nI_clamp (by omega), nI_clamp (by omega), flat_7 hj, fl_up7 hj, flat_8 hj, fl_up8 hj]
  rw [u2_row τ _ (show (8 : Nat) ≠ 7 by omega)]; rfl
theorem mg_hangs {p x : Int32} (hp : sl p) (hx : sl x) (d : Bool) : fX9_hangs F (flat τ) p (b2i d) x = some (flat (hangT τ p d x)) := by
  have hb : ∀ τ : Tau, fX9_hangs_32 F (flat τ) p x = some (flat (if x = -1 then τ else u2 τ 5 x.toNatClampNeg p)) := by
    intro τ
    unfold fX9_hangs_32
    rcases hx with rfl | ⟨s, hs, rfl⟩
    · rfl
    · rw [if_neg (nI_m1 s (by omega)), if_neg (nI_m1 s (by omega)), nI_cl hs]
      show ((fX9_lays F (flat τ) (nI s) (nI 5) p).bind fun q => some q) = _
      rw [mg_lays 5 hs (by omega)]; rfl
  unfold fX9_hangs hangT
  rcases hp with rfl | ⟨s, hs, rfl⟩
  · rw [if_pos rfl, if_neg (by decide), show (360 : Int32).toNatClampNeg = 360 + 0 from by decide, fl_up6 (by omega), hb]
    by_cases h : x = -1
    · simp only [h, if_true]
    · simp only [if_neg h, if_true]
      rw [u2_comm τ (show (6 : Nat) ≠ 5 by omega)]
  · rw [if_neg (nI_m1 s (by omega))]
    have hh : ∀ (c : Nat), c = 3 ∨ c = 4 → fX9_hangs_28 F (flat τ) (nI s) x (nI s) (nI c) = some (flat (if x = -1 then u2 τ c s x else u2 (u2 τ 5 x.toNatClampNeg (nI s)) c s x)) := by
      intro c hc
      unfold fX9_hangs_28
      rw [mg_lays c hs (by omega)]
      show fX9_hangs_32 F (flat (u2 τ c s x)) (nI s) x = _
      rw [hb]
      by_cases h : x = -1
      · simp only [h, if_true]
      · simp only [if_neg h]
        rw [u2_comm τ (show c ≠ 5 by omega)]
    simp only [if_neg (nI_m1 s (show s < 2 ^ 31 by omega)), nI_cl hs]
    cases d
    · rw [if_pos (show b2i false = 0 from rfl)]
      refine (hh 4 (Or.inr rfl)).trans ?_
      by_cases h : x = -1 <;> simp [h, cc]
    · rw [if_neg (show ¬ b2i true = 0 by decide)]
      refine (hh 3 (Or.inl rfl)).trans ?_
      by_cases h : x = -1 <;> simp [h, cc]
end MG
