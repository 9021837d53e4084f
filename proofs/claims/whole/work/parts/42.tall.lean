/-! ===== flat and tall ===== -/
theorem flat_ok {F : Nat} (hF : 100 ≤ F) {τ : Tau} {c : Nat} (hc : c ≤ 60) (h : τ 6 1 = nI c) : ∃ r, fX0_flat F (τ 6 1) = some r ∧ fX9_flat F (flat τ) = some r := by
  unfold fX0_flat fX9_flat
  obtain ⟨f, rfl⟩ : ∃ f, F = f + 8 := ⟨F - 8, by omega⟩
  rw [h]
  have step : ∀ (n m : Nat) (d r : Nat), d < 7 → (((1 : Int32) <<< (nI d &&& 31)) - (1 : Int32)) = nI r → fX0_flat_4 (f + 8) (n + 1) (nI c) (nI d) (nI r) = (if nI c ≤ nI r then some (nI d) else fX0_flat_4 (f + 8) n (nI c) (nI (d + 1)) (nI (2 * r + 1))) ∧ fX9_flat_2 (f + 8) (flat τ) (m + 1) (nI d) = (if nI c ≤ nI r then some (nI d) else fX9_flat_2 (f + 8) (flat τ) m (nI (d + 1))) := by
    intro n m d r hd hr
    rw [fX0_flat_4, fX9_flat_2, mg_many, h, Option.bind_some, hr, nI_1, show (60 : Int32) = nI 60 from rfl, if_neg (nI_ge (a := d) (b := 60) (by omega) (by omega)), show (2 : Int32) * nI r + 1 = nI (2 * r + 1) by rw [show (2 : Int32) = nI 2 from rfl, nI_mul, nI_1]]
    exact ⟨rfl, rfl⟩
  have go : ∀ (n m d r : Nat), d < 7 → (((1 : Int32) <<< (nI d &&& 31)) - (1 : Int32)) = nI r → ((∃ v, fX0_flat_4 (f + 8) n (nI c) (nI (d + 1)) (nI (2 * r + 1)) = some v ∧ fX9_flat_2 (f + 8) (flat τ) m (nI (d + 1)) = some v) ∨ nI c ≤ nI r) → ∃ v, fX0_flat_4 (f + 8) (n + 1) (nI c) (nI d) (nI r) = some v ∧ fX9_flat_2 (f + 8) (flat τ) (m + 1) (nI d) = some v := by
    intro n m d r hd hr hh
    obtain ⟨e1, e2⟩ := step n m d r hd hr
    rw [e1, e2]
    by_cases hcr : nI c ≤ nI r
    · rw [if_pos hcr, if_pos hcr]; exact ⟨_, rfl, rfl⟩
    · rw [if_neg hcr, if_neg hcr]
      rcases hh with hh | hh
      · exact hh
      · exact absurd hh hcr
  refine go (f + 7) (f + 7) 0 0 (by omega) (by decide) (Or.inl ?_)
  refine go (f + 6) (f + 6) 1 1 (by omega) (by decide) (Or.inl ?_)
  refine go (f + 5) (f + 5) 2 3 (by omega) (by decide) (Or.inl ?_)
  refine go (f + 4) (f + 4) 3 7 (by omega) (by decide) (Or.inl ?_)
  refine go (f + 3) (f + 3) 4 15 (by omega) (by decide) (Or.inl ?_)
  refine go (f + 2) (f + 2) 5 31 (by omega) (by decide) (Or.inl ?_)
  exact go (f + 1) (f + 1) 6 63 (by omega) (by decide) (Or.inr (nI_le (by omega) (by omega)))
def fwS : Nat → Nat
  | 0 => 0
  | 1 => 1
  | 2 => 2
  | r + 3 => min (1 + 2 * fwS (r + 1)) 1000
def celS (h : Nat) (P : List Nat) (r : Nat) : Nat := min (if h = 1 ∧ r = 0 then 1 else 1 + (if h = 1 then 1000 else min (if r ≤ 0 then 1000 else P.getD (r - 1) 0) (if r ≤ 1 then 1000 else P.getD (r - 2) 0)) + (if r ≤ 1 then 0 else fwS (r - 1))) 1000
def rowS : Nat → List Nat
  | 0 => []
  | h + 1 => (List.range 30).map (celS (h + 1) (rowS h))
def leS (h : Nat) : Nat → Nat
  | 0 => 1000
  | r + 1 => min (leS h r) (celS h (rowS (h - 1)) r)
def bS (c : Nat) : Nat → Nat → Nat → Nat
  | 0, _, best => best
  | j + 1, h, best => bS c j (h + 1) (if c < leS h 30 then best else h)
theorem fw_le : ∀ r, fwS r ≤ 1000
  | 0 => by decide
  | 1 => by decide
  | 2 => by decide
  | r + 3 => Nat.min_le_right _ _
theorem cel_le (h : Nat) (P : List Nat) (r : Nat) : celS h P r ≤ 1000 := Nat.min_le_right _ _
theorem le_le (h : Nat) : ∀ r, leS h r ≤ 1000
  | 0 => Nat.le_refl _
  | r + 1 => Nat.le_trans (Nat.min_le_left _ _) (le_le h r)
theorem row_get {h r : Nat} (hr : r < 30) : (rowS (h + 1)).getD r 0 = celS (h + 1) (rowS h) r := by
  rw [rowS, List.getD_eq_getElem?_getD, List.getElem?_map, List.getElem?_range hr]; rfl
theorem lesser_nI (F : Nat) {a b : Nat} (ha : a < 2 ^ 31) (hb : b < 2 ^ 31) : fX9_lesser F (nI a) (nI b) = some (nI (min a b)) := by
  unfold fX9_lesser
  by_cases h : b ≤ a
  · rw [if_pos (nI_le h ha), Nat.min_eq_right h]
  · rw [if_neg (nI_ge (by omega) hb), Nat.min_eq_left (by omega)]
theorem few_ok {F : Nat} {now : Nat → Int32} (deep : Nat → Int32) : ∀ (j r n : Nat) (fw : Nat → Int32), r + j = 32 → 3 ≤ r → j < n → (∀ q, q < r → fw q = nI (fwS q)) → ∃ fw', fX9_tall_23 F now n fw deep (nI r) = fX9_tall_87 F now F fw' deep 0 1 ∧ ∀ q, q < 32 → fw' q = nI (fwS q)
  | 0, r, n, fw, hr, hr3, hn, hf => by
    obtain ⟨n, rfl⟩ : ∃ z, n = z + 1 := ⟨n - 1, by omega⟩
    obtain rfl : r = 32 := by omega
    exact ⟨fw, by rw [fX9_tall_23, if_pos (by decide)], hf⟩
  | j + 1, r, n, fw, hr, hr3, hn, hf => by
    obtain ⟨n, rfl⟩ : ∃ z, n = z + 1 := ⟨n - 1, by omega⟩
    obtain ⟨r, rfl⟩ : ∃ z, r = z + 3 := ⟨r - 3, by omega⟩
    have e2 : nI (r + 3) - 2 = nI (r + 1) := by
      rw [show nI (r + 3) = nI (r + 1) + 2 from (nI_add (r + 1) 2).symm]
      rw [Int32.add_sub_cancel]
    have h32 : ¬ (32 : Int32) ≤ nI (r + 3) := nI_ge (a := r + 3) (b := 32) (by omega) (by omega)
    have hin : ¬ (nI (r + 3) < 0 ∨ 32 ≤ (nI (r + 3)).toNatClampNeg) := nI_nin (by omega) (by omega)
    have hin1 : ¬ (nI (r + 1) < 0 ∨ 32 ≤ (nI (r + 1)).toNatClampNeg) := nI_nin (by omega) (by omega)
    have hfl := fw_le (r + 1)
    have hval : (1 : Int32) + 2 * fw (nI (r + 1)).toNatClampNeg = nI (1 + 2 * fwS (r + 1)) := by
      rw [nI_clamp (by omega), hf (r + 1) (by omega), show (2 : Int32) = nI 2 from rfl, nI_mul, show (1 : Int32) = nI 1 from rfl, nI_add]
    rw [fX9_tall_23, if_neg h32, e2, if_neg hin1, if_neg hin, if_neg hin, if_neg hin, if_neg hin, hval, up_at, nI_1]
    have hcl : (nI (r + 3)).toNatClampNeg = r + 3 := nI_clamp (by omega)
    rw [hcl]
    by_cases hle : 1 + 2 * fwS (r + 1) ≤ 1000
    · rw [if_pos (show nI (1 + 2 * fwS (r + 1)) ≤ (1000 : Int32) from nI_le (b := 1000) hle (by omega))]
      refine few_ok deep j (r + 4) n _ (by omega) (by omega) (by omega) (fun q hq => ?_)
      by_cases e : q = r + 3
      · subst e; rw [up_at, fwS, Nat.min_eq_left hle]
      · rw [up_ne e, up_ne e]; exact hf q (by omega)
    · rw [if_neg (show ¬ nI (1 + 2 * fwS (r + 1)) ≤ (1000 : Int32) from nI_ge (a := 1000) (by omega) (by omega)), if_neg (show ¬ (nI (r + 3) < 0 ∨ 32 ≤ r + 3) from by rw [← hcl]; rw [hcl]; rw [hcl] at hin; exact hin)]
      refine few_ok deep j (r + 4) n _ (by omega) (by omega) (by omega) (fun q hq => ?_)
      by_cases e : q = r + 3
      · subst e; rw [up_at, fwS, Nat.min_eq_right (by omega)]; rfl
      · rw [up_ne e, up_ne e]; exact hf q (by omega)
section TALL
abbrev K100 : Type := (Nat → Int32) → (Nat → Int32) → Int32 → Int32 → Int32 → Int32 → Option (Int32 × (Nat → Int32) × (Nat → Int32))
abbrev K87 : Type := (Nat → Int32) → (Nat → Int32) → Int32 → Int32 → Option (Int32 × (Nat → Int32) × (Nat → Int32))
theorem tall176 {F : Nat} {now : Nat → Int32} (k87 : K87) (k100 : K100) (fw deep : Nat → Int32) (x1 : Int32) {h r least below : Nat} (hf : ∀ q, q < 32 → fw q = nI (fwS q)) (hh : h < 20) (hr : r < 30) (hl : least ≤ 1000) (hb : below ≤ 1000) :
    fX9_tall_176 F now k87 k100 fw deep x1 (nI h) (nI least) (nI r) (nI below) = k100 fw (upd deep (32 * h + r) (nI (min (if h = 1 ∧ r = 0 then 1 else 1 + below + (if r ≤ 1 then 0 else fwS (r - 1))) 1000))) x1 (nI h) (nI (min least (min (if h = 1 ∧ r = 0 then 1 else 1 + below + (if r ≤ 1 then 0 else fwS (r - 1))) 1000))) (nI (r + 1)) := by
  have h220 : ∀ v : Nat, v ≤ 3000 → fX9_tall_220 F now k87 k100 fw deep x1 (nI h) (nI least) (nI r) (nI v) = k100 fw (upd deep (32 * h + r) (nI (min v 1000))) x1 (nI h) (nI (min least (min v 1000))) (nI (r + 1)) := by
    intro v hv
    unfold fX9_tall_220
    have hix : (32 : Int32) * nI h + nI r = nI (32 * h + r) := by rw [show (32 : Int32) = nI 32 from rfl, nI_mul, nI_add]
    rw [show (1000 : Int32) = nI 1000 from rfl, lesser_nI F (by omega) (by omega), Option.bind_some, hix, if_neg (nI_nin (by omega) (by omega)), if_neg (nI_nin (by omega) (by omega)), nI_clamp (by omega), up_at, lesser_nI F (by omega) (by omega), Option.bind_some, nI_1]
  have h197 : ∀ ot : Nat, ot ≤ 1000 → fX9_tall_197 F now k87 k100 fw deep x1 (nI h) (nI least) (nI r) (nI below) (nI ot) = k100 fw (upd deep (32 * h + r) (nI (min (if h = 1 ∧ r = 0 then 1 else 1 + below + ot) 1000))) x1 (nI h) (nI (min least (min (if h = 1 ∧ r = 0 then 1 else 1 + below + ot) 1000))) (nI (r + 1)) := by
    intro ot hot
    unfold fX9_tall_197 fX9_tall_213
    have e1 : (1 : Int32) + nI below + nI ot = nI (1 + below + ot) := by rw [show (1 : Int32) = nI 1 from rfl, nI_add, nI_add]
    have h1 : (nI h = (1 : Int32)) ↔ h = 1 := nI_eq (b := 1) (by omega) (by omega)
    have h0 : (nI r = (0 : Int32)) ↔ r = 0 := nI_eq (b := 0) (by omega) (by omega)
    rw [e1]
    by_cases c1 : h = 1
    · rw [if_pos (h1.mpr c1)]
      by_cases c0 : r = 0
      · rw [if_pos (h0.mpr c0), if_pos ⟨c1, c0⟩]
        exact h220 1 (by omega)
      · rw [if_neg (fun z => c0 (h0.mp z)), if_neg (fun z => c0 z.2)]
        exact h220 _ (by omega)
    · rw [if_neg (fun z => c1 (h1.mp z)), if_neg (fun z => c1 z.1)]
      exact h220 _ (by omega)
  unfold fX9_tall_176
  by_cases c : r ≤ 1
  · rw [if_pos (show nI r ≤ (1 : Int32) from nI_le (b := 1) c (by omega)), if_pos c]
    exact h197 0 (by omega)
  · obtain ⟨q, rfl⟩ : ∃ q, r = q + 1 := ⟨r - 1, by omega⟩
    rw [if_neg (show ¬ nI (q + 1) ≤ (1 : Int32) from nI_ge (a := 1) (by omega) (by omega)), if_neg c, nI_pred, if_neg (nI_nin (by omega) (by omega)), nI_clamp (by omega), hf q (by omega), Nat.add_sub_cancel]
    exact h197 _ (fw_le q)
theorem tall100 {F : Nat} {τ : Tau} {c : Nat} (hc : c ≤ 60) (hcn : τ 6 1 = nI c) (k87 : K87) (fw : Nat → Int32) (hf : ∀ q, q < 32 → fw q = nI (fwS q)) (x1 h : Nat) (h1 : 1 ≤ h) (hh : h < 20) : ∀ (j r n : Nat) (deep : Nat → Int32), r + j = 30 → j < n → (h = 1 ∨ ∀ q, q < 30 → deep (32 * (h - 1) + q) = nI ((rowS (h - 1)).getD q 0)) → (∀ q, q < r → deep (32 * h + q) = nI ((rowS h).getD q 0)) →
    ∃ deep', fX9_tall_100 F (flat τ) k87 n fw deep (nI x1) (nI h) (nI (leS h r)) (nI r) = k87 fw deep' (nI (if c < leS h 30 then x1 else h)) (nI (h + 1)) ∧ ∀ q, q < 30 → deep' (32 * h + q) = nI ((rowS h).getD q 0)
  | 0, r, n, deep, hr, hn, hp, hd => by
    obtain ⟨n, rfl⟩ : ∃ z, n = z + 1 := ⟨n - 1, by omega⟩
    obtain rfl : r = 30 := by omega
    have h30 : (30 : Int32) ≤ nI 30 := by decide
    have hle := le_le h 30
    refine ⟨deep, ?_, hd⟩
    rw [fX9_tall_100, if_pos h30, mg_many, hcn, Option.bind_some, nI_1]
    by_cases hlt : c < leS h 30
    · rw [if_pos (nI_lt hlt (by omega)), if_pos hlt]
    · rw [if_neg (nI_nlt (by omega) (by omega)), if_neg hlt]
  | j + 1, r, n, deep, hr, hn, hp, hd => by
    obtain ⟨n, rfl⟩ : ∃ z, n = z + 1 := ⟨n - 1, by omega⟩
    have h30 : ¬ (30 : Int32) ≤ nI r := nI_ge (a := r) (b := 30) (by omega) (by omega)
    have hle := le_le h r
    obtain ⟨g, rfl⟩ : ∃ g, h = g + 1 := ⟨h - 1, by omega⟩
    simp only [Nat.add_sub_cancel] at hp
    have hcel : ∀ q, (rowS g).getD q 0 ≤ 1000 := fun q => by
      cases g with
      | zero => simp [rowS]
      | succ g =>
        by_cases hq : q < 30
        · rw [row_get hq]; exact cel_le _ _ _
        · rw [List.getD_eq_getElem?_getD, List.getElem?_eq_none (by simp [rowS]; omega)]; simp
    -- what comes after the value below
    have fin : ∀ below : Nat, below ≤ 1000 → below = (if g + 1 = 1 then 1000 else min (if r ≤ 0 then 1000 else (rowS g).getD (r - 1) 0) (if r ≤ 1 then 1000 else (rowS g).getD (r - 2) 0)) → ∃ deep', fX9_tall_176 F (flat τ) k87 (fun fewest deep x1 x2 x3 x4 => fX9_tall_100 F (flat τ) k87 n fewest deep x1 x2 x3 x4) fw deep (nI x1) (nI (g + 1)) (nI (leS (g + 1) r)) (nI r) (nI below) = k87 fw deep' (nI (if c < leS (g + 1) 30 then x1 else g + 1)) (nI (g + 1 + 1)) ∧ ∀ q, q < 30 → deep' (32 * (g + 1) + q) = nI ((rowS (g + 1)).getD q 0) := by
      intro below hb he
      rw [tall176 k87 _ fw deep (nI x1) hf hh (by omega) hle hb]
      have hc1 : min (if g + 1 = 1 ∧ r = 0 then 1 else 1 + below + (if r ≤ 1 then 0 else fwS (r - 1))) 1000 = celS (g + 1) (rowS g) r := by
        unfold celS
        rw [he]
      rw [hc1]
      have hc2 : min (leS (g + 1) r) (celS (g + 1) (rowS g) r) = leS (g + 1) (r + 1) := rfl
      rw [hc2]
      refine tall100 hc hcn k87 fw hf x1 (g + 1) h1 hh j (r + 1) n _ (by omega) (by omega) ?_ ?_
      · rcases hp with hp | hp
        · exact Or.inl hp
        · refine Or.inr (fun q hq => ?_)
          rw [up_ne (by simp only [Nat.add_sub_cancel]; omega)]
          exact hp q hq
      · intro q hq
        by_cases e : q = r
        · subst e; rw [up_at, row_get (by omega)]
        · rw [up_ne (by omega)]; exact hd q (by omega)
    have i1 : (nI (g + 1) = (1 : Int32)) ↔ g + 1 = 1 := nI_eq (b := 1) (by omega) (by omega)
    rw [fX9_tall_100, if_neg h30]
    by_cases g0 : g + 1 = 1
    · rw [if_pos (i1.mpr g0)]
      exact fin 1000 (by omega) (by rw [if_pos g0])
    · rw [if_neg (fun z => g0 (i1.mp z))]
      have hp' : ∀ q, q < 30 → deep (32 * g + q) = nI ((rowS g).getD q 0) := by
        rcases hp with hp | hp
        · exact absurd hp g0
        · exact hp
      have hgI : (32 : Int32) * (nI (g + 1) - 1) + nI r = nI (32 * g + r) := by rw [nI_pred, show (32 : Int32) = nI 32 from rfl, nI_mul, nI_add]
      have h145 : ∀ y0 : Nat, y0 ≤ 1000 → fX9_tall_145 F (flat τ) k87 (fun fewest deep x1 x2 x3 x4 => fX9_tall_100 F (flat τ) k87 n fewest deep x1 x2 x3 x4) fw deep (nI x1) (nI (g + 1)) (nI (leS (g + 1) r)) (nI r) (nI y0) = fX9_tall_176 F (flat τ) k87 (fun fewest deep x1 x2 x3 x4 => fX9_tall_100 F (flat τ) k87 n fewest deep x1 x2 x3 x4) fw deep (nI x1) (nI (g + 1)) (nI (leS (g + 1) r)) (nI r) (nI (min y0 (if r ≤ 1 then 1000 else (rowS g).getD (r - 2) 0))) := by
        intro y0 hy
        unfold fX9_tall_145 fX9_tall_173
        by_cases c1 : r ≤ 1
        · rw [if_pos (show nI r ≤ (1 : Int32) from nI_le (b := 1) c1 (by omega)), if_pos c1, show (1000 : Int32) = nI 1000 from rfl, lesser_nI F (by omega) (by omega), Option.bind_some]
        · obtain ⟨q, rfl⟩ : ∃ q, r = q + 2 := ⟨r - 2, by omega⟩
          have e2 : nI (32 * g + (q + 2)) - 2 = nI (32 * g + q) := by
            rw [show nI (32 * g + (q + 2)) = nI (32 * g + q) + 2 from (nI_add (32 * g + q) 2).symm, Int32.add_sub_cancel]
          have := hcel q
          rw [if_neg (show ¬ nI (q + 2) ≤ (1 : Int32) from nI_ge (a := 1) (by omega) (by omega)), if_neg c1, hgI, e2, if_neg (nI_nin (by omega) (by omega)), nI_clamp (by omega), hp' q (by omega), Nat.add_sub_cancel, lesser_nI F (by omega) (by omega), Option.bind_some]
      by_cases c0 : r ≤ 0
      · rw [if_pos (show nI r ≤ (0 : Int32) from nI_le (b := 0) c0 (by omega)), show (1000 : Int32) = nI 1000 from rfl, h145 1000 (by omega)]
        refine fin _ (by omega) ?_
        rw [if_neg g0, if_pos c0]
      · obtain ⟨q, rfl⟩ : ∃ q, r = q + 1 := ⟨r - 1, by omega⟩
        have := hcel q
        rw [if_neg (show ¬ nI (q + 1) ≤ (0 : Int32) from nI_ge (a := 0) (by omega) (by omega)), hgI, show 32 * g + (q + 1) = (32 * g + q) + 1 by omega, nI_pred, if_neg (nI_nin (by omega) (by omega)), nI_clamp (by omega), hp' q (by omega), h145 _ (by omega)]
        refine fin _ (by omega) ?_
        rw [if_neg g0, if_neg c0, Nat.add_sub_cancel]
theorem tall87 {F : Nat} (hF : 100 ≤ F) {τ : Tau} {c : Nat} (hc : c ≤ 60) (hcn : τ 6 1 = nI c) (fw : Nat → Int32) (hf : ∀ q, q < 32 → fw q = nI (fwS q)) : ∀ (j h n best : Nat) (deep : Nat → Int32), h + j = 20 → 1 ≤ h → j < n → (h = 1 ∨ ∀ q, q < 30 → deep (32 * (h - 1) + q) = nI ((rowS (h - 1)).getD q 0)) → ∃ deep', fX9_tall_87 F (flat τ) n fw deep (nI best) (nI h) = some (nI (bS c j h best), fw, deep')
  | 0, h, n, best, deep, hj, h1, hn, hp => by
    obtain ⟨n, rfl⟩ : ∃ z, n = z + 1 := ⟨n - 1, by omega⟩
    obtain rfl : h = 20 := by omega
    exact ⟨deep, by rw [fX9_tall_87, if_pos (by decide)]; rfl⟩
  | j + 1, h, n, best, deep, hj, h1, hn, hp => by
    obtain ⟨n, rfl⟩ : ∃ z, n = z + 1 := ⟨n - 1, by omega⟩
    obtain ⟨d1, e1, e2⟩ := tall100 (F := F) hc hcn (fun fewest deep x1 x2 => fX9_tall_87 F (flat τ) n fewest deep x1 x2) fw hf best h h1 (by omega) 30 0 F deep (by omega) (by omega) hp (fun q hq => by omega)
    have e1' : fX9_tall_100 F (flat τ) (fun fewest deep x1 x2 => fX9_tall_87 F (flat τ) n fewest deep x1 x2) F fw deep (nI best) (nI h) 1000 0 = _ := e1
    rw [fX9_tall_87, if_neg (show ¬ (20 : Int32) ≤ nI h from nI_ge (a := h) (b := 20) (by omega) (by omega)), e1']
    exact tall87 hF hc hcn fw hf j (h + 1) n _ d1 (by omega) (by omega) (by omega) (Or.inr (fun q hq => by rw [Nat.add_sub_cancel]; exact e2 q hq))
end TALL
theorem tall_F (F : Nat) : ∀ (n : Nat) (a b c d e : Int32), fX0_tall_9 F n a b c d e = fX0_tall_9 0 n a b c d e
  | 0, _, _, _, _, _ => rfl
  | n + 1, a, b, c, d, e => by
    rw [fX0_tall_9, fX0_tall_9]
    have : fX0_fewestOfRank F d = fX0_fewestOfRank 0 d := rfl
    rw [this]
    simp only [tall_F F n]
theorem tall_mono (F : Nat) : ∀ (n m : Nat) (a b c d e v : Int32), fX0_tall_9 F n a b c d e = some v → fX0_tall_9 F (n + m) a b c d e = some v
  | 0, _, _, _, _, _, _, _, h => by cases h
  | n + 1, m, a, b, c, d, e, v, h => by
    rw [fX0_tall_9] at h
    rw [show n + 1 + m = (n + m) + 1 by omega, fX0_tall_9]
    by_cases h1 : (60 : Int32) ≤ b
    · rw [if_pos h1] at h ⊢; exact h
    · rw [if_neg h1] at h ⊢
      by_cases h2 : a < c
      · rw [if_pos h2] at h ⊢; exact h
      · rw [if_neg h2] at h ⊢
        cases hq : fX0_fewestOfRank F d with
        | none => rw [hq] at h; cases h
        | some q =>
          rw [hq, Option.bind_some] at h
          rw [Option.bind_some]
          exact tall_mono F n m _ _ _ _ _ v h
theorem tall_all : ∀ c : Fin 61, fX0_tall_9 0 30 (nI c.val) 0 1 0 1 = some (nI (bS c.val 19 1 0)) := by decide +kernel
theorem tall_ok {F : Nat} (hF : 100 ≤ F) {τ : Tau} {c : Nat} (hc : c ≤ 60) (hcn : τ 6 1 = nI c) (fw deep : Nat → Int32) : ∃ r fw' deep', fX0_tall F (τ 6 1) = some r ∧ fX9_tall F (flat τ) fw deep = some (r, fw', deep') := by
  obtain ⟨fw1, e1, e2⟩ := few_ok (F := F) (now := flat τ) deep 29 3 F (upd (upd (upd fw 0 0) 1 1) 2 2) (by omega) (by omega) (by omega) (fun q hq => by
    rcases (by omega : q = 0 ∨ q = 1 ∨ q = 2) with rfl | rfl | rfl <;> rfl)
  obtain ⟨d1, f1⟩ := tall87 (F := F) hF hc hcn fw1 e2 19 1 F 0 deep (by omega) (by omega) (by omega) (Or.inl rfl)
  refine ⟨nI (bS c 19 1 0), fw1, d1, ?_, ?_⟩
  · unfold fX0_tall
    rw [hcn]
    have := tall_mono F 30 (F - 30) _ _ _ _ _ _ ((tall_F F 30 _ _ _ _ _).trans (tall_all ⟨c, by omega⟩))
    rw [show 30 + (F - 30) = F by omega] at this
    exact this
  · unfold fX9_tall
    rw [if_neg (by decide), if_neg (by decide), if_neg (by decide)]
    exact e1.trans f1
