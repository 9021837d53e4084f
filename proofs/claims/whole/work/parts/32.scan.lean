/-! ===== what is counted and summed over the slots ===== -/
section SCAN
variable {F : Nat} {τ : Tau}
theorem scan_less (v : Int32) : ∀ (j i n m : Nat) (acc : Int32), i + j = 60 → j < n → j < m → fX6_howManyLess_4 F τ n v acc (nI i) = some (acc + nI ((List.range' i j).countP (fun s => decide (τ 0 s ≠ -1 ∧ τ 0 s < v)))) ∧ fX9_lessThan_4 F (flat τ) m v acc (nI i) = some (acc + nI ((List.range' i j).countP (fun s => decide (τ 0 s ≠ -1 ∧ τ 0 s < v))))
  | 0, i, n, m, acc, hi, hn, hm => by
    obtain ⟨n, rfl⟩ : ∃ z, n = z + 1 := ⟨n - 1, by omega⟩
    obtain ⟨m, rfl⟩ : ∃ z, m = z + 1 := ⟨m - 1, by omega⟩
    have h60 : (60 : Int32) ≤ nI i := by rw [show i = 60 by omega]; decide
    rw [fX6_howManyLess_4, fX9_lessThan_4, if_pos h60, if_pos h60]
    simp [nI_0]
  | j + 1, i, n, m, acc, hi, hn, hm => by
    obtain ⟨n, rfl⟩ : ∃ z, n = z + 1 := ⟨n - 1, by omega⟩
    obtain ⟨m, rfl⟩ : ∃ z, m = z + 1 := ⟨m - 1, by omega⟩
    have i60 : i < 60 := by omega
    rw [fX6_howManyLess_4, fX9_lessThan_4, if_neg (n60le i60), if_neg (n60le i60), cg_key i60, mg_key i60, Option.bind_some, Option.bind_some, Option.bind_some, Option.bind_some]
    unfold fX9_lessThan_35
    rw [List.range'_succ, List.countP_cons]
    by_cases h1 : τ 0 i = -1
    · rw [if_pos h1, if_pos h1, nI_1, Int32.add_zero]
      have := scan_less v j (i + 1) n m acc (by omega) (by omega) (by omega)
      simpa [h1] using this
    · rw [if_neg h1, if_neg h1]
      by_cases h2 : v ≤ τ 0 i
      · rw [if_pos h2, if_pos h2, nI_1, Int32.add_zero]
        have h3 : ¬ τ 0 i < v := Int32.not_lt.mpr h2
        have := scan_less v j (i + 1) n m acc (by omega) (by omega) (by omega)
        simpa [h1, h3] using this
      · rw [if_neg h2, if_neg h2, nI_1]
        have h3 : τ 0 i < v := i32_not_le.mp h2
        have := scan_less v j (i + 1) n m (acc + 1) (by omega) (by omega) (by omega)
        have e : ∀ c : Nat, acc + 1 + nI c = acc + nI (c + 1) := fun c => by rw [Int32.add_assoc, Int32.add_comm 1, nI_1]
        rw [e] at this
        simpa [h1, h3] using this
theorem cg_isFrom (a b : Int32) {i : Nat} (h : i < 60) : fX6_isFrom F τ (nI i) a b = some (if τ 0 i ≠ -1 ∧ a ≤ τ 0 i ∧ τ 0 i ≤ b then 1 else 0) := by
  unfold fX6_isFrom
  rw [cg_key h, Option.bind_some]
  by_cases h1 : τ 0 i = -1
  · rw [if_pos h1, if_neg (fun z => z.1 h1)]
  · rw [if_neg h1]
    by_cases h2 : τ 0 i < a
    · rw [if_pos h2, if_neg (fun z => absurd h2 (Int32.not_lt.mpr z.2.1))]
    · rw [if_neg h2]
      by_cases h3 : b < τ 0 i
      · rw [if_pos h3, if_neg (fun z => absurd h3 (Int32.not_lt.mpr z.2.2))]
      · rw [if_neg h3, if_pos ⟨h1, Int32.not_lt.mp h2, Int32.not_lt.mp h3⟩]
theorem scan_from (a b : Int32) : ∀ (j i n : Nat) (acc : Int32), i + j = 60 → j < n → fX6_howManyFrom_5 F τ n a b acc (nI i) = some (acc + nI ((List.range' i j).countP (fun s => decide (τ 0 s ≠ -1 ∧ a ≤ τ 0 s ∧ τ 0 s ≤ b))))
  | 0, i, n, acc, hi, hn => by
    obtain ⟨n, rfl⟩ : ∃ z, n = z + 1 := ⟨n - 1, by omega⟩
    have h60 : (60 : Int32) ≤ nI i := by rw [show i = 60 by omega]; decide
    rw [fX6_howManyFrom_5, if_pos h60]
    simp [nI_0]
  | j + 1, i, n, acc, hi, hn => by
    obtain ⟨n, rfl⟩ : ∃ z, n = z + 1 := ⟨n - 1, by omega⟩
    have i60 : i < 60 := by omega
    rw [fX6_howManyFrom_5, if_neg (n60le i60), cg_isFrom a b i60, Option.bind_some, List.range'_succ, List.countP_cons]
    by_cases h1 : τ 0 i ≠ -1 ∧ a ≤ τ 0 i ∧ τ 0 i ≤ b
    · rw [if_pos h1, if_neg (by decide), nI_1, scan_from a b j (i + 1) n (acc + 1) (by omega) (by omega)]
      have e : ∀ c : Nat, acc + 1 + nI c = acc + nI (c + 1) := fun c => by rw [Int32.add_assoc, Int32.add_comm 1, nI_1]
      rw [e]
      simp [h1]
    · rw [if_neg h1, if_pos rfl, nI_1, scan_from a b j (i + 1) n acc (by omega) (by omega)]
      simp [h1]
/-- the model's count and sum of worth between -/
theorem scan_between (a b : Int32) (wo : Bool) : ∀ (j i n m : Nat) (acc : Int32), i + j = 60 → j < n → j < m → ∃ r, (if wo then fX6_worthFrom_5 F τ n a b acc (nI i) else fX6_howManyFrom_5 F τ n a b acc (nI i)) = some r ∧ fX9_sumBetween_6 F (flat τ) m a b (b2i wo) acc (nI i) = some r
  | 0, i, n, m, acc, hi, hn, hm => by
    obtain ⟨n, rfl⟩ : ∃ z, n = z + 1 := ⟨n - 1, by omega⟩
    obtain ⟨m, rfl⟩ : ∃ z, m = z + 1 := ⟨m - 1, by omega⟩
    have h60 : (60 : Int32) ≤ nI i := by rw [show i = 60 by omega]; decide
    refine ⟨acc, ?_, ?_⟩
    · cases wo
      · rw [if_neg (by decide), fX6_howManyFrom_5, if_pos h60]
      · rw [if_pos rfl, fX6_worthFrom_5, if_pos h60]
    · rw [fX9_sumBetween_6, if_pos h60]
  | j + 1, i, n, m, acc, hi, hn, hm => by
    obtain ⟨n, rfl⟩ : ∃ z, n = z + 1 := ⟨n - 1, by omega⟩
    obtain ⟨m, rfl⟩ : ∃ z, m = z + 1 := ⟨m - 1, by omega⟩
    have i60 : i < 60 := by omega
    have hM : fX9_sumBetween_6 F (flat τ) (m + 1) a b (b2i wo) acc (nI i) = if τ 0 i ≠ -1 ∧ a ≤ τ 0 i ∧ τ 0 i ≤ b then fX9_sumBetween_6 F (flat τ) m a b (b2i wo) (acc + (if wo then τ 1 i else 1)) (nI (i + 1)) else fX9_sumBetween_6 F (flat τ) m a b (b2i wo) acc (nI (i + 1)) := by
      have h50 : fX9_sumBetween_50 F (flat τ) (fun x1 x2 x3 x4 x5 => fX9_sumBetween_6 F (flat τ) m x1 x2 x3 x4 x5) a b (b2i wo) acc (nI i) = fX9_sumBetween_6 F (flat τ) m a b (b2i wo) acc (nI (i + 1)) := by
        unfold fX9_sumBetween_50 fX9_sumBetween_51
        rw [if_pos rfl, Int32.add_zero, nI_1]
      rw [fX9_sumBetween_6, if_neg (n60le i60), mg_key i60, Option.bind_some, Option.bind_some, Option.bind_some, h50]
      by_cases h1 : τ 0 i = -1
      · rw [if_pos h1, if_neg (fun z => z.1 h1)]
      · rw [if_neg h1]
        by_cases h2 : τ 0 i < a
        · rw [if_pos h2, if_neg (fun z => absurd h2 (Int32.not_lt.mpr z.2.1))]
        · rw [if_neg h2]
          by_cases h3 : b < τ 0 i
          · rw [if_pos h3, if_neg (fun z => absurd h3 (Int32.not_lt.mpr z.2.2))]
          · rw [if_neg h3, if_pos ⟨h1, Int32.not_lt.mp h2, Int32.not_lt.mp h3⟩]
            unfold fX9_sumBetween_51
            rw [if_neg (by decide)]
            cases wo
            · rw [if_pos (show b2i false = 0 from rfl), nI_1]; rfl
            · rw [if_neg (show ¬ b2i true = 0 by decide), mg_worth i60, Option.bind_some, nI_1]; rfl
    have hC : (if wo then fX6_worthFrom_5 F τ (n + 1) a b acc (nI i) else fX6_howManyFrom_5 F τ (n + 1) a b acc (nI i)) = if τ 0 i ≠ -1 ∧ a ≤ τ 0 i ∧ τ 0 i ≤ b then (if wo then fX6_worthFrom_5 F τ n a b (acc + (if wo then τ 1 i else 1)) (nI (i + 1)) else fX6_howManyFrom_5 F τ n a b (acc + (if wo then τ 1 i else 1)) (nI (i + 1))) else (if wo then fX6_worthFrom_5 F τ n a b acc (nI (i + 1)) else fX6_howManyFrom_5 F τ n a b acc (nI (i + 1))) := by
      by_cases h1 : τ 0 i ≠ -1 ∧ a ≤ τ 0 i ∧ τ 0 i ≤ b
      · rw [if_pos h1]
        cases wo
        · simp only [Bool.false_eq_true, if_false]
          rw [fX6_howManyFrom_5, if_neg (n60le i60), cg_isFrom a b i60, Option.bind_some, if_pos h1, if_neg (by decide), nI_1]
        · simp only [if_true]
          rw [fX6_worthFrom_5, if_neg (n60le i60), cg_isFrom a b i60, Option.bind_some, if_pos h1, if_neg (by decide), cg_worth i60, Option.bind_some, nI_1]
      · rw [if_neg h1]
        cases wo
        · simp only [Bool.false_eq_true, if_false]
          rw [fX6_howManyFrom_5, if_neg (n60le i60), cg_isFrom a b i60, Option.bind_some, if_neg h1, if_pos rfl, nI_1]
        · simp only [if_true]
          rw [fX6_worthFrom_5, if_neg (n60le i60), cg_isFrom a b i60, Option.bind_some, if_neg h1, if_pos rfl, nI_1]
    rw [hM, hC]
    by_cases h1 : τ 0 i ≠ -1 ∧ a ≤ τ 0 i ∧ τ 0 i ≤ b
    · rw [if_pos h1, if_pos h1]
      exact scan_between a b wo j (i + 1) n m _ (by omega) (by omega) (by omega)
    · rw [if_neg h1, if_neg h1]
      exact scan_between a b wo j (i + 1) n m _ (by omega) (by omega) (by omega)
/-- the sums of all worths, of all ranks -/
theorem scan_worth (hk : ∀ s, s < 60 → τ 0 s = -1 ∨ 0 ≤ τ 0 s ∧ τ 0 s ≤ 99999) : ∀ (j i n m : Nat) (acc : Int32), i + j = 60 → j < n → j < m → ∃ r, fX6_worthFrom_5 F τ n 0 99999 acc (nI i) = some r ∧ fX9_sumOf_4 F (flat τ) m 1 acc (nI i) = some r
  | 0, i, n, m, acc, hi, hn, hm => by
    obtain ⟨n, rfl⟩ : ∃ z, n = z + 1 := ⟨n - 1, by omega⟩
    obtain ⟨m, rfl⟩ : ∃ z, m = z + 1 := ⟨m - 1, by omega⟩
    have h60 : (60 : Int32) ≤ nI i := by rw [show i = 60 by omega]; decide
    refine ⟨acc, ?_, ?_⟩
    · rw [fX6_worthFrom_5, if_pos h60]
    · rw [fX9_sumOf_4, if_pos h60]
  | j + 1, i, n, m, acc, hi, hn, hm => by
    obtain ⟨n, rfl⟩ : ∃ z, n = z + 1 := ⟨n - 1, by omega⟩
    obtain ⟨m, rfl⟩ : ∃ z, m = z + 1 := ⟨m - 1, by omega⟩
    have i60 : i < 60 := by omega
    rw [fX6_worthFrom_5, fX9_sumOf_4, if_neg (n60le i60), if_neg (n60le i60), cg_isFrom 0 99999 i60, mg_key i60, Option.bind_some, Option.bind_some]
    by_cases h1 : τ 0 i = -1
    · have hc : ¬ (τ 0 i ≠ -1 ∧ 0 ≤ τ 0 i ∧ τ 0 i ≤ 99999) := fun z => z.1 h1
      rw [if_neg hc, if_pos rfl, if_pos h1, Int32.add_zero, nI_1]
      exact scan_worth hk j (i + 1) n m acc (by omega) (by omega) (by omega)
    · have h2 := (hk i i60).resolve_left h1
      have hc : τ 0 i ≠ -1 ∧ 0 ≤ τ 0 i ∧ τ 0 i ≤ 99999 := ⟨h1, h2.1, h2.2⟩
      rw [if_pos hc, if_neg (show ¬ (1 : Int32) = 0 by decide), if_neg h1, cg_worth i60, mg_worth i60, Option.bind_some, Option.bind_some, nI_1]
      exact scan_worth hk j (i + 1) n m _ (by omega) (by omega) (by omega)
theorem scan_ranks : ∀ (j i n m : Nat) (acc : Int32), i + j = 60 → j < n → j < m → ∃ r, fX6_ranksTogether_4 F τ n acc (nI i) = some r ∧ fX9_sumOf_4 F (flat τ) m 2 acc (nI i) = some r
  | 0, i, n, m, acc, hi, hn, hm => by
    obtain ⟨n, rfl⟩ : ∃ z, n = z + 1 := ⟨n - 1, by omega⟩
    obtain ⟨m, rfl⟩ : ∃ z, m = z + 1 := ⟨m - 1, by omega⟩
    have h60 : (60 : Int32) ≤ nI i := by rw [show i = 60 by omega]; decide
    refine ⟨acc, ?_, ?_⟩
    · rw [fX6_ranksTogether_4, if_pos h60]
    · rw [fX9_sumOf_4, if_pos h60]
  | j + 1, i, n, m, acc, hi, hn, hm => by
    obtain ⟨n, rfl⟩ : ∃ z, n = z + 1 := ⟨n - 1, by omega⟩
    obtain ⟨m, rfl⟩ : ∃ z, m = z + 1 := ⟨m - 1, by omega⟩
    have i60 : i < 60 := by omega
    rw [fX6_ranksTogether_4, fX9_sumOf_4, if_neg (n60le i60), if_neg (n60le i60), cg_key i60, mg_key i60, Option.bind_some, Option.bind_some]
    by_cases h1 : τ 0 i = -1
    · rw [if_pos h1, if_pos h1, Int32.add_zero, nI_1]
      exact scan_ranks j (i + 1) n m acc (by omega) (by omega) (by omega)
    · rw [if_neg h1, if_neg h1, cg_rank i60, mg_rk i60, Option.bind_some, Option.bind_some, nI_1]
      exact scan_ranks j (i + 1) n m _ (by omega) (by omega) (by omega)
/-- how many steps are two -/
theorem scan_twos (hp : ∀ s, s < 60 → τ 0 s ≠ -1 → nI s ≠ τ 6 0 → ∃ q, q < 60 ∧ τ 5 s = nI q) : ∀ (j i n m : Nat) (acc : Int32), i + j = 60 → j < n → j < m → ∃ r, fX6_longSteps_4 F τ n acc (nI i) = some r ∧ fX9_twos_4 F (flat τ) m acc (nI i) = some r
  | 0, i, n, m, acc, hi, hn, hm => by
    obtain ⟨n, rfl⟩ : ∃ z, n = z + 1 := ⟨n - 1, by omega⟩
    obtain ⟨m, rfl⟩ : ∃ z, m = z + 1 := ⟨m - 1, by omega⟩
    have h60 : (60 : Int32) ≤ nI i := by rw [show i = 60 by omega]; decide
    refine ⟨acc, ?_, ?_⟩
    · rw [fX6_longSteps_4, if_pos h60]
    · rw [fX9_twos_4, if_pos h60]
  | j + 1, i, n, m, acc, hi, hn, hm => by
    obtain ⟨n, rfl⟩ : ∃ z, n = z + 1 := ⟨n - 1, by omega⟩
    obtain ⟨m, rfl⟩ : ∃ z, m = z + 1 := ⟨m - 1, by omega⟩
    have i60 : i < 60 := by omega
    have h32 : fX9_twos_32 F (flat τ) (fun x1 x2 => fX9_twos_4 F (flat τ) m x1 x2) acc (nI i) = fX9_twos_4 F (flat τ) m acc (nI (i + 1)) := by
      unfold fX9_twos_32 fX9_twos_33 fX9_twos_58
      rw [if_pos rfl, Int32.add_zero, nI_1]
    rw [fX6_longSteps_4, fX9_twos_4, if_neg (n60le i60), if_neg (n60le i60), cg_key i60, mg_key i60, Option.bind_some, Option.bind_some, mg_top, Option.bind_some, h32]
    by_cases h1 : τ 0 i = -1
    · rw [if_pos h1, if_pos h1, nI_1]
      exact scan_twos hp j (i + 1) n m acc (by omega) (by omega) (by omega)
    · rw [if_neg h1, if_neg h1]
      by_cases h2 : nI i = τ 6 0
      · rw [if_pos h2, if_pos h2, nI_1]
        exact scan_twos hp j (i + 1) n m acc (by omega) (by omega) (by omega)
      · rw [if_neg h2, if_neg h2]
        obtain ⟨q, q60, hq⟩ := hp i i60 h1 h2
        unfold fX9_twos_33 fX9_twos_58
        rw [if_neg (by decide), cg_parent i60, mg_parent i60, hq, Option.bind_some, Option.bind_some, cg_step (cg_rank q60) (cg_rank i60), mg_step q60 (mg_rank i60), Option.bind_some, Option.bind_some]
        by_cases h3 : τ 2 q - τ 2 i = 2
        · rw [if_pos h3, if_pos h3, nI_1]
          exact scan_twos hp j (i + 1) n m _ (by omega) (by omega) (by omega)
        · rw [if_neg h3, if_neg h3, Int32.add_zero, nI_1]
          exact scan_twos hp j (i + 1) n m acc (by omega) (by omega) (by omega)
end SCAN
/-- the least above v, the greatest below it; none -/
def minS (P : Int32 → Prop) (v r : Int32) : Prop := (r = -1 ∧ ∀ k, P k → ¬ v < k) ∨ (P r ∧ v < r ∧ ∀ k, P k → v < k → r ≤ k)
def maxS (P : Int32 → Prop) (v r : Int32) : Prop := (r = -1 ∧ ∀ k, P k → ¬ k < v) ∨ (P r ∧ r < v ∧ ∀ k, P k → k < v → k ≤ r)
theorem minS_uniq {P : Int32 → Prop} {v r r' : Int32} (h : minS P v r) (h' : minS P v r') : r = r' := by
  rcases h with ⟨h1, h2⟩ | ⟨h1, h2, h3⟩ <;> rcases h' with ⟨g1, g2⟩ | ⟨g1, g2, g3⟩
  · rw [h1, g1]
  · exact absurd g2 (h2 r' g1)
  · exact absurd h2 (g2 r h1)
  · exact Int32.le_antisymm (h3 r' g1 g2) (g3 r h1 h2)
theorem maxS_uniq {P : Int32 → Prop} {v r r' : Int32} (h : maxS P v r) (h' : maxS P v r') : r = r' := by
  rcases h with ⟨h1, h2⟩ | ⟨h1, h2, h3⟩ <;> rcases h' with ⟨g1, g2⟩ | ⟨g1, g2, g3⟩
  · rw [h1, g1]
  · exact absurd g2 (h2 r' g1)
  · exact absurd h2 (g2 r h1)
  · exact Int32.le_antisymm (g3 r h1 h2) (h3 r' g1 g2)
theorem minS_congr {P Q : Int32 → Prop} (e : ∀ k, P k ↔ Q k) {v r : Int32} (h : minS P v r) : minS Q v r := by
  rcases h with ⟨h1, h2⟩ | ⟨h1, h2, h3⟩
  · exact Or.inl ⟨h1, fun k hk => h2 k ((e k).mpr hk)⟩
  · exact Or.inr ⟨(e r).mp h1, h2, fun k hk => h3 k ((e k).mpr hk)⟩
theorem maxS_congr {P Q : Int32 → Prop} (e : ∀ k, P k ↔ Q k) {v r : Int32} (h : maxS P v r) : maxS Q v r := by
  rcases h with ⟨h1, h2⟩ | ⟨h1, h2, h3⟩
  · exact Or.inl ⟨h1, fun k hk => h2 k ((e k).mpr hk)⟩
  · exact Or.inr ⟨(e r).mp h1, h2, fun k hk => h3 k ((e k).mpr hk)⟩
/-- keys in the slots up to i -/
def upK (τ : Tau) (i : Nat) (k : Int32) : Prop := k ≠ -1 ∧ ∃ s, s < i ∧ τ 0 s = k
theorem upK_succ {τ : Tau} {i : Nat} {k : Int32} : upK τ (i + 1) k ↔ (upK τ i k ∨ (k ≠ -1 ∧ τ 0 i = k)) := by
  constructor
  · rintro ⟨h1, s, h2, h3⟩
    by_cases e : s = i
    · subst e; exact Or.inr ⟨h1, h3⟩
    · exact Or.inl ⟨h1, s, by omega, h3⟩
  · rintro (⟨h1, s, h2, h3⟩ | ⟨h1, h2⟩)
    · exact ⟨h1, s, by omega, h3⟩
    · exact ⟨h1, i, by omega, h2⟩
theorem i32_le_total (a b : Int32) : a ≤ b ∨ b ≤ a := by
  rw [Int32.le_iff_toInt_le, Int32.le_iff_toInt_le]; omega
theorem bes_up {F : Nat} {τ : Tau} (v : Int32) : ∀ (j i n : Nat) (best : Int32), i + j = 60 → j < n → minS (upK τ i) v best → ∃ r, fX9_besideOf_5 F (flat τ) n v 0 best (nI i) = some r ∧ minS (upK τ 60) v r
  | 0, i, n, best, hi, hn, hb => by
    obtain ⟨n, rfl⟩ : ∃ z, n = z + 1 := ⟨n - 1, by omega⟩
    have hi' : i = 60 := by omega
    subst hi'
    exact ⟨best, by rw [fX9_besideOf_5, if_pos (by decide)], hb⟩
  | j + 1, i, n, best, hi, hn, hb => by
    obtain ⟨n, rfl⟩ : ∃ z, n = z + 1 := ⟨n - 1, by omega⟩
    have i60 : i < 60 := by omega
    have h50 : ∀ q, fX9_besideOf_50 F (flat τ) (fun x1 x2 x3 x4 => fX9_besideOf_5 F (flat τ) n x1 x2 x3 x4) v 0 best (nI i) q = fX9_besideOf_5 F (flat τ) n v 0 best (nI (i + 1)) := by
      intro q
      unfold fX9_besideOf_50 fX9_besideOf_51 fX9_besideOf_86 fX9_besideOf_87
      rw [if_pos rfl, if_pos rfl, nI_1]
    have skip : (∀ k, k ≠ -1 → τ 0 i = k → ¬ v < k ∨ (best ≠ -1 ∧ best ≤ k)) → minS (upK τ (i + 1)) v best := by
      intro hsk
      rcases hb with ⟨h1, h2⟩ | ⟨h1, h2, h3⟩
      · refine Or.inl ⟨h1, fun k hk => ?_⟩
        rcases upK_succ.mp hk with hk | ⟨hk1, hk2⟩
        · exact h2 k hk
        · rcases hsk k hk1 hk2 with h | h
          · exact h
          · exact absurd h1 h.1
      · refine Or.inr ⟨upK_succ.mpr (Or.inl h1), h2, fun k hk hv => ?_⟩
        rcases upK_succ.mp hk with hk | ⟨hk1, hk2⟩
        · exact h3 k hk hv
        · rcases hsk k hk1 hk2 with h | h
          · exact absurd hv h
          · exact h.2
    rw [fX9_besideOf_5, if_neg (n60le i60), mg_key i60, Option.bind_some, h50]
    by_cases h1 : τ 0 i = -1
    · rw [if_pos h1]
      exact bes_up v j (i + 1) n best (by omega) (by omega) (skip (fun k hk e => absurd (e.symm.trans h1) hk))
    · rw [if_neg h1, if_pos rfl]
      by_cases h2 : τ 0 i ≤ v
      · rw [if_pos h2]
        exact bes_up v j (i + 1) n best (by omega) (by omega) (skip (fun k hk e => Or.inl (by rw [← e]; exact Int32.not_lt.mpr h2)))
      · rw [if_neg h2]
        have hlt := i32_not_le.mp h2
        have take : fX9_besideOf_82 F (flat τ) (fun x1 x2 x3 x4 => fX9_besideOf_5 F (flat τ) n x1 x2 x3 x4) v 0 best (nI i) (τ 0 i) = fX9_besideOf_5 F (flat τ) n v 0 (τ 0 i) (nI (i + 1)) := by
          unfold fX9_besideOf_82 fX9_besideOf_87
          rw [if_neg (by decide), nI_1]
        have htk : (best = -1 ∨ τ 0 i ≤ best) → minS (upK τ (i + 1)) v (τ 0 i) := by
          intro hle
          refine Or.inr ⟨upK_succ.mpr (Or.inr ⟨h1, rfl⟩), hlt, fun k hk hv => ?_⟩
          rcases upK_succ.mp hk with hk | ⟨hk1, hk2⟩
          · rcases hb with ⟨b1, b2⟩ | ⟨b1, b2, b3⟩
            · exact absurd hv (b2 k hk)
            · rcases hle with e | e
              · exact absurd e b1.1
              · exact Int32.le_trans e (b3 k hk hv)
          · rw [hk2]; exact Int32.le_refl _
        unfold fX9_besideOf_46 fX9_besideOf_51
        rw [if_neg (by decide), take]
        by_cases h3 : best = -1
        · rw [if_pos h3]
          exact bes_up v j (i + 1) n _ (by omega) (by omega) (htk (Or.inl h3))
        · rw [if_neg h3, if_pos rfl]
          by_cases h4 : best ≤ τ 0 i
          · rw [if_pos h4]
            unfold fX9_besideOf_86 fX9_besideOf_87
            rw [if_pos rfl, nI_1]
            exact bes_up v j (i + 1) n best (by omega) (by omega) (skip (fun k hk e => Or.inr ⟨h3, by rw [← e]; exact h4⟩))
          · rw [if_neg h4]
            exact bes_up v j (i + 1) n _ (by omega) (by omega) (htk (Or.inr (Int32.le_of_lt (i32_not_le.mp h4))))
theorem bes_dn {F : Nat} {τ : Tau} (v : Int32) : ∀ (j i n : Nat) (best : Int32), i + j = 60 → j < n → maxS (upK τ i) v best → ∃ r, fX9_besideOf_5 F (flat τ) n v 1 best (nI i) = some r ∧ maxS (upK τ 60) v r
  | 0, i, n, best, hi, hn, hb => by
    obtain ⟨n, rfl⟩ : ∃ z, n = z + 1 := ⟨n - 1, by omega⟩
    have hi' : i = 60 := by omega
    subst hi'
    exact ⟨best, by rw [fX9_besideOf_5, if_pos (by decide)], hb⟩
  | j + 1, i, n, best, hi, hn, hb => by
    obtain ⟨n, rfl⟩ : ∃ z, n = z + 1 := ⟨n - 1, by omega⟩
    have i60 : i < 60 := by omega
    have h50 : ∀ q, fX9_besideOf_50 F (flat τ) (fun x1 x2 x3 x4 => fX9_besideOf_5 F (flat τ) n x1 x2 x3 x4) v 1 best (nI i) q = fX9_besideOf_5 F (flat τ) n v 1 best (nI (i + 1)) := by
      intro q
      unfold fX9_besideOf_50 fX9_besideOf_51 fX9_besideOf_86 fX9_besideOf_87
      rw [if_pos rfl, if_pos rfl, nI_1]
    have skip : (∀ k, k ≠ -1 → τ 0 i = k → ¬ k < v ∨ (best ≠ -1 ∧ k ≤ best)) → maxS (upK τ (i + 1)) v best := by
      intro hsk
      rcases hb with ⟨h1, h2⟩ | ⟨h1, h2, h3⟩
      · refine Or.inl ⟨h1, fun k hk => ?_⟩
        rcases upK_succ.mp hk with hk | ⟨hk1, hk2⟩
        · exact h2 k hk
        · rcases hsk k hk1 hk2 with h | h
          · exact h
          · exact absurd h1 h.1
      · refine Or.inr ⟨upK_succ.mpr (Or.inl h1), h2, fun k hk hv => ?_⟩
        rcases upK_succ.mp hk with hk | ⟨hk1, hk2⟩
        · exact h3 k hk hv
        · rcases hsk k hk1 hk2 with h | h
          · exact absurd hv h
          · exact h.2
    rw [fX9_besideOf_5, if_neg (n60le i60), mg_key i60, Option.bind_some, h50]
    by_cases h1 : τ 0 i = -1
    · rw [if_pos h1]
      exact bes_dn v j (i + 1) n best (by omega) (by omega) (skip (fun k hk e => absurd (e.symm.trans h1) hk))
    · rw [if_neg h1, if_neg (by decide)]
      by_cases h2 : v ≤ τ 0 i
      · rw [if_pos h2]
        exact bes_dn v j (i + 1) n best (by omega) (by omega) (skip (fun k hk e => Or.inl (by rw [← e]; exact Int32.not_lt.mpr h2)))
      · rw [if_neg h2]
        have hlt := i32_not_le.mp h2
        have take : fX9_besideOf_82 F (flat τ) (fun x1 x2 x3 x4 => fX9_besideOf_5 F (flat τ) n x1 x2 x3 x4) v 1 best (nI i) (τ 0 i) = fX9_besideOf_5 F (flat τ) n v 1 (τ 0 i) (nI (i + 1)) := by
          unfold fX9_besideOf_82 fX9_besideOf_87
          rw [if_neg (by decide), nI_1]
        have htk : (best = -1 ∨ best ≤ τ 0 i) → maxS (upK τ (i + 1)) v (τ 0 i) := by
          intro hle
          refine Or.inr ⟨upK_succ.mpr (Or.inr ⟨h1, rfl⟩), hlt, fun k hk hv => ?_⟩
          rcases upK_succ.mp hk with hk | ⟨hk1, hk2⟩
          · rcases hb with ⟨b1, b2⟩ | ⟨b1, b2, b3⟩
            · exact absurd hv (b2 k hk)
            · rcases hle with e | e
              · exact absurd e b1.1
              · exact Int32.le_trans (b3 k hk hv) e
          · rw [hk2]; exact Int32.le_refl _
        unfold fX9_besideOf_46 fX9_besideOf_51
        rw [if_neg (by decide), take]
        by_cases h3 : best = -1
        · rw [if_pos h3]
          exact bes_dn v j (i + 1) n _ (by omega) (by omega) (htk (Or.inl h3))
        · rw [if_neg h3, if_neg (by decide)]
          by_cases h4 : τ 0 i ≤ best
          · rw [if_pos h4]
            unfold fX9_besideOf_86 fX9_besideOf_87
            rw [if_pos rfl, nI_1]
            exact bes_dn v j (i + 1) n best (by omega) (by omega) (skip (fun k hk e => Or.inr ⟨h3, by rw [← e]; exact h4⟩))
          · rw [if_neg h4]
            exact bes_dn v j (i + 1) n _ (by omega) (by omega) (htk (Or.inr (Int32.le_of_lt (i32_not_le.mp h4))))
theorem upK_tks {τ : Tau} {t : Gt} (hI : Inv τ t) (k : Int32) : upK τ 60 k ↔ k ∈ tks t := by
  obtain ⟨i1, i2, i3, i4, i5, i6, i7, i8, i9, i10⟩ := hI
  constructor
  · rintro ⟨h1, s, h2, h3⟩
    apply Classical.byContradiction
    intro hn
    by_cases hs : s ∈ tsl t
    · exact hn (h3 ▸ key_mem i1 hs)
    · exact h1 (h3.symm.trans (i7 s h2 hs))
  · intro h
    obtain ⟨s, h1, h2⟩ := mem_key i1 h
    refine ⟨fun e => ?_, s, rep_lt i1 s h1, h2⟩
    have := (i6 k h).1
    rw [e] at this
    exact absurd this (by decide)
theorem bes_up_ok {F : Nat} (hF : 100 ≤ F) {τ : Tau} {t : Gt} (hI : Inv τ t) (v : Int32) : ∃ r, fX9_besideOf F (flat τ) v 0 = some r ∧ minS (· ∈ tks t) v r := by
  obtain ⟨r, h1, h2⟩ := bes_up (F := F) (τ := τ) v 60 0 F (-1) (by omega) (by omega) (Or.inl ⟨rfl, fun k hk => by obtain ⟨_, s, h, _⟩ := hk; omega⟩)
  exact ⟨r, h1, minS_congr (upK_tks hI) h2⟩
theorem bes_dn_ok {F : Nat} (hF : 100 ≤ F) {τ : Tau} {t : Gt} (hI : Inv τ t) (v : Int32) : ∃ r, fX9_besideOf F (flat τ) v 1 = some r ∧ maxS (· ∈ tks t) v r := by
  obtain ⟨r, h1, h2⟩ := bes_dn (F := F) (τ := τ) v 60 0 F (-1) (by omega) (by omega) (Or.inl ⟨rfl, fun k hk => by obtain ⟨_, s, h, _⟩ := hk; omega⟩)
  exact ⟨r, h1, maxS_congr (upK_tks hI) h2⟩
