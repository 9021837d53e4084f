/-! ===== asked: at, less, beside, between, way ===== -/
theorem l_lt (x y : Int32) : (x.toInt64 < y.toInt64) ↔ x < y := by
  rw [Int64.lt_iff_toInt_lt, Int32.lt_iff_toInt_lt, Int32.toInt_toInt64, Int32.toInt_toInt64]
theorem l_eq (x y : Int32) : (x.toInt64 = y.toInt64) ↔ x = y := by
  constructor
  · intro h
    apply Int32.toInt_inj.mp
    rw [← Int32.toInt_toInt64, ← Int32.toInt_toInt64, h]
  · intro h; rw [h]
theorem in_ok (F : Nat) (x a b : Int32) : fX9_in F x.toInt64 a.toInt64 b.toInt64 = fX8_isWithin F x a b := by
  have h1 : (lg_cmp x.toInt64 a.toInt64 < 0) ↔ x < a := by
    unfold lg_cmp
    by_cases h : x.toInt64 > a.toInt64
    · rw [if_pos h]
      exact ⟨fun e => absurd e (by decide), fun e => absurd ((l_lt a x).mp h) (Int32.not_lt.mpr (Int32.le_of_lt e))⟩
    · rw [if_neg h]
      by_cases e : x.toInt64 = a.toInt64
      · rw [if_pos e]
        have := (l_eq x a).mp e
        subst this
        exact ⟨fun e => absurd e (by decide), fun e => (Int32.lt_irrefl e).elim⟩
      · rw [if_neg e]
        refine ⟨fun _ => ?_, fun _ => by decide⟩
        have h' : ¬ a < x := fun z => h ((l_lt a x).mpr z)
        exact i32_lt_of (Int32.not_lt.mp h') (fun z => e ((l_eq x a).mpr z))
  have h2 : (0 < lg_cmp x.toInt64 b.toInt64) ↔ b < x := by
    unfold lg_cmp
    by_cases h : x.toInt64 > b.toInt64
    · rw [if_pos h]
      exact ⟨fun _ => (l_lt b x).mp h, fun _ => by decide⟩
    · rw [if_neg h]
      refine ⟨fun e => ?_, fun e => absurd ((l_lt b x).mpr e) h⟩
      by_cases e' : x.toInt64 = b.toInt64
      · rw [if_pos e'] at e; exact absurd e (by decide)
      · rw [if_neg e'] at e; exact absurd e (by decide)
  unfold fX9_in fX8_isWithin
  by_cases c1 : x < a
  · rw [if_pos (h1.mpr c1), if_pos c1]
  · rw [if_neg (fun z => c1 (h1.mp z)), if_neg c1]
    by_cases c2 : b < x
    · rw [if_pos (h2.mpr c2), if_pos c2]
    · rw [if_neg (fun z => c2 (h2.mp z)), if_neg c2]
theorem within_val (F : Nat) (x a b : Int32) : fX8_isWithin F x a b = some (if a ≤ x ∧ x ≤ b then 1 else 0) := by
  unfold fX8_isWithin
  by_cases c1 : x < a
  · rw [if_pos c1, if_neg (fun z => absurd c1 (Int32.not_lt.mpr z.1))]
  · rw [if_neg c1]
    by_cases c2 : b < x
    · rw [if_pos c2, if_neg (fun z => absurd c2 (Int32.not_lt.mpr z.2))]
    · rw [if_neg c2, if_pos ⟨Int32.not_lt.mp c1, Int32.not_lt.mp c2⟩]
theorem in_val (F : Nat) (x a b : Int32) : fX9_in F x.toInt64 a.toInt64 b.toInt64 = some (if a ≤ x ∧ x ≤ b then 1 else 0) := by rw [in_ok, within_val]
theorem at_cl {F : Nat} (hF : 100 ≤ F) {σ : Sig} {t : Gt} (hI : Inv (σ 0) t) : ∀ (l2 l1 : List Int32) (y : Int32) (i k n : Nat), tks t = l1 ++ l2 → pos (σ 0) t l2 y → i ≤ k → k < i + l2.length → k < 100 → l2.length < n → fX8_at_34 F σ n (nI k) y (nI i) = some (l2.getD (k - i) (-1))
  | [], l1, y, i, k, n, ht, hp, hi, hk, hk2, hn => by simp at hk; omega
  | x :: l, l1, y, i, k, n, ht, hp, hi, hk, hk2, hn => by
    obtain ⟨n, rfl⟩ : ∃ z, n = z + 1 := ⟨n - 1, by omega⟩
    simp only [List.length_cons] at hk hn
    rcases hp with ⟨h, -⟩ | ⟨s, k', l', e1, e2, e3, e4, e5⟩
    · cases h
    · obtain ⟨rfl, rfl⟩ := List.cons.inj e1
      rw [fX8_at_34, e4]
      by_cases hki : k = i
      · subst hki
        rw [if_pos (Int32.le_refl _), cg_key e3, Option.bind_some, e5, Nat.sub_self]
        rfl
      · rw [if_neg (nI_ge (by omega) (by omega))]
        obtain ⟨y', f1, f2⟩ := rise_next hF hI e2 e5 ht
        rw [f1, Option.bind_some, nI_1, at_cl hF hI l (l1 ++ [x]) y' (i + 1) k n (by rw [ht]; simp) f2 (by omega) (by omega) hk2 (by omega)]
        rw [show k - i = (k - (i + 1)) + 1 by omega, List.getD_cons_succ]
theorem at_mo {F : Nat} (hF : 100 ≤ F) {τ : Tau} {t : Gt} (hI : Inv τ t) : ∀ (l2 l1 : List Int32) (i k n : Nat), tks t = l1 ++ l2 → i ≤ k → k < 2 ^ 31 → l2.length < n → fX9_at_9 F (flat τ) n (nI k) (l2.headD (-1)) (nI i) = some (l2.getD (k - i) (-1))
  | [], l1, i, k, n, ht, hi, hk2, hn => by
    obtain ⟨n, rfl⟩ : ∃ z, n = z + 1 := ⟨n - 1, by omega⟩
    have h32 : fX9_at_32 F (flat τ) (nI k) (-1) = some (-1) := by
      unfold fX9_at_32
      rw [if_pos (nI_pos' hk2)]
    rw [fX9_at_9]
    show (if nI k ≤ nI i then fX9_at_32 F (flat τ) (nI k) (-1) else _) = some (-1)
    rw [h32]
    by_cases hki : nI k ≤ nI i
    · rw [if_pos hki]
    · rw [if_neg hki, if_pos (show ([] : List Int32).headD (-1) = -1 from rfl)]; exact h32
  | x :: l, l1, i, k, n, ht, hi, hk2, hn => by
    obtain ⟨n, rfl⟩ : ∃ z, n = z + 1 := ⟨n - 1, by omega⟩
    simp only [List.length_cons] at hn
    have hx := hI.2.2.2.2.2.1 x (by rw [ht]; simp)
    rw [fX9_at_9]
    show (if nI k ≤ nI i then fX9_at_32 F (flat τ) (nI k) x else if x = -1 then _ else _) = _
    by_cases hki : k = i
    · subst hki
      rw [if_pos (Int32.le_refl _), Nat.sub_self]
      unfold fX9_at_32
      rw [if_pos (nI_pos' hk2)]
      rfl
    · rw [if_neg (nI_ge (by omega) (by omega)), if_neg (fun e => absurd (e ▸ hx.1) (by decide))]
      rw [show ((x :: l).headD (-1)) = x from rfl, bes_next hF hI ht, Option.bind_some, nI_1, at_mo hF hI l (l1 ++ [x]) (i + 1) k n (by rw [ht]; simp) (by omega) hk2 (by omega)]
      rw [show k - i = (k - (i + 1)) + 1 by omega, List.getD_cons_succ]
theorem at_ok {F : Nat} (hF : 100 ≤ F) {σ : Sig} {t : Gt} (hI : Inv (σ 0) t) (x : Int32) : ∃ r, fX8_at F σ x = some r ∧ fX9_at F (flat (σ 0)) x = some r := by
  have hlen := hI.2.2.2.2.2.2.2.2.2
  have hcnt := hI.2.2.2.2.2.2.2.2.1
  unfold fX8_at fX9_at
  rw [bes_first hF hI, Option.bind_some]
  by_cases h0 : x < 0
  · refine ⟨-1, by rw [if_pos h0], ?_⟩
    obtain ⟨n, rfl⟩ : ∃ z, F = z + 1 := ⟨F - 1, by omega⟩
    rw [fX9_at_9, if_pos (Int32.le_of_lt h0)]
    unfold fX9_at_32
    rw [if_neg (fun e => absurd h0 (Int32.not_lt.mpr e))]
  · obtain ⟨k, hk, rfl⟩ := nI_of h0
    have hm := at_mo (F := F) hF hI (tks t) [] 0 k F rfl (by omega) hk (by rw [tks_len]; omega)
    rw [nI_0, Nat.sub_zero] at hm
    refine ⟨_, ?_, hm⟩
    rw [if_neg h0, hcnt]
    by_cases hkl : k < (tsl t).length
    · rw [if_pos (nI_lt hkl (by omega))]
      obtain ⟨y, e1, e2⟩ := rise_first hF hI
      rw [e1, Option.bind_some]
      have := at_cl (F := F) hF hI (tks t) [] y 0 k F rfl e2 (by omega) (by rw [tks_len]; omega) (by omega) (by rw [tks_len]; omega)
      rw [nI_0, Nat.sub_zero] at this
      exact this
    · rw [if_neg (nI_nlt (by omega) hk), List.getD_eq_getElem?_getD, List.getElem?_eq_none (by rw [tks_len]; omega), Option.getD_none]
theorem less_ok {F : Nat} (hF : 100 ≤ F) {σ : Sig} (x : Int32) : ∃ r, fX8_less F σ x = some r ∧ fX9_less F (flat (σ 0)) x = some r := by
  obtain ⟨e1, e2⟩ := scan_less (F := F) (τ := σ 0) x 60 0 F F 0 (by omega) (by omega) (by omega)
  rw [nI_0] at e1 e2
  exact ⟨_, by unfold fX8_less fX6_howManyLess; rw [e1, Option.bind_some], by unfold fX9_less fX9_lessThan; rw [e2, Option.bind_some]⟩
theorem beside_ok {F : Nat} (hF : 100 ≤ F) {σ : Sig} {t : Gt} (hI : Inv (σ 0) t) (x w : Int32) : ∃ r, fX8_beside F σ x w = some r ∧ fX9_beside F (flat (σ 0)) x w = some r := by
  unfold fX8_beside fX9_beside
  rw [show (0 : Int64) = (0 : Int32).toInt64 from rfl, show (1 : Int64) = (1 : Int32).toInt64 from rfl, in_val, Option.bind_some]
  by_cases h0 : w = 0
  · subst h0
    rw [if_pos rfl, if_neg (by decide), if_pos rfl]
    obtain ⟨r, e1, e2⟩ := gl_ok hF hI x
    obtain ⟨r', e3, e4⟩ := bes_dn_ok hF hI x
    exact ⟨r, by rw [e1, Option.bind_some], by rw [e3, Option.bind_some, maxS_uniq e2 e4]⟩
  · by_cases h1 : w = 1
    · subst h1
      rw [if_neg (by decide), if_pos rfl, if_neg (by decide), if_neg (by decide)]
      obtain ⟨r, e1, e2⟩ := lg_ok hF hI x
      obtain ⟨r', e3, e4⟩ := bes_up_ok hF hI x
      exact ⟨r, by rw [e1, Option.bind_some], by rw [e3, Option.bind_some, minS_uniq e2 e4]⟩
    · rw [if_neg h0, if_neg h1]
      refine ⟨_, rfl, ?_⟩
      have hno : ¬ (0 ≤ w ∧ w ≤ 1) := by
        rintro ⟨a, b⟩
        obtain ⟨j, hj, e⟩ := nI_of2 (n := 1) (by decide) (Int32.not_lt.mpr a) b
        rcases (by omega : j = 0 ∨ j = 1) with rfl | rfl
        · exact h0 e
        · exact h1 e
      rw [if_neg hno, if_pos rfl]
