/-! ===== between: the most worth; way ===== -/
def bst (τ : Tau) (P : Nat → Prop) (k : Int32) : Prop := (k = -1 ∧ ∀ s, ¬ P s) ∨ ∃ s, P s ∧ τ 0 s = k ∧ ∀ q, P q → τ 1 q < τ 1 s ∨ (τ 1 q = τ 1 s ∧ k ≤ τ 0 q)
theorem bst_uniq {τ : Tau} {P : Nat → Prop} {k k' : Int32} (h : bst τ P k) (h' : bst τ P k') : k = k' := by
  rcases h with ⟨e, h⟩ | ⟨s, h1, h2, h3⟩ <;> rcases h' with ⟨e', h'⟩ | ⟨s', h1', h2', h3'⟩
  · rw [e, e']
  · exact absurd h1' (h s')
  · exact absurd h1 (h' s)
  · rcases h3 s' h1' with a | ⟨a, b⟩ <;> rcases h3' s h1 with a' | ⟨a', b'⟩
    · exact absurd a (Int32.not_lt.mpr (Int32.le_of_lt a'))
    · rw [a'] at a; exact (Int32.lt_irrefl a).elim
    · rw [a] at a'; exact (Int32.lt_irrefl a').elim
    · rw [h2'] at b; rw [h2] at b'; exact Int32.le_antisymm b b'
theorem bst_congr {τ : Tau} {P Q : Nat → Prop} (e : ∀ s, P s ↔ Q s) {k : Int32} (h : bst τ P k) : bst τ Q k := by
  rcases h with ⟨e', h⟩ | ⟨s, h1, h2, h3⟩
  · exact Or.inl ⟨e', fun s hs => h s ((e s).mpr hs)⟩
  · exact Or.inr ⟨s, (e s).mp h1, h2, fun q hq => h3 q ((e q).mpr hq)⟩
theorem i32_tri (a b : Int32) : a < b ∨ a = b ∨ b < a := by
  by_cases h : a < b
  · exact Or.inl h
  · by_cases e : a = b
    · exact Or.inr (Or.inl e)
    · exact Or.inr (Or.inr (i32_lt_of (Int32.not_lt.mp h) (fun z => e z.symm)))
theorem most_cl {F : Nat} {τ : Tau} (a b : Int32) : ∀ (j i n : Nat) (best : Int32), i + j = 60 → j < n → ((best = -1 ∧ ∀ s, ¬ (s < i ∧ τ 0 s ≠ -1 ∧ a ≤ τ 0 s ∧ τ 0 s ≤ b)) ∨ ∃ s, s < i ∧ best = nI s ∧ (τ 0 s ≠ -1 ∧ a ≤ τ 0 s ∧ τ 0 s ≤ b) ∧ ∀ q, q < i ∧ τ 0 q ≠ -1 ∧ a ≤ τ 0 q ∧ τ 0 q ≤ b → τ 1 q < τ 1 s ∨ (τ 1 q = τ 1 s ∧ τ 0 s ≤ τ 0 q)) →
    ∃ k, fX6_mostWorthFrom_5 F τ n a b best (nI i) = some k ∧ bst τ (fun s => s < 60 ∧ τ 0 s ≠ -1 ∧ a ≤ τ 0 s ∧ τ 0 s ≤ b) k
  | 0, i, n, best, hi, hn, hb => by
    obtain ⟨n, rfl⟩ : ∃ z, n = z + 1 := ⟨n - 1, by omega⟩
    obtain rfl : i = 60 := by omega
    have h60 : (60 : Int32) ≤ nI 60 := by decide
    rw [fX6_mostWorthFrom_5, if_pos h60]
    rcases hb with ⟨e, h⟩ | ⟨s, h1, h2, h3, h4⟩
    · exact ⟨-1, by rw [e, cg_key0, Option.bind_some], Or.inl ⟨rfl, h⟩⟩
    · exact ⟨τ 0 s, by rw [h2, cg_key h1, Option.bind_some], Or.inr ⟨s, ⟨h1, h3⟩, rfl, h4⟩⟩
  | j + 1, i, n, best, hi, hn, hb => by
    obtain ⟨n, rfl⟩ : ∃ z, n = z + 1 := ⟨n - 1, by omega⟩
    have i60 : i < 60 := by omega
    rw [fX6_mostWorthFrom_5, if_neg (n60le i60), cg_isFrom a b i60, Option.bind_some, nI_1]
    by_cases hq : τ 0 i ≠ -1 ∧ a ≤ τ 0 i ∧ τ 0 i ≤ b
    · rw [if_pos hq, if_neg (by decide)]
      rcases hb with ⟨e, h⟩ | ⟨s, h1, h2, h3, h4⟩
      · rw [if_pos e]
        refine most_cl a b j (i + 1) n (nI i) (by omega) (by omega) (Or.inr ⟨i, by omega, rfl, hq, fun q hq' => ?_⟩)
        by_cases hqi : q = i
        · subst hqi; exact Or.inr ⟨rfl, Int32.le_refl _⟩
        · exact absurd ⟨by omega, hq'.2⟩ (h q)
      · have s60 : s < 60 := by omega
        rw [if_neg (by rw [h2]; exact nI_m1 s (by omega)), h2]
        have hW : fX6_isWorthier F τ (nI i) (nI s) = some (if τ 1 s < τ 1 i ∨ (τ 1 i = τ 1 s ∧ τ 0 i < τ 0 s) then 1 else 0) := by
          unfold fX6_isWorthier
          rw [cg_worth i60, cg_worth s60, Option.bind_some, Option.bind_some]
          by_cases e : τ 1 i = τ 1 s
          · rw [if_pos e, cg_key i60, cg_key s60, Option.bind_some, Option.bind_some]
            by_cases l : τ 0 s ≤ τ 0 i
            · rw [if_pos l, if_neg]
              rintro (z | ⟨_, z⟩)
              · rw [e] at z; exact Int32.lt_irrefl z
              · exact absurd z (Int32.not_lt.mpr l)
            · rw [if_neg l, if_pos (Or.inr ⟨e, i32_not_le.mp l⟩)]
          · rw [if_neg e, Option.bind_some, Option.bind_some]
            by_cases l : τ 1 i ≤ τ 1 s
            · rw [if_pos l, if_neg]
              rintro (z | ⟨z, _⟩)
              · exact absurd z (Int32.not_lt.mpr l)
              · exact e z
            · rw [if_neg l, if_pos (Or.inl (i32_not_le.mp l))]
        rw [hW, Option.bind_some]
        by_cases hw : τ 1 s < τ 1 i ∨ (τ 1 i = τ 1 s ∧ τ 0 i < τ 0 s)
        · rw [if_pos hw, if_neg (by decide)]
          refine most_cl a b j (i + 1) n (nI i) (by omega) (by omega) (Or.inr ⟨i, by omega, rfl, hq, fun q hq' => ?_⟩)
          by_cases hqi : q = i
          · subst hqi; exact Or.inr ⟨rfl, Int32.le_refl _⟩
          · rcases h4 q ⟨by omega, hq'.2⟩ with z | ⟨z1, z2⟩ <;> rcases hw with w | ⟨w1, w2⟩
            · exact Or.inl (Int32.lt_trans z w)
            · exact Or.inl (w1 ▸ z)
            · exact Or.inl (z1 ▸ w)
            · exact Or.inr ⟨z1.trans w1.symm, Int32.le_trans (Int32.le_of_lt w2) z2⟩
        · rw [if_neg hw, if_pos rfl]
          refine most_cl a b j (i + 1) n (nI s) (by omega) (by omega) (Or.inr ⟨s, by omega, rfl, h3, fun q hq' => ?_⟩)
          by_cases hqi : q = i
          · subst hqi
            rcases i32_tri (τ 1 q) (τ 1 s) with z | z | z
            · exact Or.inl z
            · exact Or.inr ⟨z, Int32.not_lt.mp (fun y => hw (Or.inr ⟨z, y⟩))⟩
            · exact absurd (Or.inl z) hw
          · exact h4 q ⟨by omega, hq'.2⟩
    · rw [if_neg hq, if_pos rfl]
      refine most_cl a b j (i + 1) n best (by omega) (by omega) ?_
      rcases hb with ⟨e, h⟩ | ⟨s, h1, h2, h3, h4⟩
      · refine Or.inl ⟨e, fun s hs => ?_⟩
        by_cases hsi : s = i
        · subst hsi; exact hq hs.2
        · exact h s ⟨by omega, hs.2⟩
      · refine Or.inr ⟨s, by omega, h2, h3, fun q hq' => ?_⟩
        by_cases hqi : q = i
        · subst hqi; exact absurd hq'.2 hq
        · exact h4 q ⟨by omega, hq'.2⟩
theorem tks_map {τ : Tau} : ∀ {t : Gt} {p : Int32}, rep τ t p → tks t = (tsl t).map (τ 0)
  | .leaf, _, _ => rfl
  | .inner r q k a b, p, hr => by
    obtain ⟨h1, h2, h3, h4, h5, h6, h7, h8⟩ := hr
    simp only [tks, tsl, List.map_append, List.map_cons]
    rw [tks_map h7, tks_map h8, h2]
theorem pw_inj {f : Nat → Int32} : ∀ {l : List Nat} {a b : Nat}, l.Pairwise (fun x y => f x < f y) → a ∈ l → b ∈ l → f a = f b → a = b
  | [], _, _, _, h, _, _ => by cases h
  | x :: l, a, b, hp, ha, hb, e => by
    obtain ⟨p1, p2⟩ := List.pairwise_cons.mp hp
    rcases List.mem_cons.mp ha with za | za <;> rcases List.mem_cons.mp hb with zb | zb
    · rw [za, zb]
    · have := p1 b zb; rw [← za, e] at this; exact (Int32.lt_irrefl this).elim
    · have := p1 a za; rw [← zb, e] at this; exact (Int32.lt_irrefl this).elim
    · exact pw_inj p2 za zb e
theorem slot_uniq {τ : Tau} {t : Gt} (hI : Inv τ t) {a b : Nat} (ha : a ∈ tsl t) (hb : b ∈ tsl t) (e : τ 0 a = τ 0 b) : a = b := by
  have h := hI.2.2.2.2.1
  rw [tks_map hI.1, List.pairwise_map] at h
  exact pw_inj h ha hb e
/-- the model walks the keys rising -/
theorem most_mo {F : Nat} (hF : 100 ≤ F) {τ : Tau} {t : Gt} (hI : Inv τ t) (b : Int32) : ∀ (l2 l1 lp : List Int32) (n : Nat) (bk bw : Int32), tks t = l1 ++ lp ++ l2 → l2.length < n → (∀ x ∈ lp, x ≤ b) →
    ((bk = -1 ∧ bw = -1 ∧ lp = []) ∨ ∃ s, s ∈ tsl t ∧ τ 0 s = bk ∧ τ 1 s = bw ∧ bk ∈ lp ∧ ∀ q, q ∈ tsl t → τ 0 q ∈ lp → τ 1 q < τ 1 s ∨ (τ 1 q = τ 1 s ∧ bk ≤ τ 0 q)) →
    ∃ k, fX9_most_15 F (flat τ) n b bk bw (l2.headD (-1)) = some k ∧ bst τ (fun s => s ∈ tsl t ∧ (τ 0 s ∈ lp ∨ τ 0 s ∈ l2) ∧ τ 0 s ≤ b) k := by
  intro l2
  have hend : ∀ (lp : List Int32) (l2 : List Int32) (bk bw : Int32), (∀ x ∈ lp, x ≤ b) → (∀ x ∈ l2, ¬ x ≤ b) →
    ((bk = -1 ∧ bw = -1 ∧ lp = []) ∨ ∃ s, s ∈ tsl t ∧ τ 0 s = bk ∧ τ 1 s = bw ∧ bk ∈ lp ∧ ∀ q, q ∈ tsl t → τ 0 q ∈ lp → τ 1 q < τ 1 s ∨ (τ 1 q = τ 1 s ∧ bk ≤ τ 0 q)) → bst τ (fun s => s ∈ tsl t ∧ (τ 0 s ∈ lp ∨ τ 0 s ∈ l2) ∧ τ 0 s ≤ b) bk := by
    intro lp l2 bk bw hlp hl2 h
    rcases h with ⟨e, -, e'⟩ | ⟨s, h1, h2, h3, h4, h5⟩
    · refine Or.inl ⟨e, fun s hs => ?_⟩
      rcases hs.2.1 with z | z
      · rw [e'] at z; cases z
      · exact hl2 _ z hs.2.2
    · refine Or.inr ⟨s, ⟨h1, Or.inl (by rw [h2]; exact h4), hlp _ (by rw [h2]; exact h4)⟩, h2, fun q hq => ?_⟩
      rcases hq.2.1 with z | z
      · exact h5 q hq.1 z
      · exact absurd hq.2.2 (hl2 _ z)
  induction l2 with
  | nil =>
    intro l1 lp n bk bw ht hn hlp h
    obtain ⟨n, rfl⟩ : ∃ z, n = z + 1 := ⟨n - 1, by omega⟩
    refine ⟨bk, ?_, hend lp [] bk bw hlp (fun x hx => (by cases hx)) h⟩
    rw [fX9_most_15, if_pos (show ([] : List Int32).headD (-1) = -1 from rfl)]
  | cons x l ih =>
    intro l1 lp n bk bw ht hn hlp h
    obtain ⟨n, rfl⟩ : ∃ z, n = z + 1 := ⟨n - 1, by omega⟩
    simp only [List.length_cons] at hn
    have hx := hI.2.2.2.2.2.1 x (by rw [ht]; simp)
    have hsort := hI.2.2.2.2.1
    rw [ht] at hsort
    obtain ⟨p1, p2, p3⟩ := pw_app hsort
    obtain ⟨p4, p5⟩ := List.pairwise_cons.mp p2
    rw [show ((x :: l).headD (-1)) = x from rfl, fX9_most_15, if_neg (show ¬ x = -1 from fun e => absurd (e ▸ hx.1) (by decide))]
    by_cases hb : b < x
    · rw [if_pos hb]
      refine ⟨bk, rfl, hend lp (x :: l) bk bw hlp (fun z hz => ?_) h⟩
      rcases List.mem_cons.mp hz with rfl | hz
      · exact fun e => absurd hb (Int32.not_lt.mpr e)
      · exact fun e => absurd (Int32.lt_trans hb (p4 z hz)) (Int32.not_lt.mpr e)
    · rw [if_neg hb]
      obtain ⟨y, f1, f2, f3⟩ := find_ok hF hI x
      rcases f3 with ⟨-, f3⟩ | ⟨s, s1, s2, s3, s4⟩
      · exact absurd (by rw [ht]; simp) f3
      · rw [f2, Option.bind_some, s3, mg_worth s2, Option.bind_some]
        have hnx : fX9_besideOf F (flat τ) x 0 = some (l.headD (-1)) := bes_next hF hI ht
        have hw0 := hI.2.2.2.2.2.2.2.1 s s2
        have hnew : tks t = l1 ++ (lp ++ [x]) ++ l := by rw [ht]; simp
        have hlp' : ∀ z ∈ lp ++ [x], z ≤ b := fun z hz => by
          rcases List.mem_append.mp hz with hz | hz
          · exact hlp z hz
          · rw [List.mem_singleton.mp hz]; exact Int32.not_lt.mp hb
        have hfin : ∀ k, bst τ (fun s => s ∈ tsl t ∧ (τ 0 s ∈ lp ++ [x] ∨ τ 0 s ∈ l) ∧ τ 0 s ≤ b) k → bst τ (fun s => s ∈ tsl t ∧ (τ 0 s ∈ lp ∨ τ 0 s ∈ x :: l) ∧ τ 0 s ≤ b) k := fun k => bst_congr (fun q => by simp [or_assoc])
        by_cases hwb : τ 1 s ≤ bw
        · rw [if_pos hwb]
          unfold fX9_most_53 fX9_most_68
          rw [if_pos hwb, hnx, Option.bind_some]
          obtain ⟨k, k1, k2⟩ := ih l1 (lp ++ [x]) n bk bw hnew (by omega) hlp' (by
            rcases h with ⟨e, e', -⟩ | ⟨s', h1, h2, h3, h4, h5⟩
            · rw [e'] at hwb; exact absurd (Int32.le_trans hw0 hwb) (by decide)
            · refine Or.inr ⟨s', h1, h2, h3, by simp [h4], fun q hq hqk => ?_⟩
              rcases List.mem_append.mp hqk with z | z
              · exact h5 q hq z
              · have hz := List.mem_singleton.mp z
                have hqs : τ 1 q = τ 1 s := by
                  have : q = s := by
                    have q60 := rep_lt hI.1 q hq
                    exact slot_uniq hI hq s1 (hz.trans s4.symm)
                  rw [this]
                rcases i32_tri (τ 1 q) (τ 1 s') with a | a | a
                · exact Or.inl a
                · refine Or.inr ⟨a, ?_⟩
                  rw [hz]
                  exact Int32.le_of_lt (p3 bk (by simp [h4]) x (by simp))
                · rw [hqs, h3] at a; exact absurd hwb (fun e => absurd a (Int32.not_lt.mpr e)))
          exact ⟨k, k1, hfin k k2⟩
        · rw [if_neg hwb]
          unfold fX9_most_53 fX9_most_68
          rw [if_neg hwb, hnx, Option.bind_some]
          obtain ⟨k, k1, k2⟩ := ih l1 (lp ++ [x]) n x (τ 1 s) hnew (by omega) hlp' (by
            refine Or.inr ⟨s, s1, s4, rfl, by simp, fun q hq hqk => ?_⟩
            rcases List.mem_append.mp hqk with z | z
            · rcases h with ⟨-, -, e⟩ | ⟨s', h1, h2, h3, h4, h5⟩
              · rw [e] at z; cases z
              · have hlt := i32_not_le.mp hwb
                rcases h5 q hq z with a | ⟨a, -⟩
                · exact Or.inl (Int32.lt_trans a (h3 ▸ hlt))
                · exact Or.inl (a ▸ h3 ▸ hlt)
            · have hz := List.mem_singleton.mp z
              have : q = s := slot_uniq hI hq s1 (hz.trans s4.symm)
              rw [this]
              exact Or.inr ⟨rfl, by rw [s4]; exact Int32.le_refl _⟩)
          exact ⟨k, k1, hfin k k2⟩
theorem sorted_cut : ∀ (l : List Int32) (v : Int32), l.Pairwise (· < ·) → ∃ l1 l2, l = l1 ++ l2 ∧ (∀ x ∈ l1, x ≤ v) ∧ (∀ x ∈ l2, v < x)
  | [], v, _ => ⟨[], [], rfl, fun x hx => (by cases hx), fun x hx => (by cases hx)⟩
  | a :: l, v, h => by
    obtain ⟨p1, p2⟩ := List.pairwise_cons.mp h
    by_cases hv : v < a
    · refine ⟨[], a :: l, rfl, fun x hx => (by cases hx), fun x hx => ?_⟩
      rcases List.mem_cons.mp hx with rfl | hx
      · exact hv
      · exact Int32.lt_trans hv (p1 x hx)
    · obtain ⟨l1, l2, e, h1, h2⟩ := sorted_cut l v p2
      refine ⟨a :: l1, l2, by rw [e]; rfl, fun x hx => ?_, h2⟩
      rcases List.mem_cons.mp hx with rfl | hx
      · exact Int32.not_lt.mp hv
      · exact h1 x hx
theorem minS_cut {l1 l2 : List Int32} {v : Int32} (h : (l1 ++ l2).Pairwise (· < ·)) (h1 : ∀ x ∈ l1, x ≤ v) (h2 : ∀ x ∈ l2, v < x) : minS (· ∈ l1 ++ l2) v (l2.headD (-1)) := by
  obtain ⟨p1, p2, p3⟩ := pw_app h
  cases l2 with
  | nil =>
    refine Or.inl ⟨rfl, fun z hz => ?_⟩
    rcases List.mem_append.mp hz with hz | hz
    · exact Int32.not_lt.mpr (h1 z hz)
    · cases hz
  | cons x l =>
    refine Or.inr ⟨by simp, h2 x (by simp), fun z hz hv => ?_⟩
    rcases List.mem_append.mp hz with hz | hz
    · exact absurd hv (Int32.not_lt.mpr (h1 z hz))
    · rcases List.mem_cons.mp hz with rfl | hz
      · exact Int32.le_refl _
      · exact Int32.le_of_lt ((List.pairwise_cons.mp p2).1 z hz)
theorem bes_cut {F : Nat} (hF : 100 ≤ F) {τ : Tau} {t : Gt} (hI : Inv τ t) {l1 l2 : List Int32} {v : Int32} (ht : tks t = l1 ++ l2) (h1 : ∀ x ∈ l1, x ≤ v) (h2 : ∀ x ∈ l2, v < x) : fX9_besideOf F (flat τ) v 0 = some (l2.headD (-1)) := by
  obtain ⟨r, e1, e2⟩ := bes_up_ok hF hI v
  have hs := hI.2.2.2.2.1
  rw [ht] at hs e2
  rw [e1, minS_uniq e2 (minS_cut hs h1 h2)]
theorem most_ok {F : Nat} (hF : 100 ≤ F) {τ : Tau} {t : Gt} (hI : Inv τ t) (a b : Int32) (a' : Int32) (ha0 : 0 ≤ a') (ha : ∀ k, 0 ≤ k → (a ≤ k ↔ a' ≤ k)) : ∃ r, fX6_mostWorthFrom F τ a b = some r ∧ fX9_most F (flat τ) a' b = some r := by
  obtain ⟨k, e1, e2⟩ := most_cl (F := F) (τ := τ) a b 60 0 F (-1) (by omega) (by omega) (Or.inl ⟨rfl, fun s h => by omega⟩)
  rw [nI_0] at e1
  obtain ⟨l1, l2, ht, h1, h2⟩ := sorted_cut (tks t) (a' - 1) hI.2.2.2.2.1
  have hlt : ∀ z : Int32, a' - 1 < z ↔ a' ≤ z := fun z => by
    obtain ⟨j, hj, rfl⟩ := nI_of (Int32.not_lt.mpr ha0)
    have e1 : nI j - 1 = oI (j - 1) := by rw [nI_oI]; exact oI_sub j 1
    rw [e1, Int32.lt_iff_toInt_lt, Int32.le_iff_toInt_le, nI_toInt hj]
    unfold oI
    rw [Int32.toInt_ofInt_of_le (by omega) (by omega)]
    omega
  have hlen : l2.length ≤ (tsl t).length := by rw [← tks_len, ht]; simp
  have hle := hI.2.2.2.2.2.2.2.2.2
  obtain ⟨k', f1, f2⟩ := most_mo (F := F) hF hI b l2 l1 [] F (-1) (-1) (by rw [ht]; simp) (by omega) (fun x hx => (by cases hx)) (Or.inl ⟨rfl, rfl, rfl⟩)
  refine ⟨k, e1, ?_⟩
  unfold fX9_most
  rw [bes_cut hF hI ht h1 h2, Option.bind_some, f1]
  refine congrArg some (bst_uniq f2 (bst_congr (fun s => ?_) e2))
  constructor
  · rintro ⟨s60, s1, s2, s3⟩
    have hs : s ∈ tsl t := Classical.byContradiction fun h => s1 (hI.2.2.2.2.2.2.1 s s60 h)
    have hk := key_mem hI.1 hs
    have hk0 := (hI.2.2.2.2.2.1 _ hk).1
    refine ⟨hs, Or.inr ?_, s3⟩
    rw [ht] at hk
    rcases List.mem_append.mp hk with hk | hk
    · exact absurd ((hlt _).mpr ((ha _ hk0).mp s2)) (Int32.not_lt.mpr (h1 _ hk))
    · exact hk
  · rintro ⟨hs, hk | hk, s3⟩
    · cases hk
    · have hkt : τ 0 s ∈ tks t := by rw [ht]; simp [hk]
      have hk0 := (hI.2.2.2.2.2.1 _ hkt).1
      exact ⟨rep_lt hI.1 s hs, fun e => absurd (e ▸ hk0) (by decide), (ha _ hk0).mpr ((hlt _).mp (h2 _ hk)), s3⟩
theorem between_ok {F : Nat} (hF : 100 ≤ F) {σ : Sig} {t : Gt} (hI : Inv (σ 0) t) (x y w : Int32) : ∃ r, fX8_between F σ x y w = some r ∧ fX9_between F (flat (σ 0)) x y w = some r := by
  unfold fX8_between fX9_between
  rw [show (0 : Int64) = (0 : Int32).toInt64 from rfl, show (2 : Int64) = (2 : Int32).toInt64 from rfl, in_val, Option.bind_some]
  by_cases h0 : w = 0
  · subst h0
    rw [if_pos rfl, if_neg (by decide), if_neg (by decide), if_neg (by decide)]
    obtain ⟨r, e1, e2⟩ := scan_between (F := F) (τ := σ 0) x y false 60 0 F F 0 (by omega) (by omega) (by omega)
    rw [nI_0] at e1 e2
    rw [if_neg (by decide)] at e1
    exact ⟨r, by unfold fX6_howManyFrom; rw [e1, Option.bind_some], by unfold fX9_sumBetween; rw [show (0 : Int32) = b2i false from rfl] at *; rw [e2, Option.bind_some]⟩
  · by_cases h1 : w = 1
    · subst h1
      rw [if_neg (by decide), if_pos rfl, if_neg (by decide), if_neg (by decide), if_pos rfl]
      obtain ⟨r, e1, e2⟩ := scan_between (F := F) (τ := σ 0) x y true 60 0 F F 0 (by omega) (by omega) (by omega)
      rw [nI_0] at e1 e2
      rw [if_pos rfl] at e1
      exact ⟨r, by unfold fX6_worthFrom; rw [e1, Option.bind_some], by unfold fX9_sumBetween; rw [show b2i true = (1 : Int32) from rfl] at e2; rw [e2, Option.bind_some]⟩
    · by_cases h2 : w = 2
      · subst h2
        rw [if_neg (by decide), if_neg (by decide), if_pos rfl, if_neg (by decide), if_pos (by decide)]
        by_cases hx : 0 ≤ x
        · obtain ⟨r, e1, e2⟩ := most_ok hF hI x y x hx (fun _ _ => Iff.rfl)
          exact ⟨r, by rw [e1, Option.bind_some], by rw [if_pos hx, e2, Option.bind_some]⟩
        · obtain ⟨r, e1, e2⟩ := most_ok hF hI x y 0 (by decide) (fun k hk => ⟨fun _ => hk, fun _ => Int32.le_trans (Int32.le_of_lt (i32_not_le.mp hx)) hk⟩)
          exact ⟨r, by rw [e1, Option.bind_some], by rw [if_neg hx, e2, Option.bind_some]⟩
      · rw [if_neg h0, if_neg h1, if_neg h2]
        refine ⟨_, rfl, ?_⟩
        have hno : ¬ (0 ≤ w ∧ w ≤ 2) := by
          rintro ⟨a, b⟩
          obtain ⟨j, hj, e⟩ := nI_of2 (n := 2) (by decide) (Int32.not_lt.mpr a) b
          rcases (by omega : j = 0 ∨ j = 1 ∨ j = 2) with rfl | rfl | rfl
          · exact h0 e
          · exact h1 e
          · exact h2 e
        rw [if_neg hno, if_pos rfl]
