/-! ===== neighbours by the tree; keys rising ===== -/
theorem lg_tr {F : Nat} {τ : Tau} (v : Int32) : ∀ (t : Gt) (p : Int32) (i n : Nat) (f0 : Int32), rep τ t p → (tks t).Pairwise (· < ·) → i + (tsl t).length < 61 → (tsl t).length < n →
    ∃ r, fX6_leastGreater_10 F τ n v f0 (trt t) (nI i) = some r ∧ ((∃ k ∈ tks t, v < k) ∧ minS (· ∈ tks t) v r ∨ (∀ k ∈ tks t, ¬ v < k) ∧ r = f0)
  | .leaf, p, i, n, f0, hr, hs, hi, hn => by
    obtain ⟨n, rfl⟩ : ∃ z, n = z + 1 := ⟨n - 1, by omega⟩
    refine ⟨f0, ?_, Or.inr ⟨fun k hk => (by cases hk), rfl⟩⟩
    show fX6_leastGreater_10 F τ (n + 1) v f0 (-1) (nI i) = _
    rw [fX6_leastGreater_10]
    by_cases h : (60 : Int32) ≤ nI i
    · rw [if_pos h]
    · rw [if_neg h, if_pos rfl]
  | .inner r s q a b, p, i, n, f0, hr, hs, hi, hn => by
    obtain ⟨n, rfl⟩ : ∃ z, n = z + 1 := ⟨n - 1, by omega⟩
    obtain ⟨h1, h2, h3, h4, h5, h6, h7, h8⟩ := hr
    simp only [tsl, List.length_append, List.length_cons] at hi hn
    simp only [tks] at hs
    obtain ⟨p1, p2, p3⟩ := pw_app hs
    obtain ⟨p4, p5⟩ := List.pairwise_cons.mp p2
    have hC : fX6_leastGreater_10 F τ (n + 1) v f0 (nI s) (nI i) = if q ≤ v then fX6_leastGreater_10 F τ n v f0 (trt b) (nI (i + 1)) else fX6_leastGreater_10 F τ n v q (trt a) (nI (i + 1)) := by
      rw [fX6_leastGreater_10, if_neg (n60le (by omega)), if_neg (nI_m1 s (by omega)), cg_key h1, h2, Option.bind_some]
      by_cases hq : q ≤ v
      · rw [if_pos hq, if_pos hq]
        unfold fX6_leastGreater_36 fX6_leastGreater_49
        rw [if_pos rfl, cg_child00 h1, h5, Option.bind_some, nI_1]
      · rw [if_neg hq, if_neg hq]
        unfold fX6_leastGreater_36 fX6_leastGreater_49
        rw [if_neg (by decide), cg_key h1, h2, Option.bind_some, cg_child1 h1, h4, Option.bind_some, nI_1]
    show ∃ r, fX6_leastGreater_10 F τ (n + 1) v f0 (nI s) (nI i) = some r ∧ _
    rw [hC]
    by_cases hq : q ≤ v
    · rw [if_pos hq]
      obtain ⟨r, e1, e2⟩ := lg_tr (F := F) v b (nI s) (i + 1) n f0 h8 p5 (by omega) (by omega)
      refine ⟨r, e1, ?_⟩
      have hless : ∀ k ∈ tks a, ¬ v < k := fun k hk => Int32.not_lt.mpr (Int32.le_trans (Int32.le_of_lt (p3 k hk q (by simp))) hq)
      rcases e2 with ⟨⟨k, k1, k2⟩, e2⟩ | ⟨e2, e3⟩
      · refine Or.inl ⟨⟨k, by simp [tks, k1], k2⟩, ?_⟩
        rcases e2 with ⟨m1, m2⟩ | ⟨m1, m2, m3⟩
        · exact absurd k2 (m2 k k1)
        · refine Or.inr ⟨by simp [tks, m1], m2, fun z hz hv => ?_⟩
          simp only [tks] at hz
          rcases List.mem_append.mp hz with hz | hz
          · exact absurd hv (hless z hz)
          · rcases List.mem_cons.mp hz with rfl | hz
            · exact absurd hv (Int32.not_lt.mpr hq)
            · exact m3 z hz hv
      · refine Or.inr ⟨fun z hz => ?_, e3⟩
        simp only [tks] at hz
        rcases List.mem_append.mp hz with hz | hz
        · exact hless z hz
        · rcases List.mem_cons.mp hz with rfl | hz
          · exact Int32.not_lt.mpr hq
          · exact e2 z hz
    · rw [if_neg hq]
      have hlt := i32_not_le.mp hq
      obtain ⟨r, e1, e2⟩ := lg_tr (F := F) v a (nI s) (i + 1) n q h7 p1 (by omega) (by omega)
      refine ⟨r, e1, Or.inl ⟨⟨q, by simp [tks], hlt⟩, ?_⟩⟩
      have hge : ∀ k ∈ tks b, q ≤ k := fun k hk => Int32.le_of_lt (p4 k hk)
      rcases e2 with ⟨⟨k, k1, k2⟩, e2⟩ | ⟨e2, e3⟩
      · rcases e2 with ⟨m1, m2⟩ | ⟨m1, m2, m3⟩
        · exact absurd k2 (m2 k k1)
        · have hrq : r ≤ q := Int32.le_of_lt (p3 r m1 q (by simp))
          refine Or.inr ⟨by simp [tks, m1], m2, fun z hz hv => ?_⟩
          simp only [tks] at hz
          rcases List.mem_append.mp hz with hz | hz
          · exact m3 z hz hv
          · rcases List.mem_cons.mp hz with rfl | hz
            · exact hrq
            · exact Int32.le_trans hrq (hge z hz)
      · subst e3
        refine Or.inr ⟨by simp [tks], hlt, fun z hz hv => ?_⟩
        simp only [tks] at hz
        rcases List.mem_append.mp hz with hz | hz
        · exact absurd hv (e2 z hz)
        · rcases List.mem_cons.mp hz with rfl | hz
          · exact Int32.le_refl _
          · exact hge z hz
theorem gl_tr {F : Nat} {τ : Tau} (v : Int32) : ∀ (t : Gt) (p : Int32) (i n : Nat) (f0 : Int32), rep τ t p → (tks t).Pairwise (· < ·) → i + (tsl t).length < 61 → (tsl t).length < n →
    ∃ r, fX6_greatestLess_10 F τ n v f0 (trt t) (nI i) = some r ∧ ((∃ k ∈ tks t, k < v) ∧ maxS (· ∈ tks t) v r ∨ (∀ k ∈ tks t, ¬ k < v) ∧ r = f0)
  | .leaf, p, i, n, f0, hr, hs, hi, hn => by
    obtain ⟨n, rfl⟩ : ∃ z, n = z + 1 := ⟨n - 1, by omega⟩
    refine ⟨f0, ?_, Or.inr ⟨fun k hk => (by cases hk), rfl⟩⟩
    show fX6_greatestLess_10 F τ (n + 1) v f0 (-1) (nI i) = _
    rw [fX6_greatestLess_10]
    by_cases h : (60 : Int32) ≤ nI i
    · rw [if_pos h]
    · rw [if_neg h, if_pos rfl]
  | .inner r s q a b, p, i, n, f0, hr, hs, hi, hn => by
    obtain ⟨n, rfl⟩ : ∃ z, n = z + 1 := ⟨n - 1, by omega⟩
    obtain ⟨h1, h2, h3, h4, h5, h6, h7, h8⟩ := hr
    simp only [tsl, List.length_append, List.length_cons] at hi hn
    simp only [tks] at hs
    obtain ⟨p1, p2, p3⟩ := pw_app hs
    obtain ⟨p4, p5⟩ := List.pairwise_cons.mp p2
    have hC : fX6_greatestLess_10 F τ (n + 1) v f0 (nI s) (nI i) = if v ≤ q then fX6_greatestLess_10 F τ n v f0 (trt a) (nI (i + 1)) else fX6_greatestLess_10 F τ n v q (trt b) (nI (i + 1)) := by
      rw [fX6_greatestLess_10, if_neg (n60le (by omega)), if_neg (nI_m1 s (by omega)), cg_key h1, h2, Option.bind_some]
      by_cases hq : v ≤ q
      · rw [if_pos hq, if_pos hq]
        unfold fX6_greatestLess_36 fX6_greatestLess_49
        rw [if_pos rfl, if_pos rfl, cg_child1 h1, h4, Option.bind_some, nI_1]
      · rw [if_neg hq, if_neg hq]
        unfold fX6_greatestLess_36 fX6_greatestLess_49
        rw [if_neg (by decide), cg_key h1, h2, Option.bind_some, if_neg (by decide), cg_child00 h1, h5, Option.bind_some, nI_1]
    show ∃ r, fX6_greatestLess_10 F τ (n + 1) v f0 (nI s) (nI i) = some r ∧ _
    rw [hC]
    by_cases hq : v ≤ q
    · rw [if_pos hq]
      obtain ⟨r, e1, e2⟩ := gl_tr (F := F) v a (nI s) (i + 1) n f0 h7 p1 (by omega) (by omega)
      refine ⟨r, e1, ?_⟩
      have hgr : ∀ k ∈ tks b, ¬ k < v := fun k hk => Int32.not_lt.mpr (Int32.le_trans hq (Int32.le_of_lt (p4 k hk)))
      rcases e2 with ⟨⟨k, k1, k2⟩, e2⟩ | ⟨e2, e3⟩
      · refine Or.inl ⟨⟨k, by simp [tks, k1], k2⟩, ?_⟩
        rcases e2 with ⟨m1, m2⟩ | ⟨m1, m2, m3⟩
        · exact absurd k2 (m2 k k1)
        · refine Or.inr ⟨by simp [tks, m1], m2, fun z hz hv => ?_⟩
          simp only [tks] at hz
          rcases List.mem_append.mp hz with hz | hz
          · exact m3 z hz hv
          · rcases List.mem_cons.mp hz with rfl | hz
            · exact absurd hv (Int32.not_lt.mpr hq)
            · exact absurd hv (hgr z hz)
      · refine Or.inr ⟨fun z hz => ?_, e3⟩
        simp only [tks] at hz
        rcases List.mem_append.mp hz with hz | hz
        · exact e2 z hz
        · rcases List.mem_cons.mp hz with rfl | hz
          · exact Int32.not_lt.mpr hq
          · exact hgr z hz
    · rw [if_neg hq]
      have hlt := i32_not_le.mp hq
      obtain ⟨r, e1, e2⟩ := gl_tr (F := F) v b (nI s) (i + 1) n q h8 p5 (by omega) (by omega)
      refine ⟨r, e1, Or.inl ⟨⟨q, by simp [tks], hlt⟩, ?_⟩⟩
      have hle : ∀ k ∈ tks a, k ≤ q := fun k hk => Int32.le_of_lt (p3 k hk q (by simp))
      rcases e2 with ⟨⟨k, k1, k2⟩, e2⟩ | ⟨e2, e3⟩
      · rcases e2 with ⟨m1, m2⟩ | ⟨m1, m2, m3⟩
        · exact absurd k2 (m2 k k1)
        · have hrq : q ≤ r := Int32.le_of_lt (p4 r m1)
          refine Or.inr ⟨by simp [tks, m1], m2, fun z hz hv => ?_⟩
          simp only [tks] at hz
          rcases List.mem_append.mp hz with hz | hz
          · exact Int32.le_trans (hle z hz) hrq
          · rcases List.mem_cons.mp hz with rfl | hz
            · exact hrq
            · exact m3 z hz hv
      · subst e3
        refine Or.inr ⟨by simp [tks], hlt, fun z hz hv => ?_⟩
        simp only [tks] at hz
        rcases List.mem_append.mp hz with hz | hz
        · exact hle z hz
        · rcases List.mem_cons.mp hz with rfl | hz
          · exact Int32.le_refl _
          · exact absurd hv (e2 z hz)
theorem lg_ok {F : Nat} (hF : 100 ≤ F) {τ : Tau} {t : Gt} (hI : Inv τ t) (v : Int32) : ∃ r, fX6_leastGreater F τ v = some r ∧ minS (· ∈ tks t) v r := by
  obtain ⟨i1, i2, i3, i4, i5, i6, i7, i8, i9, i10⟩ := hI
  obtain ⟨r, e1, e2⟩ := lg_tr (F := F) v t (-1) 0 F (-1) i1 i5 (by omega) (by omega)
  refine ⟨r, by unfold fX6_leastGreater; rw [i2]; exact e1, ?_⟩
  rcases e2 with ⟨-, e⟩ | ⟨e, rfl⟩
  · exact e
  · exact Or.inl ⟨rfl, e⟩
theorem gl_ok {F : Nat} (hF : 100 ≤ F) {τ : Tau} {t : Gt} (hI : Inv τ t) (v : Int32) : ∃ r, fX6_greatestLess F τ v = some r ∧ maxS (· ∈ tks t) v r := by
  obtain ⟨i1, i2, i3, i4, i5, i6, i7, i8, i9, i10⟩ := hI
  obtain ⟨r, e1, e2⟩ := gl_tr (F := F) v t (-1) 0 F (-1) i1 i5 (by omega) (by omega)
  refine ⟨r, by unfold fX6_greatestLess; rw [i2]; exact e1, ?_⟩
  rcases e2 with ⟨-, e⟩ | ⟨e, rfl⟩
  · exact e
  · exact Or.inl ⟨rfl, e⟩
/-- sorted lists around a key -/
theorem split_uniq {k : Int32} : ∀ {l1 l2 m1 m2 : List Int32}, (l1 ++ k :: l2).Pairwise (· < ·) → l1 ++ k :: l2 = m1 ++ k :: m2 → l2 = m2
  | [], l2, [], m2, _, e => by simpa using e
  | [], l2, b :: m1, m2, h, e => by
    simp only [List.nil_append, List.cons_append, List.cons.injEq] at e
    obtain ⟨rfl, e⟩ := e
    have := (List.pairwise_cons.mp h).1 k (by rw [e]; simp)
    exact (Int32.lt_irrefl this).elim
  | a :: l1, l2, [], m2, h, e => by
    simp only [List.nil_append, List.cons_append, List.cons.injEq] at e
    obtain ⟨rfl, e⟩ := e
    have := (List.pairwise_cons.mp h).1 a (by simp)
    exact (Int32.lt_irrefl this).elim
  | a :: l1, l2, b :: m1, m2, h, e => by
    simp only [List.cons_append, List.cons.injEq] at e
    exact split_uniq (List.pairwise_cons.mp h).2 e.2
theorem minS_next {l1 l2 : List Int32} {k : Int32} (h : (l1 ++ k :: l2).Pairwise (· < ·)) : minS (· ∈ l1 ++ k :: l2) k (l2.headD (-1)) := by
  obtain ⟨p1, p2, p3⟩ := pw_app h
  obtain ⟨p4, p5⟩ := List.pairwise_cons.mp p2
  cases l2 with
  | nil =>
    refine Or.inl ⟨rfl, fun z hz => ?_⟩
    rcases List.mem_append.mp hz with hz | hz
    · exact Int32.not_lt.mpr (Int32.le_of_lt (p3 z hz k (by simp)))
    · rw [List.mem_singleton.mp hz]; exact fun h => Int32.lt_irrefl h
  | cons x l =>
    refine Or.inr ⟨by simp, p4 x (by simp), fun z hz hv => ?_⟩
    rcases List.mem_append.mp hz with hz | hz
    · exact absurd hv (Int32.not_lt.mpr (Int32.le_of_lt (p3 z hz k (by simp))))
    · rcases List.mem_cons.mp hz with rfl | hz
      · exact (Int32.lt_irrefl hv).elim
      · rcases List.mem_cons.mp hz with rfl | hz
        · exact Int32.le_refl _
        · exact Int32.le_of_lt ((List.pairwise_cons.mp p5).1 z hz)
theorem minS_first {l : List Int32} (h : l.Pairwise (· < ·)) (h0 : ∀ k ∈ l, 0 ≤ k ∧ k ≤ 99999) : minS (· ∈ l) (-1) (l.headD (-1)) := by
  cases l with
  | nil => exact Or.inl ⟨rfl, fun k hk => (by cases hk)⟩
  | cons x l =>
    refine Or.inr ⟨by simp, ?_, fun z hz _ => ?_⟩
    · have := (h0 x (by simp)).1
      exact Int32.lt_of_lt_of_le (by decide) this
    · rcases List.mem_cons.mp hz with rfl | hz
      · exact Int32.le_refl _
      · exact Int32.le_of_lt ((List.pairwise_cons.mp h).1 z hz)
/-- a place in the rising keys: a slot, or none -/
def pos (τ : Tau) (t : Gt) (l : List Int32) (y : Int32) : Prop := (l = [] ∧ y = -1) ∨ ∃ s k l', l = k :: l' ∧ s ∈ tsl t ∧ s < 60 ∧ y = nI s ∧ τ 0 s = k
theorem climb {F : Nat} {τ : Tau} : ∀ (c : List Fr) (g i n : Nat), g < 60 → repc τ c (nI g) → (g :: csl c).Nodup → i + c.length < 60 → c.length < n →
    ∃ y, fX4_nextRising_30 F τ n (nI g) (cpar c) (nI i) = some y ∧ ((ckr c = [] ∧ y = -1) ∨ ∃ s k l', ckr c = k :: l' ∧ s ∈ csl c ∧ s < 60 ∧ y = nI s ∧ τ 0 s = k)
  | [], g, i, n, hg, hc, hn, hi, hln => by
    obtain ⟨n, rfl⟩ : ∃ z, n = z + 1 := ⟨n - 1, by simp at hln; omega⟩
    refine ⟨-1, ?_, Or.inl ⟨rfl, rfl⟩⟩
    show fX4_nextRising_30 F τ (n + 1) (nI g) (-1) (nI i) = _
    rw [fX4_nextRising_30, if_neg (n60le (by simp at hi; omega)), if_pos rfl]
  | (d, r, p, k, o) :: c, g, i, n, hg, hc, hn, hi, hln => by
    obtain ⟨n, rfl⟩ : ∃ z, n = z + 1 := ⟨n - 1, by simp at hln; omega⟩
    simp only [List.length_cons] at hi hln
    obtain ⟨e1, e2, e3, e4, e5, e6, e7, e8⟩ := hc
    obtain ⟨hn1, hn2⟩ := List.nodup_cons.mp hn
    have hgd : (τ 3 p = nI g) ↔ d = true := left_is (x := 0) e4 e5 hg (rep_lt e7) (fun e => hn1 (by simp [csl, e]))
    have hpc : fX4_nextRising_30 F τ (n + 1) (nI g) (cpar ((d, r, p, k, o) :: c)) (nI i) = if d = true then some (nI p) else fX4_nextRising_30 F τ n (nI p) (cpar c) (nI (i + 1)) := by
      show fX4_nextRising_30 F τ (n + 1) (nI g) (nI p) (nI i) = _
      rw [fX4_nextRising_30, if_neg (n60le (by omega)), if_neg (nI_m1 p (by omega)), cg_left e1, Option.bind_some, cg_parent e1, e6, Option.bind_some, nI_1]
      by_cases hd : d = true
      · rw [if_pos hd, if_pos (hgd.mpr hd)]
      · rw [if_neg hd, if_neg (fun z => hd (hgd.mp z))]
    rw [hpc]
    cases d
    · rw [if_neg (by decide)]
      have hpn : (p :: csl c).Nodup := by
        simp only [csl] at hn2
        obtain ⟨q1, q2⟩ := List.nodup_cons.mp hn2
        exact List.nodup_cons.mpr ⟨fun e => q1 (by simp [e]), (List.nodup_append.mp q2).2.1⟩
      obtain ⟨y, a1, a2⟩ := climb (F := F) c p (i + 1) n e1 e8 hpn (by omega) (by omega)
      refine ⟨y, a1, ?_⟩
      simp only [ckr, Bool.false_eq_true, if_false, List.nil_append]
      rcases a2 with a2 | ⟨s, k', l', b1, b2, b3, b4, b5⟩
      · exact Or.inl a2
      · exact Or.inr ⟨s, k', l', b1, by simp [csl, b2], b3, b4, b5⟩
    · rw [if_pos rfl]
      exact ⟨nI p, rfl, Or.inr ⟨p, k, tks o ++ ckr c, by simp [ckr], by simp [csl], e1, rfl, e2⟩⟩
theorem rise_first {F : Nat} (hF : 100 ≤ F) {τ : Tau} {t : Gt} (hI : Inv τ t) : ∃ y, fX4_leastBelow F τ (τ 6 0) = some y ∧ pos τ t (tks t) y := by
  obtain ⟨i1, i2, i3, i4, i5, i6, i7, i8, i9, i10⟩ := hI
  unfold fX4_leastBelow fX4_endOf
  rw [i2]
  rcases gt_cases t with h | ⟨r, s, k, a, b, h⟩
  · subst h
    refine ⟨-1, ?_, Or.inl ⟨rfl, rfl⟩⟩
    obtain ⟨n, rfl⟩ : ∃ z, F = z + 1 := ⟨F - 1, by omega⟩
    show (fX4_endOf_5 (n + 1) τ (n + 1) 1 (-1) 0).bind _ = _
    rw [fX4_endOf_5, if_neg (by decide), cg_childm, Option.bind_some, if_pos rfl, Option.bind_some]
  · obtain ⟨cb, r', g, kg, bb, e1, e2, e3, e4⟩ := least_ok (F := F) t (-1) 0 F F i1 (by rw [h]; intro e; cases e) (by omega) (by omega) (by omega)
    have e3' : fX4_endOf_5 F τ F 1 (trt t) 0 = some (nI g) := e3
    rw [e3', Option.bind_some]
    have hg : g ∈ tsl t := by rw [e1, (tsl_plug cb _).mem_iff]; simp [tsl]
    have hk : tks t = kg :: (tks bb ++ ckr cb) := by rw [e1, tks_plug, e2]; simp [tks]
    have hkg : τ 0 g = kg := by
      have := ((rep_plug (τ := τ) cb (nd r' g kg .leaf bb)).mp ⟨by rw [← e1]; exact i1, by rw [← e1]; exact i2⟩).1
      exact this.2.1
    exact ⟨nI g, rfl, Or.inr ⟨g, kg, _, hk, hg, rep_lt i1 g hg, rfl, hkg⟩⟩
theorem rise_next {F : Nat} (hF : 100 ≤ F) {τ : Tau} {t : Gt} (hI : Inv τ t) {s : Nat} {k : Int32} {l1 l2 : List Int32} (hs : s ∈ tsl t) (hk : τ 0 s = k) (hl : tks t = l1 ++ k :: l2) : ∃ y, fX4_nextRising F τ (nI s) = some y ∧ pos τ t l2 y := by
  obtain ⟨i1, i2, i3, i4, i5, i6, i7, i8, i9, i10⟩ := hI
  have s60 := rep_lt i1 s hs
  obtain ⟨c, r, k', a, b, et⟩ := locate hs
  obtain ⟨n1, n2⟩ := (rep_plug (τ := τ) c (nd r s k' a b)).mp ⟨by rw [← et]; exact i1, by rw [← et]; exact i2⟩
  obtain ⟨-, hk', hr, hleft, hright, hp, ha, hb⟩ := id n1
  have ekk : k' = k := hk'.symm.trans hk
  subst ekk
  have hperm := tsl_plug c (nd r s k' a b)
  rw [← et] at hperm
  have hnd := hperm.nodup i3
  have hkeys : tks t = (ckl c ++ tks a) ++ k' :: (tks b ++ ckr c) := by rw [et, tks_plug]; simp [tks]
  have hl2 : l2 = tks b ++ ckr c := by
    rw [hl] at i5
    exact split_uniq i5 (hl.symm.trans hkeys)
  have hplen := hperm.length_eq
  rw [List.length_append, tsl_nd] at hplen
  simp only [List.length_append, List.length_cons] at hplen
  have hcl := csl_len c
  unfold fX4_nextRising
  rw [cg_right s60, hright, Option.bind_some]
  rcases gt_cases b with hbl | ⟨r2, s2, k2, a2, b2, hbn⟩
  · rw [if_pos (by rw [hbl]; rfl), cg_parent s60, hp, Option.bind_some]
    have hsn : (s :: csl c).Nodup := by
      have h1 := List.nodup_append.mp hnd
      exact List.nodup_cons.mpr ⟨fun e => h1.2.2 s (by simp [tsl]) s e rfl, h1.2.1⟩
    obtain ⟨y, b1, b2⟩ := climb (F := F) c s 0 F s60 n2 hsn (by omega) (by omega)
    refine ⟨y, b1, ?_⟩
    rw [hl2, hbl]
    simp only [tks, List.nil_append]
    rcases b2 with b2 | ⟨s', k2, l', c1, c2, c3, c4, c5⟩
    · exact Or.inl b2
    · exact Or.inr ⟨s', k2, l', c1, hperm.mem_iff.mpr (by simp [c2]), c3, c4, c5⟩
  · have hne : b ≠ .leaf := by rw [hbn]; intro e; cases e
    rw [if_neg (fun e => hne ((trt_m1 hb).mp e)), Option.bind_some]
    obtain ⟨cb, r', g, kg, bb, e1, e2, e3, e4⟩ := least_ok (F := F) b (nI s) 0 F F hb hne (by omega) (by omega) (by omega)
    unfold fX4_leastBelow fX4_endOf
    have e3' : fX4_endOf_5 F τ F 1 (trt b) 0 = some (nI g) := e3
    rw [e3', Option.bind_some, Option.bind_some]
    have hgb : g ∈ tsl b := by rw [e1, (tsl_plug cb _).mem_iff]; simp [tsl]
    have hgt : g ∈ tsl t := hperm.mem_iff.mpr (by simp [tsl, hgb])
    have hkb : tks b = kg :: (tks bb ++ ckr cb) := by rw [e1, tks_plug, e2]; simp [tks]
    have hg60 := rep_lt hb g hgb
    have hkg : τ 0 g = kg := by
      -- by the place in b
      have : ∀ (c : List Fr) (x : Gt) (p : Int32), rep τ (plug c x) p → ∃ p', rep τ x p' := by
        intro c
        induction c with
        | nil => intro x p h; exact ⟨p, h⟩
        | cons f c ih =>
          intro x p h
          obtain ⟨d, r, s, k, o⟩ := f
          obtain ⟨p', h'⟩ := ih _ p h
          exact ⟨_, (rep_nd2.mp h').2.2.2.2.2.2.1⟩
      obtain ⟨p', h'⟩ := this cb _ _ (e1 ▸ hb)
      exact h'.2.1
    refine ⟨nI g, rfl, Or.inr ⟨g, kg, (tks bb ++ ckr cb) ++ ckr c, ?_, hgt, hg60, rfl, hkg⟩⟩
    rw [hl2, hkb]; simp
/-- the model's rising: the head of what is left -/
theorem bes_first {F : Nat} (hF : 100 ≤ F) {τ : Tau} {t : Gt} (hI : Inv τ t) : fX9_besideOf F (flat τ) (-1) 0 = some ((tks t).headD (-1)) := by
  obtain ⟨r, e1, e2⟩ := bes_up_ok hF hI (-1)
  rw [e1, minS_uniq e2 (minS_first hI.2.2.2.2.1 hI.2.2.2.2.2.1)]
theorem bes_next {F : Nat} (hF : 100 ≤ F) {τ : Tau} {t : Gt} (hI : Inv τ t) {k : Int32} {l1 l2 : List Int32} (hl : tks t = l1 ++ k :: l2) : fX9_besideOf F (flat τ) k 0 = some (l2.headD (-1)) := by
  obtain ⟨r, e1, e2⟩ := bes_up_ok hF hI k
  have hs := hI.2.2.2.2.1
  rw [hl] at hs e2
  rw [e1, minS_uniq e2 (minS_next hs)]
/-- the greatest -/
theorem great_ok {F : Nat} {τ : Tau} : ∀ (t : Gt) (p : Int32) (i n : Nat), rep τ t p → t ≠ .leaf → i + (tsl t).length ≤ 60 → (tsl t).length < n →
    ∃ g kg l, g ∈ tsl t ∧ tks t = l ++ [kg] ∧ τ 0 g = kg ∧ fX4_endOf_5 F τ n 0 (trt t) (nI i) = some (nI g)
  | .leaf, _, _, _, _, h, _, _ => absurd rfl h
  | .inner r s k a b, p, i, n, hr, _, hi, hn => by
    obtain ⟨n, rfl⟩ : ∃ z, n = z + 1 := ⟨n - 1, by omega⟩
    obtain ⟨h1, h2, h3, h4, h5, h6, h7, h8⟩ := hr
    simp only [tsl, List.length_append, List.length_cons] at hi hn
    have hC : fX4_endOf_5 F τ (n + 1) 0 (nI s) (nI i) = if trt b = -1 then some (nI s) else fX4_endOf_5 F τ n 0 (trt b) (nI (i + 1)) := by
      rw [fX4_endOf_5, if_neg (n60le (by omega)), cg_child00 h1, h5, Option.bind_some, Option.bind_some, nI_1]
    rcases gt_cases b with hb | ⟨r2, s2, k2, a2, b2, hb⟩
    · subst hb
      exact ⟨s, k, tks a, by simp [tsl], by simp [tks], h2, hC⟩
    · have hne : b ≠ .leaf := by rw [hb]; intro e; cases e
      obtain ⟨g, kg, l, e1, e2, e3, e4⟩ := great_ok (F := F) b (nI s) (i + 1) n h8 hne (by omega) (by omega)
      refine ⟨g, kg, tks a ++ k :: l, by simp [tsl, e1], by simp [tks, e2], e3, ?_⟩
      show fX4_endOf_5 F τ (n + 1) 0 (nI s) (nI i) = _
      rw [hC, if_neg (fun e => hne ((trt_m1 h8).mp e)), e4]
