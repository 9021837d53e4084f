/-! ===== join ===== -/
theorem ix_im (i s : Nat) : (368 : Int32) * nI i + (6 : Int32) * nI s = nI (368 * i + 6 * s) := by rw [show (368 : Int32) = nI 368 from rfl, show (6 : Int32) = nI 6 from rfl, nI_mul, nI_mul, nI_add]
theorem nxt_img {F : Nat} {τ : Tau} {im : Nat → Int32} {i : Nat} (hi : i < 2) (him : ∀ k, k < 368 → im (368 * i + k) = flat τ k) (v : Int32) : ∀ (j s n : Nat) (best : Int32), s + j = 60 → j < n → ((best = -1 ∧ ∀ q, q < s → ¬ v < τ 0 q) ∨ ∃ b, b < s ∧ best = nI b ∧ v < τ 0 b ∧ ∀ q, q < s → v < τ 0 q → τ 0 b ≤ τ 0 q) → ∃ y, fX9_nextInImage_5 F im n (nI i) v best (nI s) = some y ∧ ((y = -1 ∧ ∀ q, q < 60 → ¬ v < τ 0 q) ∨ ∃ b, b < 60 ∧ y = nI b ∧ v < τ 0 b ∧ ∀ q, q < 60 → v < τ 0 q → τ 0 b ≤ τ 0 q)
  | 0, s, n, best, hs, hn, hb => by
    obtain ⟨n, rfl⟩ : ∃ z, n = z + 1 := ⟨n - 1, by omega⟩
    obtain rfl : s = 60 := by omega
    have h60 : (60 : Int32) ≤ nI 60 := by decide
    exact ⟨best, by rw [fX9_nextInImage_5, if_pos h60], hb⟩
  | j + 1, s, n, best, hs, hn, hb => by
    obtain ⟨n, rfl⟩ : ∃ z, n = z + 1 := ⟨n - 1, by omega⟩
    have s60 : s < 60 := by omega
    have hval : ∀ q, q < 60 → im (368 * i + 6 * q) = τ 0 q := fun q hq => by
      rw [him (6 * q) (by omega)]
      exact flat_lo (τ := τ) (c := 0) (s := q) (by omega) hq
    rw [fX9_nextInImage_5, if_neg (n60le s60), ix_im, if_neg (nI_nin (by omega) (by omega)), nI_clamp (by omega), hval s s60]
    unfold fX9_nextInImage_65 fX9_nextInImage_61 fX9_nextInImage_66
    rw [if_pos rfl, if_neg i10, nI_1]
    by_cases hv : τ 0 s ≤ v
    · rw [if_pos hv]
      refine nxt_img hi him v j (s + 1) n best (by omega) (by omega) ?_
      rcases hb with ⟨e, h⟩ | ⟨b, b1, b2, b3, b4⟩
      · refine Or.inl ⟨e, fun q hq => ?_⟩
        by_cases hqs : q = s
        · subst hqs; exact Int32.not_lt.mpr hv
        · exact h q (by omega)
      · refine Or.inr ⟨b, by omega, b2, b3, fun q hq hvq => ?_⟩
        by_cases hqs : q = s
        · subst hqs; exact absurd hvq (Int32.not_lt.mpr hv)
        · exact b4 q (by omega) hvq
    · rw [if_neg hv]
      have hvs := i32_not_le.mp hv
      rcases hb with ⟨e, h⟩ | ⟨b, b1, b2, b3, b4⟩
      · rw [if_pos e]
        refine nxt_img hi him v j (s + 1) n (nI s) (by omega) (by omega) (Or.inr ⟨s, by omega, rfl, hvs, fun q hq hvq => ?_⟩)
        by_cases hqs : q = s
        · subst hqs; exact Int32.le_refl _
        · exact absurd hvq (h q (by omega))
      · have b60 : b < 60 := by omega
        rw [b2, if_neg (nI_m1 b (by omega)), ix_im, if_neg (nI_nin (by omega) (by omega)), nI_clamp (by omega), hval b b60]
        by_cases hle : τ 0 b ≤ τ 0 s
        · rw [if_pos hle]
          refine nxt_img hi him v j (s + 1) n (nI b) (by omega) (by omega) (Or.inr ⟨b, by omega, rfl, b3, fun q hq hvq => ?_⟩)
          by_cases hqs : q = s
          · subst hqs; exact hle
          · exact b4 q (by omega) hvq
        · rw [if_neg hle]
          refine nxt_img hi him v j (s + 1) n (nI s) (by omega) (by omega) (Or.inr ⟨s, by omega, rfl, hvs, fun q hq hvq => ?_⟩)
          by_cases hqs : q = s
          · subst hqs; exact Int32.le_refl _
          · exact Int32.le_trans (Int32.le_of_lt (i32_not_le.mp hle)) (b4 q (by omega) hvq)
theorem nxt_pos {F : Nat} (hF : 100 ≤ F) {τ : Tau} {t : Gt} (hI : Inv τ t) {im : Nat → Int32} {i : Nat} (hi : i < 2) (him : ∀ k, k < 368 → im (368 * i + k) = flat τ k) {v : Int32} (hv : -1 ≤ v) {l1 l2 : List Int32} (ht : tks t = l1 ++ l2) (h1 : ∀ x ∈ l1, x ≤ v) (h2 : ∀ x ∈ l2, v < x) : ∃ y, fX9_nextInImage F im (nI i) v = some y ∧ pos τ t l2 y := by
  obtain ⟨y, e1, e2⟩ := nxt_img (F := F) hi him v 60 0 F (-1) (by omega) (by omega) (Or.inl ⟨rfl, fun q hq => by omega⟩)
  rw [nI_0] at e1
  refine ⟨y, e1, ?_⟩
  have hmem : ∀ q, q < 60 → v < τ 0 q → q ∈ tsl t ∧ τ 0 q ∈ l2 := fun q q60 hq => by
    have hqt : q ∈ tsl t := Classical.byContradiction fun h => by
      rw [hI.2.2.2.2.2.2.1 q q60 h] at hq
      exact absurd hq (Int32.not_lt.mpr hv)
    have hk := key_mem hI.1 hqt
    rw [ht] at hk
    rcases List.mem_append.mp hk with z | z
    · exact absurd hq (Int32.not_lt.mpr (h1 _ z))
    · exact ⟨hqt, z⟩
  cases l2 with
  | nil =>
    rcases e2 with ⟨e, -⟩ | ⟨b, b1, b2, b3, b4⟩
    · exact Or.inl ⟨rfl, e⟩
    · have := (hmem b b1 b3).2; cases this
  | cons x l =>
    obtain ⟨s, s1, s4⟩ := mem_key hI.1 (show x ∈ tks t by rw [ht]; simp)
    have s60 := rep_lt hI.1 s s1
    have hvs : v < τ 0 s := by rw [s4]; exact h2 x (by simp)
    rcases e2 with ⟨e, h⟩ | ⟨b, b1, b2, b3, b4⟩
    · exact absurd hvs (h s s60)
    · have hb := (hmem b b1 b3).2
      have hle := b4 s s60 hvs
      rw [s4] at hle
      have hbx : τ 0 b = x := by
        rcases List.mem_cons.mp hb with z | z
        · exact z
        · have hsort := hI.2.2.2.2.1
          rw [ht] at hsort
          have := (List.pairwise_cons.mp (pw_app hsort).2.1).1 _ z
          exact absurd this (Int32.not_lt.mpr hle)
      exact Or.inr ⟨b, x, l, rfl, (hmem b b1 b3).1, b1, b2, hbx⟩
theorem skip_tr {F : Nat} (hF : 100 ≤ F) {g : Int32} {j : Nat} {t0 : Gt} : ∀ (l1 l0 l2 : List Int32) (n : Nat) (y : Int32) (σ : Sig), Inv (σ j) t0 → tks t0 = l0 ++ (l1 ++ l2) → pos (σ j) t0 (l1 ++ l2) y → (∀ x ∈ l1, x ≤ g) → ∃ y', pos (σ j) t0 l2 y' ∧ fX8_addRising_12 F j (n + l1.length) σ g y (nI l0.length) = fX8_addRising_12 F j n σ g y' (nI (l0.length + l1.length))
  | [], l0, l2, n, y, σ, h0, ht, hp, hg => ⟨y, hp, rfl⟩
  | x :: l1, l0, l2, n, y, σ, h0, ht, hp, hg => by
    have hlen : (tsl t0).length = l0.length + (l1.length + 1 + l2.length) := by rw [← tks_len, ht]; simp; omega
    have h60 := h0.2.2.2.2.2.2.2.2.2
    obtain ⟨s, s1, s60, s3, s4⟩ : ∃ s, s ∈ tsl t0 ∧ s < 60 ∧ y = nI s ∧ σ j 0 s = x := by
      rcases hp with ⟨h, -⟩ | ⟨s, k', l', e1, e2, e3, e4, e5⟩
      · cases h
      · obtain ⟨rfl, rfl⟩ := List.cons.inj e1; exact ⟨s, e2, e3, e4, e5⟩
    obtain ⟨y1, n1, n2⟩ := rise_next hF h0 s1 s4 (l1 := l0) (l2 := l1 ++ l2) (by rw [ht]; simp)
    obtain ⟨y', q1, q2⟩ := skip_tr hF l1 (l0 ++ [x]) l2 n y1 σ h0 (by rw [ht]; simp) n2 (fun z hz => hg z (by simp [hz]))
    refine ⟨y', q1, ?_⟩
    rw [List.length_cons, show n + (l1.length + 1) = (n + l1.length) + 1 by omega, fX8_addRising_12, if_neg (show ¬ (60 : Int32) ≤ nI l0.length from n60le (by omega)), s3, if_neg (nI_m1 s (by omega)), cg_key s60, Option.bind_some, s4, if_pos (hg x (by simp))]
    unfold fX8_addRising_57
    rw [n1, Option.bind_some, nI_1]
    rw [List.length_append, List.length_singleton] at q2
    rw [show l0.length + (l1.length + 1) = l0.length + 1 + l1.length by omega]
    exact q2
theorem join_tr {F : Nat} (hF : 100 ≤ F) (un : Int32) (past kept : Nat → Int32) {g : Int32} {i : Nat} (hi : i < 2) {im : Nat → Int32} {t0 : Gt} (b0 : Nat) : ∀ (l2 l1 : List Int32) (n m : Nat) (y : Int32) (σ : Sig) (t : Gt) (a : Nat), Inv (σ (14 + i)) t0 → (∀ k, k < 368 → im (368 * i + k) = flat (σ (14 + i)) k) → tks t0 = l1 ++ l2 → pos (σ (14 + i)) t0 l2 y → Inv (σ 0) t → (∀ k ∈ tks t, ∀ z ∈ l2, k < z) → (∀ z ∈ l2, g < z) → (tsl t).length = b0 + a → l2.length < n → l2.length < m →
    ∃ τ' t' a', fX8_addRising_12 F (14 + i) n σ g y (nI l1.length) = some (u3 σ 0 τ') ∧ fX9_join_44 F im kept m un (flat (σ 0)) past (nI i) (nI a) y = some (nI a', un, flat τ', past) ∧ Inv τ' t' ∧ (tsl t').length = b0 + a'
  | [], l1, n, m, y, σ, t, a, h0, him, ht, hp, hI, hk, hg, hl, hn, hm => by
    obtain ⟨n, rfl⟩ : ∃ z, n = z + 1 := ⟨n - 1, by omega⟩
    obtain ⟨m, rfl⟩ : ∃ z, m = z + 1 := ⟨m - 1, by omega⟩
    have hy : y = -1 := by
      rcases hp with ⟨-, h⟩ | ⟨s, k', l', e1, -⟩
      · exact h
      · cases e1
    refine ⟨σ 0, t, a, ?_, ?_, hI, hl⟩
    · rw [u3_self, fX8_addRising_12, if_pos hy]
      by_cases h : (60 : Int32) ≤ nI l1.length
      · rw [if_pos h]
      · rw [if_neg h]
    · rw [fX9_join_44, if_pos hy]
  | x :: l, l1, n, m, y, σ, t, a, h0, him, ht, hp, hI, hk, hg, hl, hn, hm => by
    obtain ⟨n, rfl⟩ : ∃ z, n = z + 1 := ⟨n - 1, by omega⟩
    obtain ⟨m, rfl⟩ : ∃ z, m = z + 1 := ⟨m - 1, by omega⟩
    simp only [List.length_cons] at hn hm
    have hlen : (tsl t0).length = l1.length + (l.length + 1) := by rw [← tks_len, ht]; simp
    have h60 := h0.2.2.2.2.2.2.2.2.2
    have hx := h0.2.2.2.2.2.1 x (by rw [ht]; simp)
    have hsort := h0.2.2.2.2.1
    rw [ht] at hsort
    obtain ⟨p1, p2, p3⟩ := pw_app hsort
    obtain ⟨p4, p5⟩ := List.pairwise_cons.mp p2
    obtain ⟨s, s1, s60, s3, s4⟩ : ∃ s, s ∈ tsl t0 ∧ s < 60 ∧ y = nI s ∧ σ (14 + i) 0 s = x := by
      rcases hp with ⟨h, -⟩ | ⟨s, k', l', e1, e2, e3, e4, e5⟩
      · cases h
      · obtain ⟨rfl, rfl⟩ := List.cons.inj e1; exact ⟨s, e2, e3, e4, e5⟩
    have hnew : x ∉ tks t := fun e => Int32.lt_irrefl (hk x e x (by simp))
    have hw0 := h0.2.2.2.2.2.2.2.1 s s60
    obtain ⟨y', n1, n2⟩ := rise_next hF h0 s1 s4 ht
    have hx1 : (-1 : Int32) ≤ x := Int32.le_trans (by decide) hx.1
    have ht2 : tks t0 = (l1 ++ [x]) ++ l := by rw [ht]; simp
    obtain ⟨y2, m1, m2⟩ := nxt_pos hF h0 hi him hx1 ht2 (fun z hz => by
      rcases List.mem_append.mp hz with z1 | z1
      · exact Int32.le_of_lt (p3 z z1 x (by simp))
      · rw [List.mem_singleton.mp z1]; exact Int32.le_refl _) p4
    have hyy : y2 = y' := by
      rcases m2 with ⟨e1, e2⟩ | ⟨q, k', l', e1, e2, e3, e4, e5⟩ <;> rcases n2 with ⟨e1', e2'⟩ | ⟨q', k'', l'', e1', e2', e3', e4', e5'⟩
      · rw [e2, e2']
      · rw [e1] at e1'; cases e1'
      · rw [e1] at e1'; cases e1'
      · rw [e1] at e1'
        obtain ⟨rfl, -⟩ := List.cons.inj e1'
        rw [e4, e4', slot_uniq h0 e2 e2' (e5.trans e5'.symm)]
    subst hyy
    have hk0 : im (368 * i + 6 * s) = x := by
      rw [him (6 * s) (by omega), ← s4]
      exact flat_lo (τ := σ (14 + i)) (c := 0) (s := s) (by omega) s60
    have hk1 : im (368 * i + 6 * s + 1) = σ (14 + i) 1 s := by
      rw [Nat.add_assoc, him (6 * s + 1) (by omega)]
      exact flat_lo (τ := σ (14 + i)) (c := 1) (s := s) (by omega) s60
    obtain ⟨j1, j2⟩ := isKey_val F x
    have hthere : fX9_isThere F (flat (σ 0)) x = some 0 := by
      rcases isThere_val hF hI x with ⟨c1, c2, c3⟩ | ⟨c1, c2, c3⟩
      · exact c3
      · exact absurd c1 hnew
    rw [fX8_addRising_12, if_neg (show ¬ (60 : Int32) ≤ nI l1.length from n60le (by omega)), s3, if_neg (nI_m1 s (by omega)), cg_key s60, Option.bind_some, s4, if_neg (i32_not_le.mpr (hg x (by simp)))]
    rw [fX9_join_44, if_neg (nI_m1 s (by omega)), ix_im, nI_1, if_neg (nI_nin (by omega) (by omega)), if_neg (nI_nin (by omega) (by omega)), nI_clamp (by omega), nI_clamp (by omega), hk0, hk1]
    unfold fX8_addRising_57 fX9_join_98
    rw [m1, Option.bind_some]
    have hC0 : ∀ q, fX9_comes F (flat (σ 0)) x (σ (14 + i) 1 s) = q → q = (if (60 : Int32) ≤ σ 0 6 1 then some (0, flat (σ 0)) else fX9_comes_29 F (flat (σ 0)) x (σ (14 + i) 1 s) 1) := by
      intro q hq
      rw [← hq]
      unfold fX9_comes
      rw [j2, Option.bind_some, if_pos hx, if_neg i10, hthere, Option.bind_some, if_pos rfl, mg_many, Option.bind_some]
      by_cases hr : (60 : Int32) ≤ σ 0 6 1
      · rw [if_pos hr, if_pos hr]; rfl
      · rw [if_neg hr, if_neg hr]
    rw [hC0 _ rfl]
    rcases room_val (F := F) hI with ⟨b1, b2, b3, b4⟩ | ⟨b1, b2, b3, b4⟩
    · rw [b2, Option.bind_some, if_pos rfl, if_pos b3, Option.bind_some, n1, Option.bind_some, nI_1]
      dsimp only
      rw [if_pos rfl, Int32.add_zero]
      obtain ⟨τ', t', a', q1, q2, q3, q4⟩ := join_tr hF un past kept hi b0 l (l1 ++ [x]) n m y2 σ t a h0 him ht2 m2 hI (fun k hk' z hz => hk k hk' z (by simp [hz])) (fun z hz => hg z (by simp [hz])) hl (by omega) (by omega)
      rw [List.length_append] at q1
      exact ⟨τ', t', a', q1, q2, q3, q4⟩
    · obtain ⟨τ1, t1, a1, a2, a3, u1', u2', a4, a5⟩ := add_ok hF hI hnew hx hw0 b1
      have σ0 : (u3 σ 0 τ1) 0 = τ1 := u3_at ..
      have σj : (u3 σ 0 τ1) (14 + i) = σ (14 + i) := u3_ne _ _ (by omega)
      rw [b2, Option.bind_some, if_neg i10, if_neg b3, cg_worth s60, Option.bind_some, a1, Option.bind_some, σj, n1, Option.bind_some, nI_1]
      have h29 : fX9_comes_29 F (flat (σ 0)) x (σ (14 + i) 1 s) 1 = some (1, flat τ1) := by
        unfold fX9_comes_29
        rw [if_neg i10, a2, Option.bind_some]; rfl
      rw [h29, Option.bind_some]
      dsimp only
      rw [if_neg i10, nI_1]
      obtain ⟨τ', t', a', q1, q2, q3, q4⟩ := join_tr hF un past kept hi b0 l (l1 ++ [x]) n m y2 (u3 σ 0 τ1) t1 (a + 1) (by rw [σj]; exact h0) (by rw [σj]; exact him) ht2 (by rw [σj]; exact m2) (by rw [σ0]; exact a3) (fun k hk' z hz => by
        rw [a5] at hk'
        rcases List.mem_append.mp hk' with c | c
        · exact hk k (by rw [a4]; simp [c]) z (by simp [hz])
        · rcases List.mem_cons.mp c with rfl | c
          · exact p4 z hz
          · exact hk k (by rw [a4]; simp [c]) z (by simp [hz])) (fun z hz => hg z (by simp [hz])) (by rw [← tks_len, a5]; rw [← tks_len, a4] at hl; simp at hl ⊢; omega) (by omega) (by omega)
      rw [u3_u3, List.length_append] at q1
      rw [σ0] at q2
      exact ⟨τ', t', a', q1, q2, q3, q4⟩
theorem greatest_ok {F : Nat} (hF : 100 ≤ F) {τ : Tau} {t : Gt} (hI : Inv τ t) : ∃ y g, fX4_greatestBelow F τ (τ 6 0) = some y ∧ fX4_keyOf F τ y = some g ∧ fX9_besideOf F (flat τ) 100000 1 = some g ∧ -1 ≤ g ∧ ∀ k ∈ tks t, k ≤ g := by
  obtain ⟨r, e1, e2⟩ := bes_dn_ok hF hI 100000
  have h60 := hI.2.2.2.2.2.2.2.2.2
  unfold fX4_greatestBelow fX4_endOf
  rw [hI.2.1, e1]
  rcases gt_cases t with h | ⟨r', s, k, a, b, h⟩
  · subst h
    have hr : r = -1 := by
      rcases e2 with ⟨e, -⟩ | ⟨e, -⟩
      · exact e
      · cases e
    obtain ⟨n, rfl⟩ : ∃ z, F = z + 1 := ⟨F - 1, by omega⟩
    refine ⟨-1, -1, ?_, cg_key0, by rw [hr], by decide, fun k hk => (by cases hk)⟩
    show (fX4_endOf_5 (n + 1) τ (n + 1) 0 (-1) 0).bind _ = _
    rw [fX4_endOf_5, if_neg (by decide), cg_childm, Option.bind_some, if_pos rfl, Option.bind_some]
  · have hne : t ≠ .leaf := by rw [h]; intro e; cases e
    obtain ⟨G, kG, l, g1, g2, g3, g4⟩ := great_ok (F := F) t (-1) 0 F hI.1 hne (by omega) (by omega)
    have g4' : fX4_endOf_5 F τ F 0 (trt t) 0 = some (nI G) := g4
    have G60 := rep_lt hI.1 G g1
    have hkG := hI.2.2.2.2.2.1 kG (by rw [g2]; simp)
    have hall : ∀ k ∈ tks t, k ≤ kG := fun k hk => by
      have hsort := hI.2.2.2.2.1
      rw [g2] at hk hsort
      rcases List.mem_append.mp hk with z | z
      · exact Int32.le_of_lt ((pw_app hsort).2.2 k z kG (by simp))
      · rw [List.mem_singleton.mp z]; exact Int32.le_refl _
    have hm : maxS (· ∈ tks t) 100000 kG := Or.inr ⟨by show kG ∈ tks t; rw [g2]; simp, Int32.lt_of_le_of_lt hkG.2 (by decide), fun k hk _ => hall k hk⟩
    refine ⟨nI G, kG, by rw [g4', Option.bind_some], by rw [cg_key G60, g3], by rw [maxS_uniq e2 hm], Int32.le_trans (by decide) hkG.1, hall⟩
theorem join_ok {F : Nat} (hF : 5000 ≤ F) {σ : Sig} {un sd : Int32} {now past im iseed kept : Nat → Int32} (h : Rel σ un sd now past im iseed kept) (x : Int32) : ∃ r σ' un' now' past', fX8_join F σ x = some (r, σ') ∧ fX9_join F un now past im kept x = some (r, un', now', past') ∧ Rel σ' un' sd now' past' im iseed kept := by
  obtain ⟨⟨t, hI⟩, rfl, hP, hR, hs, h0⟩ := id h
  have hF' : 100 ≤ F := by omega
  unfold fX8_join fX9_join
  rw [image_val, show (0 : Int64) = (0 : Int32).toInt64 from rfl, show (1 : Int64) = (1 : Int32).toInt64 from rfl, in_val, Option.bind_some, Option.bind_some]
  by_cases hx : 0 ≤ x ∧ x ≤ 1
  · obtain ⟨i, hi, rfl⟩ := image_ix hx
    have hin : ¬ (nI i < 0 ∨ 2 ≤ (nI i).toNatClampNeg) := nI_nin hi (by omega)
    have hin2 : ¬ (nI i < 0 ∨ 2 ≤ i) := fun z => z.elim (nI_pos (by omega)) (by omega)
    obtain ⟨z1, z2, z3⟩ := hR i hi
    rw [if_pos hx, if_neg i10, if_neg i10, if_neg hin, if_neg hin, nI_clamp (by omega), ← z1]
    by_cases hk0 : kept i = 0
    · rw [if_pos hk0, if_pos hk0]
      exact ⟨_, σ, un, _, past, rfl, rfl, h⟩
    · obtain ⟨⟨t2, w1⟩, w2, w3, w4⟩ := z3 hk0
      obtain ⟨σ1, un1, past1, r1, r2, r3, r4, r5⟩ := remember_ok hF hP hI
      have σ10 : σ1 0 = σ 0 := r4 0 (by omega)
      have σ1i : σ1 (14 + i) = σ (14 + i) := r4 (14 + i) (by omega)
      obtain ⟨y, g, g1, g2, g3, g4, g5⟩ := greatest_ok hF' hI
      rw [if_neg hk0, if_neg hk0, r1, r2, Option.bind_some, Option.bind_some, σ10, g1, Option.bind_some, g2, Option.bind_some, if_neg hin2, g3, Option.bind_some]
      obtain ⟨l1, l2, ht, a1, a2⟩ := sorted_cut (tks t2) g w1.2.2.2.2.1
      obtain ⟨y2, m1, m2⟩ := nxt_pos (F := F) hF' w1 hi w2 g4 ht a1 a2
      obtain ⟨yf, f1, f2⟩ := rise_first (F := F) hF' w1
      have h60 := w1.2.2.2.2.2.2.2.2.2
      have hlt : (tsl t2).length = l1.length + l2.length := by rw [← tks_len, ht]; simp
      rw [ht] at f2
      obtain ⟨y3, p1, p2⟩ := skip_tr (F := F) hF' (g := g) (j := 14 + i) (t0 := t2) l1 [] l2 (F - l1.length) yf σ1 (by rw [σ1i]; exact w1) (by rw [ht]; rfl) (by rw [σ1i]; exact f2) a1
      rw [show F - l1.length + l1.length = F by omega, List.length_nil, Nat.zero_add, nI_0] at p2
      rw [σ1i] at p1
      have hyy : y2 = y3 := by
        rcases m2 with ⟨e1, e2⟩ | ⟨q, k', l', e1, e2, e3, e4, e5⟩ <;> rcases p1 with ⟨e1', e2'⟩ | ⟨q', k'', l'', e1', e2', e3', e4', e5'⟩
        · rw [e2, e2']
        · rw [e1] at e1'; cases e1'
        · rw [e1] at e1'; cases e1'
        · rw [e1] at e1'
          obtain ⟨rfl, -⟩ := List.cons.inj e1'
          rw [e4, e4', slot_uniq w1 e2 e2' (e5.trans e5'.symm)]
      subst hyy
      obtain ⟨τ', t', a', q1, q2, q3, q4⟩ := join_tr (F := F) hF' un1 past1 kept (g := g) hi (im := im) (t0 := t2) (tsl t).length l2 l1 (F - l1.length) F y2 σ1 t 0 (by rw [σ1i]; exact w1) (by rw [σ1i]; exact w2) ht (by rw [σ1i]; exact m2) (by rw [σ10]; exact hI) (fun k hk z hz => Int32.lt_of_le_of_lt (g5 k hk) (a2 z hz)) a2 rfl (by omega) (by omega)
      rw [nI_0, σ10] at q2
      unfold fX8_addRising
      rw [σ1i, f1, Option.bind_some, p2, q1, Option.bind_some, u3_at, m1, Option.bind_some, q2, q3.2.2.2.2.2.2.2.2.1, q4, hI.2.2.2.2.2.2.2.2.1, nI_diff]
      refine ⟨_, _, _, _, _, rfl, rfl, ?_⟩
      have := rel0 (σ := σ) (σ1 := σ1) (σ2 := u3 σ1 0 τ') (t' := t') r3 r4 r5 hR hs h0 (fun i hi => u3_ne _ _ (by omega)) (by rw [u3_at]; exact q3)
      rw [u3_at] at this
      exact this
  · rw [if_neg hx, if_pos rfl, if_pos rfl]
    exact ⟨_, σ, un, _, past, rfl, rfl, h⟩
