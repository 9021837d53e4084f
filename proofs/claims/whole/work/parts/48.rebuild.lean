/-! ===== rebuild ===== -/
theorem fill_tr {F : Nat} : ∀ (j i n m : Nat) (τ : Tau), i + j = 60 → j < n → j < m → ∃ τ', fJ7_fill_53178_5 F 0 n τ (-1) (nI i) 60 = some τ' ∧ fX9_goesEmpty_2 F m (flat τ) (nI i) = some (flat (u2 (u2 τ' 6 0 (-1)) 6 1 0)) ∧ (∀ k, i ≤ k → k < 60 → τ' 0 k = -1) ∧ (∀ k, k < i → τ' 0 k = τ 0 k) ∧ ∀ c, c ≠ 0 → τ' c = τ c
  | 0, i, n, m, τ, hi, hn, hm => by
    obtain ⟨n, rfl⟩ : ∃ z, n = z + 1 := ⟨n - 1, by omega⟩
    obtain ⟨m, rfl⟩ : ∃ z, m = z + 1 := ⟨m - 1, by omega⟩
    obtain rfl : i = 60 := by omega
    refine ⟨τ, ?_, ?_, fun k h1 h2 => by omega, fun _ _ => rfl, fun _ _ => rfl⟩
    · rw [fJ7_fill_53178_5, if_pos (by decide)]
    · rw [fX9_goesEmpty_2, if_pos (by decide), if_neg (by decide), if_neg (by decide)]
      have e1 : upd (flat τ) (360 + 0) (-1) = flat (u2 τ 6 0 (-1)) := fl_up6 (by omega) _
      have e2 : upd (flat (u2 τ 6 0 (-1))) (360 + 1) 0 = flat (u2 (u2 τ 6 0 (-1)) 6 1 0) := fl_up6 (by omega) _
      rw [show ((360 : Int32).toNatClampNeg) = 360 + 0 from rfl, show ((361 : Int32).toNatClampNeg) = 360 + 1 from rfl, e1, e2]
  | j + 1, i, n, m, τ, hi, hn, hm => by
    obtain ⟨n, rfl⟩ : ∃ z, n = z + 1 := ⟨n - 1, by omega⟩
    obtain ⟨m, rfl⟩ : ∃ z, m = z + 1 := ⟨m - 1, by omega⟩
    have i60 : i < 60 := by omega
    have hl : fX9_lays F (flat τ) (nI i) (0 : Int32) (-1) = some (flat (u2 τ 0 i (-1))) := mg_lays (F := F) (τ := τ) 0 i60 (by omega) (-1)
    obtain ⟨τ', a1, a2, a3, a4, a5⟩ := fill_tr (F := F) j (i + 1) n m (u2 τ 0 i (-1)) (by omega) (by omega) (by omega)
    refine ⟨τ', ?_, ?_, fun k h1 h2 => ?_, fun k h => ?_, fun c hc => ?_⟩
    · rw [fJ7_fill_53178_5, if_neg (n60le i60), if_neg (nI_nin i60 (by omega)), nI_cl i60, nI_1]; exact a1
    · rw [fX9_goesEmpty_2, if_neg (n60le i60), hl, Option.bind_some, nI_1]; exact a2
    · by_cases e : k = i
      · subst e; rw [a4 k (by omega), u2_at]
      · exact a3 k (by omega) h2
    · rw [a4 k (by omega), u2_ne _ _ (Or.inr (by omega))]
    · rw [a5 c hc, u2_row _ _ hc]
theorem empty_ok {F : Nat} (hF : 100 ≤ F) {τ : Tau} (hw : ∀ s, s < 60 → 0 ≤ τ 1 s) : ∃ τ', fX4_clear F τ = some τ' ∧ fX9_goesEmpty F (flat τ) = some (flat τ') ∧ Inv τ' .leaf := by
  obtain ⟨τ', a1, a2, a3, a4, a5⟩ := fill_tr (F := F) 60 0 F F τ (by omega) (by omega) (by omega)
  rw [nI_0] at a1 a2
  refine ⟨_, ?_, a2, trivial, ?_, List.nodup_nil, trivial, List.Pairwise.nil, fun k hk => (by cases hk), fun s s60 _ => ?_, fun s s60 => ?_, ?_, by simp [tsl]⟩
  · unfold fX4_clear fJ7_fill_53178
    rw [a1, Option.bind_some]
  · rw [u2_ne _ _ (Or.inr (by omega)), u2_at]; rfl
  · rw [u2_ne _ _ (Or.inl (by omega)), u2_ne _ _ (Or.inl (by omega))]; exact a3 s (by omega) s60
  · rw [u2_ne _ _ (Or.inl (by omega)), u2_ne _ _ (Or.inl (by omega)), a5 1 (by omega)]; exact hw s s60
  · rw [u2_at]; rfl
def gd (τ : Tau) (t : Gt) (L : List Int32) (ks ws : Nat → Int32) : Prop := ∀ j k, L[j]? = some k → ks j = k ∧ ∃ s ∈ tsl t, τ 0 s = k ∧ ws j = τ 1 s
theorem coll {F : Nat} (hF : 100 ≤ F) {τ : Tau} {t : Gt} (hI : Inv τ t) (un : Int32) (past o nu ab pi : Nat → Int32) : ∀ (l2 l1 : List Int32) (n : Nat) (ks ws : Nat → Int32), tks t = l1 ++ l2 → l2.length < n → gd τ t l1 ks ws → ∃ ks' ws', fX9_rebuild_18 F n un (flat τ) past o nu ab pi ks ws (nI (tsl t).length) (l2.headD (-1)) (nI l1.length) = (fX9_goesEmpty F (flat τ)).bind (fun q5 => fX9_rebuild_65 F F un q5 past o nu ab pi ks' ws' (nI (tsl t).length) 0) ∧ gd τ t (tks t) ks' ws'
  | [], l1, n, ks, ws, ht, hn, hg => by
    obtain ⟨n, rfl⟩ : ∃ z, n = z + 1 := ⟨n - 1, by omega⟩
    have hlen : (tsl t).length = l1.length := by rw [← tks_len, ht]; simp
    refine ⟨ks, ws, ?_, by rw [ht, List.append_nil]; exact hg⟩
    rw [fX9_rebuild_18, hlen, if_pos (Int32.le_refl _)]
  | x :: l, l1, n, ks, ws, ht, hn, hg => by
    obtain ⟨n, rfl⟩ : ∃ z, n = z + 1 := ⟨n - 1, by omega⟩
    simp only [List.length_cons] at hn
    have hlen : (tsl t).length = l1.length + (l.length + 1) := by rw [← tks_len, ht]; simp
    have h60 := hI.2.2.2.2.2.2.2.2.2
    have hxm : x ∈ tks t := by rw [ht]; simp
    obtain ⟨s, s1, s4⟩ := mem_key hI.1 hxm
    have s60 := rep_lt hI.1 s s1
    obtain ⟨-, f2⟩ := find_slot hF hI s1
    rw [s4] at f2
    have hin : ¬ (nI l1.length < 0 ∨ 60 ≤ (nI l1.length).toNatClampNeg) := nI_nin (by omega) (by omega)
    obtain ⟨ks', ws', q1, q2⟩ := coll hF hI un past o nu ab pi l (l1 ++ [x]) n (upd ks l1.length x) (upd ws l1.length (τ 1 s)) (by rw [ht]; simp) (by omega) (fun j k hj => by
      by_cases e : j = l1.length
      · subst e
        rw [List.getElem?_append_right (by omega), Nat.sub_self] at hj
        obtain rfl : x = k := Option.some.inj hj
        rw [up_at, up_at]
        exact ⟨rfl, s, s1, s4, rfl⟩
      · by_cases hlt : j < l1.length
        · rw [List.getElem?_append_left hlt] at hj
          rw [up_ne e, up_ne e]
          exact hg j k hj
        · rw [List.getElem?_eq_none (by simp; omega)] at hj
          cases hj)
    refine ⟨ks', ws', ?_, q2⟩
    rw [fX9_rebuild_18, if_neg (nI_ge (by omega) (by omega)), if_neg hin, show ((x :: l).headD (-1)) = x from rfl, f2, Option.bind_some, mg_worth s60, Option.bind_some, if_neg hin, bes_next hF hI ht, Option.bind_some, nI_cl (by omega : l1.length < 60), nI_1]
    rw [List.length_append] at q1
    exact q1
theorem reb_tr {F : Nat} (hF : 100 ≤ F) (un : Int32) (past o nu ab pi ks ws : Nat → Int32) {t0 : Gt} : ∀ (l2 l1 : List Int32) (n m : Nat) (y : Int32) (σ : Sig) (t : Gt), Inv (σ 1) t0 → gd (σ 1) t0 (tks t0) ks ws → tks t0 = l1 ++ l2 → pos (σ 1) t0 l2 y → Inv (σ 0) t → (∀ k ∈ tks t, k ∈ l1) → (tsl t).length = l1.length → l2.length < n → l2.length < m →
    ∃ τ' t', fX8_addRising_12 F 1 n σ (-1) y (nI l1.length) = some (u3 σ 0 τ') ∧ fX9_rebuild_65 F m un (flat (σ 0)) past o nu ab pi ks ws (nI (tsl t0).length) (nI l1.length) = (fX9_depth F (flat τ') o nu ab pi).bind (fun q12 => some (q12.1, un, flat τ', past, q12.2.1, q12.2.2.1, q12.2.2.2.1, q12.2.2.2.2, ks, ws)) ∧ Inv τ' t'
  | [], l1, n, m, y, σ, t, h0, hg, ht, hp, hI, hk, hl, hn, hm => by
    obtain ⟨n, rfl⟩ : ∃ z, n = z + 1 := ⟨n - 1, by omega⟩
    obtain ⟨m, rfl⟩ : ∃ z, m = z + 1 := ⟨m - 1, by omega⟩
    have hlen : (tsl t0).length = l1.length := by rw [← tks_len, ht]; simp
    have hy : y = -1 := by
      rcases hp with ⟨-, h⟩ | ⟨s, k', l', e1, -⟩
      · exact h
      · cases e1
    refine ⟨σ 0, t, ?_, ?_, hI⟩
    · rw [u3_self, fX8_addRising_12, if_pos hy]
      by_cases h : (60 : Int32) ≤ nI l1.length
      · rw [if_pos h]
      · rw [if_neg h]
    · rw [fX9_rebuild_65, hlen, if_pos (Int32.le_refl _)]
  | x :: l, l1, n, m, y, σ, t, h0, hg, ht, hp, hI, hk, hl, hn, hm => by
    obtain ⟨n, rfl⟩ : ∃ z, n = z + 1 := ⟨n - 1, by omega⟩
    obtain ⟨m, rfl⟩ : ∃ z, m = z + 1 := ⟨m - 1, by omega⟩
    simp only [List.length_cons] at hn hm
    have hlen : (tsl t0).length = l1.length + (l.length + 1) := by rw [← tks_len, ht]; simp
    have h60 := h0.2.2.2.2.2.2.2.2.2
    have hx := h0.2.2.2.2.2.1 x (by rw [ht]; simp)
    have hsort := h0.2.2.2.2.1
    rw [ht] at hsort
    obtain ⟨s, s1, s60, s3, s4⟩ : ∃ s, s ∈ tsl t0 ∧ s < 60 ∧ y = nI s ∧ σ 1 0 s = x := by
      rcases hp with ⟨h, -⟩ | ⟨s, k', l', e1, e2, e3, e4, e5⟩
      · cases h
      · obtain ⟨rfl, rfl⟩ := List.cons.inj e1; exact ⟨s, e2, e3, e4, e5⟩
    obtain ⟨g1, s', s1', s4', g2⟩ := hg l1.length x (by rw [ht, List.getElem?_append_right (by omega), Nat.sub_self]; rfl)
    have hss : s' = s := slot_uniq h0 s1' s1 (s4'.trans s4.symm)
    subst hss
    have hnew : x ∉ tks t := fun e => by
      have := (pw_app hsort).2.2 x (hk x e) x (by simp)
      exact Int32.lt_irrefl this
    have hw0 := h0.2.2.2.2.2.2.2.1 s' s60
    obtain ⟨τ1, t1, a1, a2, a3, m1, m2, a4, a5⟩ := add_ok hF hI hnew hx hw0 (by omega)
    obtain ⟨y', n1, n2⟩ := rise_next hF h0 s1 s4 ht
    have σ1 : (u3 σ 0 τ1) 1 = σ 1 := u3_ne _ _ (by omega)
    have σ0 : (u3 σ 0 τ1) 0 = τ1 := u3_at ..
    have hroom : fX8_hasRoom F σ = some 1 := by
      rcases room_val (F := F) hI with ⟨b1, b2, b3, b4⟩ | ⟨b1, b2, b3, b4⟩
      · omega
      · exact b2
    have hin : ¬ (nI l1.length < 0 ∨ 60 ≤ (nI l1.length).toNatClampNeg) := nI_nin (by omega) (by omega)
    have hin2 : ¬ (nI l1.length < 0 ∨ 60 ≤ l1.length) := fun z => z.elim (nI_pos (by omega)) (by omega)
    obtain ⟨τ', t', q1, q2, q3⟩ := reb_tr hF un past o nu ab pi ks ws l (l1 ++ [x]) n m y' (u3 σ 0 τ1) t1 (by rw [σ1]; exact h0) (by rw [σ1]; exact hg) (by rw [ht]; simp) (by rw [σ1]; exact n2) (by rw [σ0]; exact a3) (fun k hk' => by
      rw [a5] at hk'
      rcases List.mem_append.mp hk' with z | z
      · have := hk k (by rw [a4]; simp [z]); simp [this]
      · rcases List.mem_cons.mp z with rfl | z
        · simp
        · have := hk k (by rw [a4]; simp [z]); simp [this]) (by rw [← tks_len, a5]; rw [← tks_len, a4] at hl; simp at hl ⊢; omega) (by omega) (by omega)
    rw [u3_u3, List.length_append] at q1
    rw [σ0, List.length_append] at q2
    refine ⟨τ', t', ?_, ?_, q3⟩
    · rw [fX8_addRising_12, if_neg (show ¬ (60 : Int32) ≤ nI l1.length from n60le (by omega)), s3, if_neg (nI_m1 s' (by omega)), cg_key s60, Option.bind_some, s4, if_neg (show ¬ x ≤ -1 from fun e => absurd (Int32.le_trans hx.1 e) (by decide)), hroom, Option.bind_some, if_neg i10, Option.bind_some, cg_worth s60, Option.bind_some, a1, Option.bind_some]
      unfold fX8_addRising_57
      rw [σ1, n1, Option.bind_some, nI_1]
      exact q1
    · rw [fX9_rebuild_65, if_neg (nI_ge (by omega) (by omega)), if_neg hin, if_neg hin, nI_cl (by omega : l1.length < 60), g1, g2, a2, Option.bind_some, nI_1]
      exact q2
theorem rebuild_ok {F : Nat} (hF : 5000 ≤ F) {σ : Sig} {un sd : Int32} {now past im iseed kept : Nat → Int32} (h : Rel σ un sd now past im iseed kept) (o nu ab pi ks ws : Nat → Int32) : ∃ r σ' un' now' past' o' nu' ab' pi' ks' ws', fX8_rebuild F σ = some (r, σ') ∧ fX9_rebuild F un now past o nu ab pi ks ws = some (r, un', now', past', o', nu', ab', pi', ks', ws') ∧ Rel σ' un' sd now' past' im iseed kept := by
  obtain ⟨⟨t, hI⟩, rfl, hP, hR, hs, h0⟩ := id h
  have hF' : 100 ≤ F := by omega
  have h60 := hI.2.2.2.2.2.2.2.2.2
  have hkl := tks_len t
  obtain ⟨σ1, un1, past1, r1, r2, r3, r4, r5⟩ := remember_ok hF hP hI
  have σ10 : σ1 0 = σ 0 := r4 0 (by omega)
  obtain ⟨τ1, c1, c2⟩ := copy_ok F (σ1 1) (σ 0)
  obtain ⟨τ2, e1, e2, e3⟩ := empty_ok (F := F) hF' (τ := σ 0) hI.2.2.2.2.2.2.2.1
  obtain ⟨ks', ws', k1, k2⟩ := coll (F := F) hF' hI un1 past1 o nu ab pi (tks t) [] F ks ws rfl (by omega) (fun j k hj => by simp at hj)
  have hs0 : (u3 (u3 σ1 1 τ1) 0 τ2) 0 = τ2 := u3_at ..
  have hs1 : (u3 (u3 σ1 1 τ1) 0 τ2) 1 = τ1 := by rw [u3_ne _ _ (by omega), u3_at]
  have hI1 := hI.vd c2
  have k2' : gd τ1 t (tks t) ks' ws' := fun j k hj => by
    obtain ⟨z1, s, z2, z3, z4⟩ := k2 j k hj
    have s60 := rep_lt hI.1 s z2
    exact ⟨z1, s, z2, by rw [c2 0 s (Or.inl ⟨by omega, s60⟩)]; exact z3, by rw [c2 1 s (Or.inl ⟨by omega, s60⟩)]; exact z4⟩
  obtain ⟨y, y1, y2⟩ := rise_first hF' hI1
  obtain ⟨τ', t', q1, q2, q3⟩ := reb_tr (F := F) hF' un1 past1 o nu ab pi ks' ws' (t0 := t) (tks t) [] F F y (u3 (u3 σ1 1 τ1) 0 τ2) .leaf (by rw [hs1]; exact hI1) (by rw [hs1]; exact k2') rfl (by rw [hs1]; exact y2) (by rw [hs0]; exact e3) (fun k hk => (by cases hk)) rfl (by omega) (by omega)
  rw [hs0] at q2
  rw [u3_u3] at q1
  obtain ⟨r, o', nu', ab', pi', d1, d2⟩ := depth_ok hF' q3 o nu ab pi
  rw [d2, Option.bind_some] at q2
  refine ⟨r, u3 (u3 σ1 1 τ1) 0 τ', un1, flat τ', past1, o', nu', ab', pi', ks', ws', ?_, ?_, ?_⟩
  · unfold fX8_rebuild fX8_addRising
    have z1 : (u3 σ1 1 τ1) 0 = σ 0 := by rw [u3_ne _ _ (by omega)]; exact σ10
    rw [r1, Option.bind_some, σ10, c1, Option.bind_some, z1, e1, Option.bind_some, hs1, y1, Option.bind_some]
    have q1' : fX8_addRising_12 F 1 F (u3 (u3 σ1 1 τ1) 0 τ2) (-1) y 0 = some (u3 (u3 σ1 1 τ1) 0 τ') := q1
    rw [q1', Option.bind_some, u3_at, d1, Option.bind_some]
  · unfold fX9_rebuild
    have k1' : fX9_rebuild_18 F F un1 (flat (σ 0)) past1 o nu ab pi ks ws (nI (tsl t).length) ((tks t).headD (-1)) 0 = _ := k1
    rw [mg_many, Option.bind_some, r2, Option.bind_some, bes_first hF' hI, Option.bind_some, hI.2.2.2.2.2.2.2.2.1, k1', e2, Option.bind_some]
    exact q2
  · have := rel0 (σ := σ) (σ1 := σ1) (σ2 := u3 (u3 σ1 1 τ1) 0 τ') (t' := t') r3 r4 r5 hR hs h0 (fun i hi => by rw [u3_ne _ _ (by omega), u3_ne _ _ (by omega)]) (by rw [u3_at]; exact q3)
    rw [u3_at] at this
    exact this
