/-! ===== cut, batch, drift ===== -/
theorem sorted_cut2 : ∀ (l : List Int32) (v : Int32), l.Pairwise (· < ·) → ∃ l1 l2, l = l1 ++ l2 ∧ (∀ x ∈ l1, x < v) ∧ (∀ x ∈ l2, v ≤ x)
  | [], v, _ => ⟨[], [], rfl, fun x hx => (by cases hx), fun x hx => (by cases hx)⟩
  | a :: l, v, h => by
    obtain ⟨p1, p2⟩ := List.pairwise_cons.mp h
    by_cases hv : v ≤ a
    · refine ⟨[], a :: l, rfl, fun x hx => (by cases hx), fun x hx => ?_⟩
      rcases List.mem_cons.mp hx with rfl | hx
      · exact hv
      · exact Int32.le_of_lt (Int32.lt_of_le_of_lt hv (p1 x hx))
    · obtain ⟨l1, l2, e, h1, h2⟩ := sorted_cut2 l v p2
      refine ⟨a :: l1, l2, by rw [e]; rfl, fun x hx => ?_, h2⟩
      rcases List.mem_cons.mp hx with rfl | hx
      · exact i32_not_le.mp hv
      · exact h1 x hx
theorem less_cnt {F : Nat} (hF : 100 ≤ F) {τ : Tau} {t : Gt} (hI : Inv τ t) {v : Int32} {l1 l2 : List Int32} (ht : tks t = l1 ++ l2) (h1 : ∀ x ∈ l1, x < v) (h2 : ∀ x ∈ l2, v ≤ x) : fX6_howManyLess F τ v = some (nI l1.length) := by
  obtain ⟨e1, -⟩ := scan_less (F := F) (τ := τ) v 60 0 F F 0 (by omega) (by omega) (by omega)
  rw [nI_0, Int32.zero_add] at e1
  unfold fX6_howManyLess
  rw [e1]
  congr 2
  have hc := cnt_list (l := (tsl t).filter (fun s => decide (τ 0 s < v))) (List.Pairwise.sublist List.filter_sublist hI.2.2.1) (fun s hs => rep_lt hI.1 s (List.mem_filter.mp hs).1) (P := fun s => decide (τ 0 s ≠ -1 ∧ τ 0 s < v)) (fun s s60 => by
    rw [decide_eq_true_eq, List.mem_filter, decide_eq_true_eq]
    constructor
    · rintro ⟨z1, z2⟩
      exact ⟨Classical.byContradiction fun h => z1 (hI.2.2.2.2.2.2.1 s s60 h), z2⟩
    · rintro ⟨z1, z2⟩
      have := (hI.2.2.2.2.2.1 _ (key_mem hI.1 z1)).1
      exact ⟨fun e => absurd (e ▸ this) (by decide), z2⟩)
  rw [hc, ← List.countP_eq_length_filter]
  have hm : (tsl t).countP (fun s => decide (τ 0 s < v)) = (tks t).countP (fun k => decide (k < v)) := by
    rw [tks_map hI.1, List.countP_map]; rfl
  rw [hm, ht, List.countP_append]
  have a1 : l1.countP (fun k => decide (k < v)) = l1.length := List.countP_eq_length.mpr (fun x hx => decide_eq_true (h1 x hx))
  have a2 : l2.countP (fun k => decide (k < v)) = 0 := List.countP_eq_zero.mpr (fun x hx => by rw [decide_eq_true_eq]; exact Int32.not_lt.mpr (h2 x hx))
  rw [a1, a2, Nat.add_zero]
theorem find_slot {F : Nat} (hF : 100 ≤ F) {τ : Tau} {t : Gt} (hI : Inv τ t) {s : Nat} (hs : s ∈ tsl t) : fX4_slotOfKey F τ (τ 0 s) = some (nI s) ∧ fX9_find F (flat τ) (τ 0 s) = some (nI s) := by
  obtain ⟨x, f1, f2, f3⟩ := find_ok hF hI (τ 0 s)
  have hx : x = nI s := by
    rcases f3 with ⟨-, f3⟩ | ⟨s', s1, s2, s3, s4⟩
    · exact absurd (key_mem hI.1 hs) f3
    · rw [s3, slot_uniq hI s1 hs s4]
  rw [f1, f2, hx]; exact ⟨rfl, rfl⟩
theorem cut_tr {F : Nat} (hF : 100 ≤ F) (un : Int32) (past : Nat → Int32) {v : Int32} : ∀ (l1 l2 : List Int32) (σ : Sig) (t : Gt) (i n m : Nat), Inv (σ 0) t → tks t = l1 ++ l2 → (∀ x ∈ l1, x < v) → (∀ x ∈ l2, v ≤ x) → l1.length < n → l1.length < m → i + l1.length < 100 → ∃ τ' t', fX8_cut_38 F n σ (nI (i + l1.length)) (nI i) = some (nI (i + l1.length), u3 σ 0 τ') ∧ fX9_cut_28 F m un (flat (σ 0)) past v (nI i) ((l1 ++ l2).headD (-1)) = some (nI (i + l1.length), un, flat τ', past) ∧ Inv τ' t'
  | [], l2, σ, t, i, n, m, hI, ht, h1, h2, hn, hm, hi => by
    obtain ⟨n, rfl⟩ : ∃ z, n = z + 1 := ⟨n - 1, by omega⟩
    obtain ⟨m, rfl⟩ : ∃ z, m = z + 1 := ⟨m - 1, by omega⟩
    refine ⟨σ 0, t, ?_, ?_, hI⟩
    · rw [u3_self, fX8_cut_38, if_pos (show nI (i + ([] : List Int32).length) ≤ nI i from Int32.le_refl _)]
    · rw [fX9_cut_28, List.nil_append]
      cases l2 with
      | nil => rw [if_pos (show ([] : List Int32).headD (-1) = -1 from rfl)]; rfl
      | cons x l =>
        have hx := hI.2.2.2.2.2.1 x (by rw [ht]; simp)
        have hv := h2 x (by simp)
        rw [show ((x :: l).headD (-1)) = x from rfl, if_neg (show ¬ x = -1 from fun e => absurd (e ▸ hx.1) (by decide)), if_pos hv]; rfl
  | x :: l1, l2, σ, t, i, n, m, hI, ht, h1, h2, hn, hm, hi => by
    obtain ⟨n, rfl⟩ : ∃ z, n = z + 1 := ⟨n - 1, by omega⟩
    obtain ⟨m, rfl⟩ : ∃ z, m = z + 1 := ⟨m - 1, by omega⟩
    simp only [List.length_cons] at hn hm hi
    have hx := hI.2.2.2.2.2.1 x (by rw [ht]; simp)
    obtain ⟨y, e1, e2⟩ := rise_first hF hI
    rw [ht] at e2
    obtain ⟨s, s1, s60, s3, s4⟩ : ∃ s, s ∈ tsl t ∧ s < 60 ∧ y = nI s ∧ σ 0 0 s = x := by
      rcases e2 with ⟨h, -⟩ | ⟨s, k', l', a1, a2, a3, a4, a5⟩
      · cases h
      · obtain ⟨rfl, -⟩ := List.cons.inj a1; exact ⟨s, a2, a3, a4, a5⟩
    obtain ⟨τ1, t1, r1, r2, r3, m1, m2, r4, r5⟩ := rem_ok hF hI s1
    obtain ⟨-, f2⟩ := find_slot hF hI s1
    rw [s4] at f2 r4
    have hm2 : l1 ++ l2 = m2 := by
      have hs := hI.2.2.2.2.1
      have e : ([] : List Int32) ++ x :: (l1 ++ l2) = m1 ++ x :: m2 := by rw [← r4, ht]; rfl
      rw [ht] at hs
      exact split_uniq (l1 := []) hs e
    have hm1 : m1 = [] := by
      have := congrArg List.length (r4.symm.trans ht)
      rw [← hm2] at this
      simp only [List.length_append, List.length_cons, List.cons_append] at this
      exact List.eq_nil_of_length_eq_zero (by omega)
    have ht1 : tks t1 = l1 ++ l2 := by rw [r5, hm1, ← hm2]; rfl
    have hb := bes_first hF r3
    rw [ht1] at hb
    have σ0 : (u3 σ 0 τ1) 0 = τ1 := u3_at ..
    obtain ⟨τ', t', q1, q2, q3⟩ := cut_tr hF un past l1 l2 (u3 σ 0 τ1) t1 (i + 1) n m (by rw [σ0]; exact r3) ht1 (fun z hz => h1 z (by simp [hz])) h2 (by omega) (by omega) (by omega)
    rw [u3_u3] at q1
    rw [σ0] at q2
    have hlen : i + (x :: l1).length = i + 1 + l1.length := by simp only [List.length_cons]; omega
    refine ⟨τ', t', ?_, ?_, q3⟩
    · rw [hlen, fX8_cut_38, if_neg (nI_ge (by omega) (by omega)), e1, Option.bind_some, s3, r1, Option.bind_some, nI_1]
      exact q1
    · rw [hlen, show ((x :: l1 ++ l2).headD (-1)) = x from rfl, fX9_cut_28, if_neg (show ¬ x = -1 from fun e => absurd (e ▸ hx.1) (by decide)), if_neg (i32_not_le.mpr (h1 x (by simp))), f2, Option.bind_some, r2, Option.bind_some, hb, Option.bind_some, nI_1]
      exact q2
theorem cut_ok {F : Nat} (hF : 5000 ≤ F) {σ : Sig} {un sd : Int32} {now past im iseed kept : Nat → Int32} (h : Rel σ un sd now past im iseed kept) (x : Int32) : ∃ r σ' un' now' past', fX8_cut F σ x = some (r, σ') ∧ fX9_cut F un now past x = some (r, un', now', past') ∧ Rel σ' un' sd now' past' im iseed kept := by
  obtain ⟨⟨t, hI⟩, rfl, hP, hR, hs, h0⟩ := id h
  unfold fX8_cut fX9_cut
  rw [show (0 : Int64) = (0 : Int32).toInt64 from rfl, show (100000 : Int64) = (100000 : Int32).toInt64 from rfl, in_val, within_val, Option.bind_some, Option.bind_some]
  by_cases hx : 0 ≤ x ∧ x ≤ 100000
  · rw [if_pos hx, if_neg i10, if_neg i10]
    obtain ⟨σ1, un1, past1, r1, r2, r3, r4, r5⟩ := remember_ok hF hP hI
    have σ0 : σ1 0 = σ 0 := r4 0 (by omega)
    obtain ⟨l1, l2, ht, a1, a2⟩ := sorted_cut2 (tks t) x hI.2.2.2.2.1
    have hl : l1.length ≤ (tsl t).length := by rw [← tks_len, ht]; simp
    have h60 := hI.2.2.2.2.2.2.2.2.2
    rw [r1, r2, Option.bind_some, Option.bind_some, σ0, less_cnt (F := F) (by omega) hI ht a1 a2, Option.bind_some, bes_first (F := F) (by omega) hI, Option.bind_some]
    obtain ⟨τ', t', q1, q2, q3⟩ := cut_tr (F := F) (by omega) un1 past1 l1 l2 σ1 t 0 F F (by rw [σ0]; exact hI) ht a1 a2 (by omega) (by omega) (by omega)
    rw [Nat.zero_add, nI_0] at q1 q2
    rw [σ0, ← ht] at q2
    refine ⟨_, _, _, _, _, q1, q2, ?_⟩
    have := rel0 (σ := σ) (σ1 := σ1) (σ2 := u3 σ1 0 τ') (t' := t') r3 r4 r5 hR hs h0 (fun i hi => u3_ne _ _ (by omega)) (by rw [u3_at]; exact q3)
    rw [u3_at] at this
    exact this
  · rw [if_neg hx, if_pos rfl, if_pos rfl]
    exact ⟨_, σ, un, _, past, rfl, rfl, h⟩
theorem comes_ok {F : Nat} (hF : 100 ≤ F) {σ : Sig} {t : Gt} (hI : Inv (σ 0) t) (k : Int32) {w : Int32} (hw : 0 ≤ w) : ∃ b τ' t', fX8_addIfItCan F σ k w = some (u3 σ 0 τ') ∧ fX9_comes F (flat (σ 0)) k w = some (b2i b, flat τ') ∧ Inv τ' t' ∧ (tsl t').length = (tsl t).length + (if b then 1 else 0) := by
  obtain ⟨k1, k2⟩ := isKey_val F k
  unfold fX8_addIfItCan fX9_comes
  rw [k1, k2, Option.bind_some, Option.bind_some]
  have h28 : fX9_comes_28 F (flat (σ 0)) k w = some (b2i false, flat (σ 0)) := rfl
  by_cases hk : 0 ≤ k ∧ k ≤ 99999
  · rw [if_pos hk, if_neg i10, if_neg i10]
    rcases isThere_val hF hI k with ⟨a1, a2, a3⟩ | ⟨a1, a2, a3⟩
    · rw [a2, a3, Option.bind_some, Option.bind_some, if_pos rfl, if_pos rfl, mg_many, Option.bind_some]
      rcases room_val (F := F) hI with ⟨b1, b2, b3, b4⟩ | ⟨b1, b2, b3, b4⟩
      · rw [b2, Option.bind_some, if_pos rfl, if_pos b3]
        exact ⟨false, σ 0, t, by rw [u3_self], h28, hI, rfl⟩
      · obtain ⟨τ', t', q1, q2, q3, l1, l2, q4, q5⟩ := add_ok hF hI a1 hk hw b1
        rw [b2, Option.bind_some, if_neg i10, if_neg b3, q1, Option.bind_some]
        refine ⟨true, τ', t', rfl, ?_, q3, ?_⟩
        · unfold fX9_comes_29
          rw [if_neg i10, q2, Option.bind_some]; rfl
        · rw [← tks_len, ← tks_len, q4, q5]; simp; omega
    · rw [a2, a3, Option.bind_some, Option.bind_some, if_neg i10, if_neg i10]
      exact ⟨false, σ 0, t, by rw [u3_self], h28, hI, rfl⟩
  · rw [if_neg hk, if_pos rfl, if_pos rfl]
    exact ⟨false, σ 0, t, by rw [u3_self], h28, hI, rfl⟩
theorem nI_diff (a b : Nat) : nI (a + b) - nI a = nI b := by
  rw [nI_oI, nI_oI, nI_oI, oI_sub]; congr 1; omega
theorem batch_tr {F : Nat} (hF : 100 ≤ F) (un : Int32) (past : Nat → Int32) (x2 x3 : Int32) (b0 : Nat) : ∀ (j i n m a : Nat) (σ : Sig) (t : Gt), Inv (σ 0) t → (tsl t).length = b0 + a → i + j < 100 → j < n → j < m → ∃ r τ' t', fX8_batch_57 F n σ (nI (i + j)) x2 x3 (nI b0) (nI i) = some (r, u3 σ 0 τ') ∧ fX9_batch_44 F m un (flat (σ 0)) past (nI (i + j)) x2 x3 (nI a) (nI i) = some (r, un, flat τ', past) ∧ Inv τ' t'
  | 0, i, n, m, a, σ, t, hI, hl, hi, hn, hm => by
    obtain ⟨n, rfl⟩ : ∃ z, n = z + 1 := ⟨n - 1, by omega⟩
    obtain ⟨m, rfl⟩ : ∃ z, m = z + 1 := ⟨m - 1, by omega⟩
    refine ⟨nI a, σ 0, t, ?_, ?_, hI⟩
    · rw [u3_self, fX8_batch_57, if_pos (show nI (i + 0) ≤ nI i from Int32.le_refl _), hI.2.2.2.2.2.2.2.2.1, hl, nI_diff]
    · rw [fX9_batch_44, if_pos (show nI (i + 0) ≤ nI i from Int32.le_refl _)]
  | j + 1, i, n, m, a, σ, t, hI, hl, hi, hn, hm => by
    obtain ⟨n, rfl⟩ : ∃ z, n = z + 1 := ⟨n - 1, by omega⟩
    obtain ⟨m, rfl⟩ : ∃ z, m = z + 1 := ⟨m - 1, by omega⟩
    obtain ⟨b, τ1, t1, c1, c2, c3, c4⟩ := comes_ok hF hI (x2 + nI i * x3) (w := 1) (by decide)
    have σ0 : (u3 σ 0 τ1) 0 = τ1 := u3_at ..
    rw [fX8_batch_57, if_neg (nI_ge (by omega) (by omega)), c1, Option.bind_some, fX9_batch_44, if_neg (nI_ge (by omega) (by omega)), c2, Option.bind_some, nI_1, nI_1, Int32.add_zero]
    obtain ⟨r, τ', t', q1, q2, q3⟩ := batch_tr hF un past x2 x3 b0 j (i + 1) n m (a + (if b then 1 else 0)) (u3 σ 0 τ1) t1 (by rw [σ0]; exact c3) (by rw [c4, hl]; omega) (by omega) (by omega) (by omega)
    rw [u3_u3, show i + 1 + j = i + (j + 1) by omega] at q1
    rw [σ0, show i + 1 + j = i + (j + 1) by omega] at q2
    refine ⟨r, τ', t', q1, ?_, q3⟩
    cases b
    · exact q2
    · exact q2
theorem batch_ok {F : Nat} (hF : 5000 ≤ F) {σ : Sig} {un sd : Int32} {now past im iseed kept : Nat → Int32} (h : Rel σ un sd now past im iseed kept) (x1 x2 x3 : Int32) : ∃ r σ' un' now' past', fX8_batch F σ x1 x2 x3 = some (r, σ') ∧ fX9_batch F un now past x1 x2 x3 = some (r, un', now', past') ∧ Rel σ' un' sd now' past' im iseed kept := by
  obtain ⟨⟨t, hI⟩, rfl, hP, hR, hs, h0⟩ := id h
  obtain ⟨k1, k2⟩ := isKey_val F x2
  unfold fX8_batch fX9_batch
  rw [show (1 : Int64) = (1 : Int32).toInt64 from rfl, show (30 : Int64) = (30 : Int32).toInt64 from rfl, show (9999 : Int64) = (9999 : Int32).toInt64 from rfl, in_val, within_val, Option.bind_some, Option.bind_some]
  by_cases hx : 1 ≤ x1 ∧ x1 ≤ 30
  · rw [if_pos hx, if_neg i10, if_neg i10, k1, k2, Option.bind_some, Option.bind_some]
    by_cases hk : 0 ≤ x2 ∧ x2 ≤ 99999
    · rw [if_pos hk, if_neg i10, if_neg i10, in_val, within_val, Option.bind_some, Option.bind_some]
      by_cases hd : 1 ≤ x3 ∧ x3 ≤ 9999
      · rw [if_pos hd, if_neg i10, if_neg i10]
        obtain ⟨n, hn30, rfl⟩ := nI_of2 (n := 30) (by decide) (Int32.not_lt.mpr (Int32.le_trans (by decide) hx.1)) hx.2
        obtain ⟨σ1, un1, past1, r1, r2, r3, r4, r5⟩ := remember_ok hF hP hI
        have σ0 : σ1 0 = σ 0 := r4 0 (by omega)
        rw [r1, r2, Option.bind_some, Option.bind_some, σ0, hI.2.2.2.2.2.2.2.2.1]
        obtain ⟨r, τ', t', q1, q2, q3⟩ := batch_tr (F := F) (by omega) un1 past1 x2 x3 (tsl t).length n 0 F F 0 σ1 t (by rw [σ0]; exact hI) rfl (by omega) (by omega) (by omega)
        rw [Nat.zero_add, nI_0] at q1 q2
        rw [σ0] at q2
        refine ⟨_, _, _, _, _, q1, q2, ?_⟩
        have := rel0 (σ := σ) (σ1 := σ1) (σ2 := u3 σ1 0 τ') (t' := t') r3 r4 r5 hR hs h0 (fun i hi => u3_ne _ _ (by omega)) (by rw [u3_at]; exact q3)
        rw [u3_at] at this
        exact this
      · rw [if_neg hd, if_pos rfl, if_pos rfl]
        exact ⟨_, σ, un, _, past, rfl, rfl, h⟩
    · rw [if_neg hk, if_pos rfl, if_pos rfl]
      exact ⟨_, σ, un, _, past, rfl, rfl, h⟩
  · rw [if_neg hx, if_pos rfl, if_pos rfl]
    exact ⟨_, σ, un, _, past, rfl, rfl, h⟩
