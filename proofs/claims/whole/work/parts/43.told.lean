/-! ===== copies in the model; the costliest; told ===== -/
def cpf (i N : Nat) (f g : Nat → Int32) : Nat → Int32 := fun k => if i ≤ k ∧ k < N then f k else g k
theorem cpf_end (N : Nat) (f g : Nat → Int32) : cpf N N f g = g := by
  funext k; unfold cpf; rw [if_neg (by omega)]
theorem cpf_step {i N : Nat} (h : i < N) (f g : Nat → Int32) : cpf (i + 1) N f (upd g i (f i)) = cpf i N f g := by
  funext k; unfold cpf upd
  by_cases h1 : i + 1 ≤ k ∧ k < N
  · rw [if_pos h1, if_pos (by omega)]
  · rw [if_neg h1]
    by_cases h2 : k = i
    · subst h2; rw [if_pos rfl, if_pos (by omega)]
    · rw [if_neg h2, if_neg (by omega)]
theorem cpf_flat (τ : Tau) (g : Nat → Int32) (hg : ∀ k, 368 ≤ k → g k = 0) : cpf 0 368 (flat τ) g = flat τ := by
  funext k; unfold cpf
  by_cases h : k < 368
  · rw [if_pos (by omega)]
  · rw [if_neg (by omega), hg k (by omega)]
    unfold flat
    rw [if_neg (by omega), if_neg (by omega), if_neg (by omega), if_neg (by omega)]
theorem flat_big (τ : Tau) (k : Nat) (h : 368 ≤ k) : flat τ k = 0 := by
  unfold flat
  rw [if_neg (by omega), if_neg (by omega), if_neg (by omega), if_neg (by omega)]
theorem costs2 {F : Nat} {now : Nat → Int32} (x1 : Int32) : ∀ (j i n : Nat) (as : Nat → Int32), i + j = 368 → j < n → ∃ m, fX9_costs_2 F n now as x1 (nI i) = fX9_costs_2 F (m + 1) now (cpf i 368 now as) x1 (nI 368)
  | 0, i, n, as, hi, hn => by
    obtain ⟨n, rfl⟩ : ∃ z, n = z + 1 := ⟨n - 1, by omega⟩
    obtain rfl : i = 368 := by omega
    exact ⟨n, by rw [cpf_end]⟩
  | j + 1, i, n, as, hi, hn => by
    obtain ⟨n, rfl⟩ : ∃ z, n = z + 1 := ⟨n - 1, by omega⟩
    obtain ⟨m, e⟩ := costs2 (F := F) (now := now) x1 j (i + 1) n (upd as i (now i)) (by omega) (by omega)
    refine ⟨m, ?_⟩
    rw [fX9_costs_2, if_neg (show ¬ (368 : Int32) ≤ nI i from nI_ge (a := i) (b := 368) (by omega) (by omega)), if_neg (nI_nin (by omega) (by omega)), if_neg (nI_nin (by omega) (by omega)), nI_clamp (by omega), nI_1, e, cpf_step (by omega)]
theorem costs65 {F : Nat} {as : Nat → Int32} (x2 : Int32) : ∀ (j i n : Nat) (now : Nat → Int32), i + j = 368 → j < n → fX9_costs_65 F n now as x2 (nI i) = some (x2, cpf i 368 as now, as)
  | 0, i, n, now, hi, hn => by
    obtain ⟨n, rfl⟩ : ∃ z, n = z + 1 := ⟨n - 1, by omega⟩
    obtain rfl : i = 368 := by omega
    rw [fX9_costs_65, if_pos (by decide), cpf_end]
  | j + 1, i, n, now, hi, hn => by
    obtain ⟨n, rfl⟩ : ∃ z, n = z + 1 := ⟨n - 1, by omega⟩
    rw [fX9_costs_65, if_neg (show ¬ (368 : Int32) ≤ nI i from nI_ge (a := i) (b := 368) (by omega) (by omega)), if_neg (nI_nin (by omega) (by omega)), if_neg (nI_nin (by omega) (by omega)), nI_clamp (by omega), nI_1, costs65 x2 j (i + 1) n _ (by omega) (by omega), cpf_step (by omega)]
theorem costs_ok {F : Nat} (hF : 5000 ≤ F) {τ τ1 τ2 : Tau} {t : Gt} (hI : Inv τ t) (hv : ∀ c k, vd c k → τ1 c k = τ c k) {s : Nat} (hs : s ∈ tsl t) (hrm : fX7_remove F τ1 (nI s) = some τ2) (as : Nat → Int32) : ∃ as', fX9_costs F (flat τ) as (τ 0 s) = some (τ2 8 0 + τ2 8 1 + τ2 8 2, flat τ, as') := by
  obtain ⟨x, -, f2, f3⟩ := find_ok (F := F) (by omega) hI (τ 0 s)
  have hx : x = nI s := by
    rcases f3 with ⟨-, f3⟩ | ⟨s', s1, s2, s3, s4⟩
    · exact absurd (key_mem hI.1 hs) f3
    · rw [s3, slot_uniq hI s1 hs s4]
  have hfl : flat τ1 = flat τ := flat_ext hv
  obtain ⟨τ', t', r1, r2, -, -⟩ := rem_ok (F := F) (by omega) (hI.vd hv) hs
  rw [hrm] at r1
  obtain rfl := Option.some.inj r1
  rw [hfl] at r2
  unfold fX9_costs
  obtain ⟨m, e⟩ := costs2 (F := F) (now := flat τ) (τ 0 s) 368 0 F as (by omega) (by omega)
  rw [nI_0] at e
  have hl : ∀ k, k < 3 → flat τ2 (365 + k) = τ2 8 k := fun k hk => flat_8 hk
  refine ⟨cpf 0 368 (flat τ) as, ?_⟩
  rw [e, fX9_costs_2, if_pos (by decide), f2, Option.bind_some, hx, r2, Option.bind_some, if_neg (by decide), if_neg (by decide), if_neg (by decide)]
  rw [show ((365 : Int32).toNatClampNeg) = 365 + 0 from rfl, show ((366 : Int32).toNatClampNeg) = 365 + 1 from rfl, show ((367 : Int32).toNatClampNeg) = 365 + 2 from rfl, hl 0 (by omega), hl 1 (by omega), hl 2 (by omega)]
  have := costs65 (F := F) (as := cpf 0 368 (flat τ) as) (τ2 8 0 + τ2 8 1 + τ2 8 2) 368 0 F (flat τ2) (by omega) (by omega)
  rw [nI_0] at this
  rw [this]
  congr 3
  funext k
  unfold cpf
  by_cases h : 0 ≤ k ∧ k < 368
  · rw [if_pos h, if_pos h]
  · rw [if_neg h, flat_big _ _ (by omega), flat_big _ _ (by omega)]
theorem costly_tr {F : Nat} (hF : 5000 ≤ F) {t : Gt} : ∀ (l2 l1 : List Int32) (σ : Sig) (y bk bm : Int32) (n m : Nat) (as : Nat → Int32), Inv (σ 0) t → tks t = l1 ++ l2 → pos (σ 0) t l2 y → l2.length < n → l2.length < m → ∃ r as' τ', fX8_costliestKey_28 F n σ bk bm y (nI l1.length) = some (r, u3 σ 1 τ') ∧ fX9_costly_11 F m (flat (σ 0)) as bk bm (l2.headD (-1)) = some (r, flat (σ 0), as')
  | [], l1, σ, y, bk, bm, n, m, as, hI, ht, hp, hn, hm => by
    obtain ⟨n, rfl⟩ : ∃ z, n = z + 1 := ⟨n - 1, by omega⟩
    obtain ⟨m, rfl⟩ : ∃ z, m = z + 1 := ⟨m - 1, by omega⟩
    have hy : y = -1 := by
      rcases hp with ⟨-, h⟩ | ⟨s, k', l', e1, -⟩
      · exact h
      · cases e1
    refine ⟨bk, as, σ 1, ?_, ?_⟩
    · rw [u3_self, fX8_costliestKey_28, if_pos hy]
      by_cases h : (60 : Int32) ≤ nI l1.length
      · rw [if_pos h]
      · rw [if_neg h]
    · rw [fX9_costly_11, if_pos (show ([] : List Int32).headD (-1) = -1 from rfl)]
  | x :: l, l1, σ, y, bk, bm, n, m, as, hI, ht, hp, hn, hm => by
    obtain ⟨n, rfl⟩ : ∃ z, n = z + 1 := ⟨n - 1, by omega⟩
    obtain ⟨m, rfl⟩ : ∃ z, m = z + 1 := ⟨m - 1, by omega⟩
    simp only [List.length_cons] at hn hm
    have hlen : (tsl t).length = l1.length + (l.length + 1) := by rw [← tks_len, ht]; simp
    have h60 := hI.2.2.2.2.2.2.2.2.2
    have hx := hI.2.2.2.2.2.1 x (by rw [ht]; simp)
    obtain ⟨s, s1, s60, s3, s4⟩ : ∃ s, s ∈ tsl t ∧ s < 60 ∧ y = nI s ∧ σ 0 0 s = x := by
      rcases hp with ⟨h, -⟩ | ⟨s, k', l', e1, e2, e3, e4, e5⟩
      · cases h
      · obtain ⟨rfl, rfl⟩ := List.cons.inj e1; exact ⟨s, e2, e3, e4, e5⟩
    obtain ⟨τ1, c1, c2⟩ := copy_ok F (σ 1) (σ 0)
    obtain ⟨τ2, t2, r1, r2, r3, -⟩ := rem_ok (F := F) (by omega) (hI.vd c2) s1
    obtain ⟨as1, k1⟩ := costs_ok hF hI c2 s1 r1 as
    rw [s4] at k1
    obtain ⟨y', n1, n2⟩ := rise_next (F := F) (by omega) hI s1 s4 ht
    have hb := bes_next (F := F) (by omega) hI ht
    have ht' : tks t = (l1 ++ [x]) ++ l := by rw [ht]; simp
    have hl1 : (l1 ++ [x]).length = l1.length + 1 := by simp
    have σ0 : (u3 σ 1 τ2) 0 = σ 0 := u3_ne σ τ2 (by omega)
    rw [fX8_costliestKey_28, if_neg (show ¬ (60 : Int32) ≤ nI l1.length from n60le (by omega)), s3, if_neg (nI_m1 s (by omega)), c1, Option.bind_some, u3_at, r1, Option.bind_some, u3_u3, u3_at]
    unfold fX1_together
    rw [Option.bind_some, Option.bind_some]
    rw [show ((x :: l).headD (-1)) = x from rfl, fX9_costly_11, if_neg (show ¬ x = -1 from fun e => absurd (e ▸ hx.1) (by decide)), k1, Option.bind_some]
    dsimp only
    unfold fX8_costliestKey_96 fX9_costly_34 fX9_costly_47
    rw [σ0, n1, Option.bind_some, nI_1, cg_key s60, Option.bind_some, Option.bind_some, s4, hb, Option.bind_some]
    by_cases hle : τ2 8 0 + τ2 8 1 + τ2 8 2 ≤ bm
    · rw [if_pos hle, if_pos hle, if_pos hle]
      obtain ⟨r, as', τ', q1, q2⟩ := costly_tr hF l (l1 ++ [x]) (u3 σ 1 τ2) y' bk bm n m as1 (by rw [σ0]; exact hI) ht' (by rw [σ0]; exact n2) (by omega) (by omega)
      rw [hl1, u3_u3] at q1
      rw [σ0] at q2
      exact ⟨r, as', τ', q1, q2⟩
    · rw [if_neg hle, if_neg hle, if_neg hle]
      obtain ⟨r, as', τ', q1, q2⟩ := costly_tr hF l (l1 ++ [x]) (u3 σ 1 τ2) y' x (τ2 8 0 + τ2 8 1 + τ2 8 2) n m as1 (by rw [σ0]; exact hI) ht' (by rw [σ0]; exact n2) (by omega) (by omega)
      rw [hl1, u3_u3] at q1
      rw [σ0] at q2
      exact ⟨r, as', τ', q1, q2⟩
theorem costly_ok {F : Nat} (hF : 5000 ≤ F) {σ : Sig} {t : Gt} (hI : Inv (σ 0) t) (as : Nat → Int32) : ∃ r as' τ', fX8_costliestKey F σ = some (r, u3 σ 1 τ') ∧ fX9_costly F (flat (σ 0)) as = some (r, flat (σ 0), as') := by
  have h60 := hI.2.2.2.2.2.2.2.2.2
  have hl := tks_len t
  obtain ⟨y, e1, e2⟩ := rise_first (F := F) (by omega) hI
  unfold fX8_costliestKey fX9_costly
  rw [e1, Option.bind_some, bes_first (F := F) (by omega) hI, Option.bind_some]
  exact costly_tr hF (tks t) [] σ y (-1) (-1) F F as hI rfl e2 (by omega) (by omega)
theorem par_slot {τ : Tau} {t : Gt} (hI : Inv τ t) : ∀ s, s < 60 → τ 0 s ≠ -1 → nI s ≠ τ 6 0 → ∃ q, q < 60 ∧ τ 5 s = nI q := by
  intro s s60 hk ht
  have hs : s ∈ tsl t := Classical.byContradiction fun h => hk (hI.2.2.2.2.2.2.1 s s60 h)
  obtain ⟨e, he⟩ := mem_dps hs 0
  obtain ⟨c, r, k, a, b, et, hc, -, hr, hrc, hc60⟩ := ctx_of hI.str he
  cases c with
  | nil => exact absurd hrc.symm ht
  | cons f c =>
    obtain ⟨x1, x2, x3, x4, x5⟩ := f
    exact ⟨x3, hrc.1, hr.2.2.2.2.2.1⟩
theorem told_ok {F : Nat} (hF : 5000 ≤ F) {σ : Sig} {t : Gt} (hI : Inv (σ 0) t) (un : Int32) (hun : un = σ 16 0 1) (o nu ab pi as fw dp : Nat → Int32) (x : Int32) : ∃ r o' nu' ab' pi' as' fw' dp' τ', fX8_told F σ x = some (r, u3 σ 1 τ') ∧ fX9_told F un (flat (σ 0)) o nu ab pi as fw dp x = some (r, flat (σ 0), o', nu', ab', pi', as', fw', dp') := by
  unfold fX8_told fX9_told
  have hF' : 100 ≤ F := by omega
  have hlen := hI.2.2.2.2.2.2.2.2.2
  have hcnt := hI.2.2.2.2.2.2.2.2.1
  by_cases x0 : x = 0
  · subst x0
    rw [if_pos rfl, if_pos rfl, mg_many, Option.bind_some]
    exact ⟨_, o, nu, ab, pi, as, fw, dp, σ 1, by rw [u3_self], rfl⟩
  rw [if_neg x0, if_neg x0]
  by_cases x1 : x = 1
  · subst x1
    rw [if_pos rfl, if_pos rfl, mg_top, Option.bind_some, Option.bind_some]
    rcases trt_sl hI.1 with h | ⟨s, s60, h⟩
    · rw [hI.2.1, h, if_pos rfl, cg_key0, Option.bind_some]
      exact ⟨_, o, nu, ab, pi, as, fw, dp, σ 1, by rw [u3_self], rfl⟩
    · rw [hI.2.1, h, if_neg (nI_m1 s (by omega)), cg_key s60, mg_key s60, Option.bind_some, Option.bind_some]
      exact ⟨_, o, nu, ab, pi, as, fw, dp, σ 1, by rw [u3_self], rfl⟩
  rw [if_neg x1, if_neg x1]
  by_cases x2 : x = 2
  · subst x2
    rw [if_pos rfl, if_pos rfl, mg_top, Option.bind_some]
    rcases trt_sl hI.1 with h | ⟨s, s60, h⟩
    · rw [hI.2.1, h, if_pos rfl, mg_rank0, Option.bind_some]
      exact ⟨_, o, nu, ab, pi, as, fw, dp, σ 1, by rw [u3_self], rfl⟩
    · rw [hI.2.1, h, if_neg (nI_m1 s (by omega)), cg_rank s60, mg_rank s60, Option.bind_some, Option.bind_some]
      exact ⟨_, o, nu, ab, pi, as, fw, dp, σ 1, by rw [u3_self], rfl⟩
  rw [if_neg x2, if_neg x2]
  by_cases x3 : x = 3
  · subst x3
    obtain ⟨r, o', nu', ab', pi', e1, e2⟩ := depth_ok hF' hI o nu ab pi
    rw [if_pos rfl, if_pos rfl, e1, e2, Option.bind_some, Option.bind_some]
    exact ⟨r, o', nu', ab', pi', as, fw, dp, σ 1, by rw [u3_self], rfl⟩
  rw [if_neg x3, if_neg x3]
  by_cases x4 : x = 4
  · subst x4
    have hk : ∀ s, s < 60 → σ 0 0 s = -1 ∨ 0 ≤ σ 0 0 s ∧ σ 0 0 s ≤ 99999 := fun s s60 => by
      by_cases hs : s ∈ tsl t
      · exact Or.inr (hI.2.2.2.2.2.1 _ (key_mem hI.1 hs))
      · exact Or.inl (hI.2.2.2.2.2.2.1 s s60 hs)
    obtain ⟨r, e1, e2⟩ := scan_worth (F := F) (τ := σ 0) hk 60 0 F F 0 (by omega) (by omega) (by omega)
    rw [nI_0] at e1 e2
    unfold fX6_worthFrom fX9_sumOf
    rw [if_pos rfl, if_pos rfl, e1, e2, Option.bind_some, Option.bind_some]
    exact ⟨r, o, nu, ab, pi, as, fw, dp, σ 1, by rw [u3_self], rfl⟩
  rw [if_neg x4, if_neg x4]
  by_cases x5 : x = 5
  · subst x5
    rw [if_pos rfl, if_pos rfl, if_neg (by decide), show ((362 : Int32) + 5 - 5).toNatClampNeg = 362 + 0 from rfl, flat_7 (by omega)]
    exact ⟨_, o, nu, ab, pi, as, fw, dp, σ 1, by rw [u3_self], rfl⟩
  rw [if_neg x5, if_neg x5]
  by_cases x6 : x = 6
  · subst x6
    rw [if_pos rfl, if_pos rfl, if_neg (by decide), show ((362 : Int32) + 6 - 5).toNatClampNeg = 362 + 1 from rfl, flat_7 (by omega)]
    exact ⟨_, o, nu, ab, pi, as, fw, dp, σ 1, by rw [u3_self], rfl⟩
  rw [if_neg x6, if_neg x6]
  by_cases x7 : x = 7
  · subst x7
    rw [if_pos rfl, if_pos rfl, if_neg (by decide), show ((362 : Int32) + 7 - 5).toNatClampNeg = 362 + 2 from rfl, flat_7 (by omega)]
    exact ⟨_, o, nu, ab, pi, as, fw, dp, σ 1, by rw [u3_self], rfl⟩
  rw [if_neg x7, if_neg x7]
  by_cases x8 : x = 8
  · subst x8
    rw [if_pos rfl, if_pos rfl, if_neg (by decide), show ((362 : Int32) + 8 - 5).toNatClampNeg = 365 + 0 from rfl, flat_8 (by omega)]
    exact ⟨_, o, nu, ab, pi, as, fw, dp, σ 1, by rw [u3_self], rfl⟩
  rw [if_neg x8, if_neg x8]
  by_cases x9 : x = 9
  · subst x9
    rw [if_pos rfl, if_pos rfl, if_neg (by decide), show ((362 : Int32) + 9 - 5).toNatClampNeg = 365 + 1 from rfl, flat_8 (by omega)]
    exact ⟨_, o, nu, ab, pi, as, fw, dp, σ 1, by rw [u3_self], rfl⟩
  rw [if_neg x9, if_neg x9]
  by_cases x10 : x = 10
  · subst x10
    rw [if_pos rfl, if_pos rfl, if_neg (by decide), show ((362 : Int32) + 10 - 5).toNatClampNeg = 365 + 2 from rfl, flat_8 (by omega)]
    exact ⟨_, o, nu, ab, pi, as, fw, dp, σ 1, by rw [u3_self], rfl⟩
  rw [if_neg x10, if_neg x10]
  by_cases x11 : x = 11
  · subst x11
    obtain ⟨r, e1, e2⟩ := scan_ranks (F := F) (τ := σ 0) 60 0 F F 0 (by omega) (by omega) (by omega)
    rw [nI_0] at e1 e2
    unfold fX6_ranksTogether fX9_sumOf
    rw [if_pos rfl, if_pos rfl, e1, e2, Option.bind_some, Option.bind_some]
    exact ⟨r, o, nu, ab, pi, as, fw, dp, σ 1, by rw [u3_self], rfl⟩
  rw [if_neg x11, if_neg x11]
  by_cases x12 : x = 12
  · subst x12
    obtain ⟨r, e1, e2⟩ := scan_twos (F := F) (τ := σ 0) (par_slot hI) 60 0 F F 0 (by omega) (by omega) (by omega)
    rw [nI_0] at e1 e2
    unfold fX6_longSteps fX9_twos
    rw [if_pos rfl, if_pos rfl, e1, e2, Option.bind_some, Option.bind_some]
    exact ⟨r, o, nu, ab, pi, as, fw, dp, σ 1, by rw [u3_self], rfl⟩
  rw [if_neg x12, if_neg x12]
  by_cases x13 : x = 13
  · subst x13
    obtain ⟨r, as', τ', e1, e2⟩ := costly_ok hF hI as
    rw [if_pos rfl, if_pos rfl, e1, e2, Option.bind_some, Option.bind_some]
    exact ⟨r, o, nu, ab, pi, as', fw, dp, τ', rfl, rfl⟩
  rw [if_neg x13, if_neg x13]
  by_cases x14 : x = 14
  · subst x14
    obtain ⟨r, e1, e2⟩ := flat_ok hF' hlen hcnt
    rw [if_pos rfl, if_pos rfl, e1, e2, Option.bind_some, Option.bind_some]
    exact ⟨r, o, nu, ab, pi, as, fw, dp, σ 1, by rw [u3_self], rfl⟩
  rw [if_neg x14, if_neg x14]
  by_cases x15 : x = 15
  · subst x15
    obtain ⟨r, fw', dp', e1, e2⟩ := tall_ok hF' hlen hcnt fw dp
    rw [if_pos rfl, if_pos rfl, e1, e2, Option.bind_some, Option.bind_some]
    exact ⟨r, o, nu, ab, pi, as, fw', dp', σ 1, by rw [u3_self], rfl⟩
  rw [if_neg x15, if_neg x15]
  by_cases x16 : x = 16
  · subst x16
    rw [if_pos rfl, if_pos rfl, hun]
    exact ⟨_, o, nu, ab, pi, as, fw, dp, σ 1, by rw [u3_self], rfl⟩
  rw [if_neg x16, if_neg x16]
  exact ⟨_, o, nu, ab, pi, as, fw, dp, σ 1, by rw [u3_self], rfl⟩
