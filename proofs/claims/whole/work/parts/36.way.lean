/-! ===== the way to a key ===== -/
def pth : List Fr → List Nat
  | [] => []
  | (_, _, p, _, _) :: c => pth c ++ [p]
theorem pth_len : ∀ c : List Fr, (pth c).length = c.length
  | [] => rfl
  | (_, _, p, _, _) :: c => by simp [pth, pth_len c]
theorem above_ctx {F : Nat} {τ : Tau} : ∀ (c : List Fr) (x : Int32) (i n : Nat) (acc : Int32), repc τ c x → i + c.length ≤ 60 → c.length < n → fX4_howManyAbove_11 F τ n acc (cpar c) (nI i) = some (acc + nI c.length)
  | [], x, i, n, acc, hc, hi, hn => by
    obtain ⟨n, rfl⟩ : ∃ z, n = z + 1 := ⟨n - 1, by simp at hn; omega⟩
    rw [fX4_howManyAbove_11]
    have e : acc + nI ([] : List Fr).length = acc := by
      show acc + nI 0 = acc
      rw [nI_0, Int32.add_zero]
    rw [e, if_pos (show cpar [] = -1 from rfl)]
    by_cases h : (60 : Int32) ≤ nI i
    · rw [if_pos h]
    · rw [if_neg h]
  | (d, r, p, k, o) :: c, x, i, n, acc, hc, hi, hn => by
    obtain ⟨n, rfl⟩ : ∃ z, n = z + 1 := ⟨n - 1, by simp at hn; omega⟩
    simp only [List.length_cons] at hi hn
    obtain ⟨e1, e2, e3, e4, e5, e6, e7, e8⟩ := hc
    rw [fX4_howManyAbove_11, if_neg (n60le (by omega))]
    show (if nI p = -1 then _ else (fX4_parentOf F τ (nI p)).bind _) = _
    rw [if_neg (nI_m1 p (by omega)), cg_parent e1, e6, Option.bind_some, nI_1, above_ctx c (nI p) (i + 1) n (acc + 1) e8 (by omega) (by omega)]
    have e : acc + 1 + nI c.length = acc + nI (c.length + 1) := by rw [Int32.add_assoc, Int32.add_comm 1, nI_1]
    rw [e]; rfl
theorem above_ok {F : Nat} (hF : 100 ≤ F) {τ : Tau} {c : List Fr} {s : Nat} (hs : s < 60) (hp : τ 5 s = cpar c) (hc : repc τ c (nI s)) (hl : c.length ≤ 60) : fX4_howManyAbove F τ (nI s) = some (nI c.length) := by
  unfold fX4_howManyAbove
  rw [cg_parent hs, hp, Option.bind_some]
  have := above_ctx (F := F) c (nI s) 0 F 0 hc (by omega) (by omega)
  rw [nI_0, Int32.zero_add] at this
  exact this
theorem way_up {F : Nat} {σ : Sig} : ∀ (c : List Fr) (s i n : Nat), s < 60 → σ 0 5 s = cpar c → repc (σ 0) c (nI s) → i ≤ c.length → c.length < n → c.length < 100 → fX8_way_48 F σ n (nI i) (nI s) (nI c.length) = some (σ 0 0 ((pth c ++ [s]).getD i 0))
  | [], s, i, n, hs, hp, hc, hi, hn, hl => by
    obtain ⟨n, rfl⟩ : ∃ z, n = z + 1 := ⟨n - 1, by omega⟩
    obtain rfl : i = 0 := by simpa using hi
    rw [fX8_way_48, if_pos (show nI ([] : List Fr).length ≤ nI 0 from Int32.le_refl _), cg_key hs, Option.bind_some]
    rfl
  | (d, r, p, k, o) :: c, s, i, n, hs, hp, hc, hi, hn, hl => by
    obtain ⟨n, rfl⟩ : ∃ z, n = z + 1 := ⟨n - 1, by omega⟩
    simp only [List.length_cons] at hi hn hl
    obtain ⟨e1, e2, e3, e4, e5, e6, e7, e8⟩ := hc
    rw [fX8_way_48, List.length_cons]
    by_cases hic : i = c.length + 1
    · subst hic
      rw [if_pos (Int32.le_refl _), cg_key hs, Option.bind_some]
      have hl : (pth ((d, r, p, k, o) :: c)).length = c.length + 1 := pth_len _
      rw [List.getD_eq_getElem?_getD, List.getElem?_append_right (by omega), hl, Nat.sub_self]
      rfl
    · rw [if_neg (nI_ge (by omega) (by omega)), cg_parent hs, hp, Option.bind_some, nI_less]
      show fX8_way_48 F σ n (nI i) (nI p) (nI c.length) = _
      rw [way_up c p i n e1 e6 e8 (by omega) (by omega) (by omega)]
      have hl : (pth ((d, r, p, k, o) :: c)).length = c.length + 1 := pth_len _
      have e : (pth ((d, r, p, k, o) :: c) ++ [s]).getD i 0 = (pth c ++ [p]).getD i 0 := by
        rw [List.getD_eq_getElem?_getD, List.getElem?_append_left (by omega), ← List.getD_eq_getElem?_getD]
        rfl
      rw [e]
def chn (τ : Tau) (k : Int32) : List Nat → Prop
  | [] => False
  | [s] => s < 60 ∧ τ 0 s = k
  | s :: q :: l => s < 60 ∧ τ 0 s ≠ k ∧ (if τ 0 s ≤ k then τ 4 s else τ 3 s) = nI q ∧ chn τ k (q :: l)
theorem chn_ctx {τ : Tau} {k : Int32} : ∀ (c : List Fr) (l : List Nat) (q : Nat), chn τ k (q :: l) → repc τ c (nI q) → (∀ a ∈ ckl c, a < k) → (∀ a ∈ ckr c, k < a) → chn τ k (pth c ++ q :: l)
  | [], l, q, h, _, _, _ => h
  | (d, r, p, kp, o) :: c, l, q, h, hc, h1, h2 => by
    obtain ⟨e1, e2, e3, e4, e5, e6, e7, e8⟩ := hc
    have hp : chn τ k (p :: q :: l) := by
      cases d
      · have hk : kp < k := h1 kp (by simp [ckl])
        refine ⟨e1, fun e => ?_, ?_, h⟩
        · rw [e2] at e; subst e; exact Int32.lt_irrefl hk
        · rw [if_pos (by rw [e2]; exact Int32.le_of_lt hk)]; exact e4
      · have hk : k < kp := h2 kp (by simp [ckr])
        refine ⟨e1, fun e => ?_, ?_, h⟩
        · rw [e2] at e; subst e; exact Int32.lt_irrefl hk
        · rw [if_neg (by rw [e2]; exact i32_not_le.mpr hk)]; exact e4
    have := chn_ctx c (q :: l) p hp e8 (fun a ha => h1 a (by cases d <;> simp [ckl, ha])) (fun a ha => h2 a (by cases d <;> simp [ckr, ha]))
    simpa [pth] using this
theorem way_mo {F : Nat} {τ : Tau} {k : Int32} : ∀ (l : List Nat) (s i j n : Nat), chn τ k (s :: l) → j ≤ i → i < 2 ^ 31 → l.length < n → fX9_way_29 F (flat τ) n k (nI i) (nI s) (nI j) = some (if i - j < (s :: l).length then τ 0 ((s :: l).getD (i - j) 0) else -1)
  | [], s, i, j, n, h, hj, hi, hn => by
    obtain ⟨n, rfl⟩ : ∃ z, n = z + 1 := ⟨n - 1, by omega⟩
    obtain ⟨h1, h2⟩ := h
    rw [fX9_way_29]
    by_cases hij : i = j
    · subst hij
      rw [if_pos (Int32.le_refl _)]
      unfold fX9_way_72
      rw [if_pos rfl, mg_key h1, Option.bind_some, if_pos (by simp), Nat.sub_self]
      rfl
    · rw [if_neg (nI_ge (by omega) (by omega)), mg_key h1, Option.bind_some, if_pos h2]
      unfold fX9_way_72
      rw [if_neg (fun e => hij ((nI_eq (by omega) hi).mp e).symm), if_neg (by simp; omega)]
  | q :: l, s, i, j, n, h, hj, hi, hn => by
    obtain ⟨n, rfl⟩ : ∃ z, n = z + 1 := ⟨n - 1, by omega⟩
    simp only [List.length_cons] at hn
    obtain ⟨h1, h2, h3, h4⟩ := h
    rw [fX9_way_29]
    by_cases hij : i = j
    · subst hij
      rw [if_pos (Int32.le_refl _)]
      unfold fX9_way_72
      rw [if_pos rfl, mg_key h1, Option.bind_some, if_pos (by simp), Nat.sub_self]
      rfl
    · rw [if_neg (nI_ge (by omega) (by omega)), mg_key h1, Option.bind_some, if_neg h2, Option.bind_some]
      have hgo : fX9_way_29 F (flat τ) n k (nI i) (nI q) (nI (j + 1)) = some (if i - j < (s :: q :: l).length then τ 0 ((s :: q :: l).getD (i - j) 0) else -1) := by
        rw [way_mo l q i (j + 1) n h4 (by omega) hi (by omega)]
        have e : i - j = (i - (j + 1)) + 1 := by omega
        rw [e, List.getD_cons_succ, List.length_cons (as := q :: l)]
        simp only [Nat.add_lt_add_iff_right]
      by_cases hk : τ 0 s ≤ k
      · rw [if_pos hk] at h3
        rw [if_pos hk, mg_child0 h1, h3, Option.bind_some, nI_1]
        exact hgo
      · rw [if_neg hk] at h3
        rw [if_neg hk, mg_child1 h1, h3, Option.bind_some, nI_1]
        exact hgo
theorem trt_plug : ∀ (c : List Fr) (x : Gt) (q : Nat), trt x = nI q → trt (plug c x) = nI ((pth c ++ [q]).headD 0)
  | [], x, q, h => h
  | (d, r, p, k, o) :: c, x, q, h => by
    show trt (plug c (nd2 d r p k x o)) = _
    rw [trt_plug c (nd2 d r p k x o) p (trt_nd2 ..)]
    congr 1
    simp only [pth]
    cases hc : pth c ++ [p] with
    | nil => simp at hc
    | cons a l => rfl
theorem way_ok {F : Nat} (hF : 100 ≤ F) {σ : Sig} {t : Gt} (hI : Inv (σ 0) t) (x i : Int32) : ∃ r, fX8_way F σ x i = some r ∧ fX9_way F (flat (σ 0)) x i = some r := by
  obtain ⟨y, f1, f2, f3⟩ := find_ok hF hI x
  unfold fX8_way fX9_way fX9_isThere
  rw [f1, f2, Option.bind_some, Option.bind_some]
  rcases f3 with ⟨f3, f4⟩ | ⟨s, s1, s2, s3, s4⟩
  · refine ⟨-1000000001, by rw [if_pos f3], ?_⟩
    rw [if_pos f3, Option.bind_some, if_pos rfl]
    by_cases h : x < 0
    · rw [if_pos h]
    · rw [if_neg h]
  · have hx := (hI.2.2.2.2.2.1 x (s4 ▸ key_mem hI.1 s1)).1
    have hy : ¬ y = -1 := by rw [s3]; exact nI_m1 s (by omega)
    rw [if_neg hy, if_neg (Int32.not_lt.mpr hx), if_neg hy, Option.bind_some, if_neg (by decide)]
    obtain ⟨i1, i2, i3, i4, i5, i6, i7, i8, i9, i10⟩ := hI
    obtain ⟨c, r, k', a, b, et⟩ := locate s1
    obtain ⟨n1, n2⟩ := (rep_plug (τ := σ 0) c (nd r s k' a b)).mp ⟨by rw [← et]; exact i1, by rw [← et]; exact i2⟩
    obtain ⟨-, hk', hr, hleft, hright, hp, ha, hb⟩ := id n1
    have hplen := plug_len c (nd r s k' a b)
    rw [← et, tsl_nd, List.length_append, List.length_cons] at hplen
    have hcl := csl_len c
    have hcl2 : c.length < 60 := by omega
    have hkx : k' = x := hk'.symm.trans s4
    rw [s3, above_ok hF s2 hp n2 (by omega), Option.bind_some]
    have hsorted := i5
    rw [et, tks_plug] at hsorted
    obtain ⟨p1, p2, p3⟩ := pw_app hsorted
    obtain ⟨q1, q2, q3⟩ := pw_app p1
    have hch : chn (σ 0) x (pth c ++ [s]) := by
      refine chn_ctx c [] s ⟨s2, s4⟩ n2 (fun z hz => ?_) (fun z hz => ?_)
      · exact q3 z hz x (by simp [tks, hkx])
      · exact p3 x (by simp [tks, hkx]) z hz
    by_cases hi : i < 0
    · refine ⟨-1, by rw [if_pos hi], ?_⟩
      rw [if_neg (fun e => absurd hi (Int32.not_lt.mpr e))]
    · obtain ⟨j, hj, rfl⟩ := nI_of hi
      rw [if_neg hi, if_pos (Int32.not_lt.mp hi), mg_top, Option.bind_some, i2, et, trt_plug c _ s rfl]
      obtain ⟨q, l, hql⟩ : ∃ q l, pth c ++ [s] = q :: l := by
        cases h : pth c ++ [s] with
        | nil => simp at h
        | cons q l => exact ⟨q, l, rfl⟩
      have hlen : (q :: l).length = c.length + 1 := by rw [← hql, List.length_append, pth_len]; rfl
      have hm := way_mo (F := F) (τ := σ 0) l q j 0 F (hql ▸ hch) (by omega) hj (by simp at hlen; omega)
      rw [nI_0] at hm
      rw [hql, List.headD_cons, hm, hlen, Nat.sub_zero]
      by_cases hjc : j ≤ c.length
      · rw [if_pos (nI_le hjc (by omega)), way_up c s j F s2 hp n2 hjc (by omega) (by omega), hql, if_pos (by omega)]
        exact ⟨_, rfl, rfl⟩
      · rw [if_neg (nI_ge (by omega) hj), if_neg (by omega)]
        exact ⟨_, rfl, rfl⟩
