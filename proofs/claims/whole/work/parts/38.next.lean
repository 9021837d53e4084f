/-! ===== the numbers by the tree: the next by number ===== -/
def Str (τ : Tau) (t : Gt) : Prop := rep τ t (-1) ∧ τ 6 0 = trt t ∧ (tsl t).Nodup ∧ (tsl t).length ≤ 60
theorem Inv.str {τ : Tau} {t : Gt} (h : Inv τ t) : Str τ t := ⟨h.1, h.2.1, h.2.2.1, h.2.2.2.2.2.2.2.2.2⟩
def dpl : List Fr → Nat → List (Nat × Nat)
  | [], _ => []
  | (x, _, p, _, o) :: c, d => dpl c d ++ (p, d + c.length) :: (if x then [] else dps o (d + c.length + 1))
def dpr : List Fr → Nat → List (Nat × Nat)
  | [], _ => []
  | (x, _, _, _, o) :: c, d => (if x then dps o (d + c.length + 1) else []) ++ dpr c d
theorem dps_plug : ∀ (c : List Fr) (x : Gt) (d : Nat), dps (plug c x) d = dpl c d ++ dps x (d + c.length) ++ dpr c d
  | [], x, d => by simp [plug, dpl, dpr]
  | (e, r, p, k, o) :: c, x, d => by
    show dps (plug c (nd2 e r p k x o)) d = _
    rw [dps_plug c (nd2 e r p k x o) d]
    cases e
    · simp [nd2, dps, dpl, dpr, Nat.add_assoc]
    · simp [nd2, dps, dpl, dpr, Nat.add_assoc]
theorem dps_perm : ∀ (t : Gt) (d : Nat), ((dps t d).map Prod.fst).Perm (tsl t)
  | .leaf, _ => List.Perm.nil
  | .inner r s k a b, d => by
    simp only [dps, tsl, List.map_cons, List.map_append]
    exact (((dps_perm a (d + 1)).append (dps_perm b (d + 1))).cons s).trans List.perm_middle.symm
theorem dps_nodup {t : Gt} (h : (tsl t).Nodup) (d : Nat) : ((dps t d).map Prod.fst).Nodup := (dps_perm t d).symm.nodup h
theorem psplit {s e e' : Nat} : ∀ {l1 l2 m1 m2 : List (Nat × Nat)}, ((l1 ++ (s, e) :: l2).map Prod.fst).Nodup → l1 ++ (s, e) :: l2 = m1 ++ (s, e') :: m2 → l1 = m1 ∧ e = e' ∧ l2 = m2
  | [], l2, [], m2, _, h => by simp at h; exact ⟨rfl, h.1, h.2⟩
  | [], l2, b :: m1, m2, hn, h => by
    simp only [List.nil_append, List.cons_append, List.cons.injEq] at h
    have := (List.nodup_cons.mp (show (s :: l2.map Prod.fst).Nodup from hn)).1
    exact absurd (List.mem_map.mpr ⟨(s, e'), by rw [h.2]; simp, rfl⟩) this
  | a :: l1, l2, [], m2, hn, h => by
    simp only [List.nil_append, List.cons_append, List.cons.injEq] at h
    have hn' : (a.1 :: ((l1 ++ (s, e) :: l2).map Prod.fst)).Nodup := hn
    have := (List.nodup_cons.mp hn').1
    rw [h.1] at this
    exact absurd (List.mem_map.mpr ⟨(s, e), by simp, rfl⟩) this
  | a :: l1, l2, b :: m1, m2, hn, h => by
    simp only [List.cons_append, List.cons.injEq] at h
    have hn' : (a.1 :: ((l1 ++ (s, e) :: l2).map Prod.fst)).Nodup := hn
    obtain ⟨z1, z2, z3⟩ := psplit (List.nodup_cons.mp hn').2 h.2
    exact ⟨by rw [h.1, z1], z2, z3⟩
def posN (l : List (Nat × Nat)) (y : Int32) : Prop := (l = [] ∧ y = -1) ∨ ∃ s e l', l = (s, e) :: l' ∧ s < 60 ∧ y = nI s
theorem posN_tr {τ : Tau} {x : Gt} {p : Int32} (h : rep τ x p) (hne : x ≠ .leaf) (d : Nat) (l : List (Nat × Nat)) : posN (dps x d ++ l) (trt x) := by
  cases x with
  | leaf => exact absurd rfl hne
  | inner r s k a b => exact Or.inr ⟨s, d, _, rfl, h.1, rfl⟩
theorem num_climb {F : Nat} {τ : Tau} (d0 : Nat) : ∀ (c : List Fr) (g i n : Nat), g < 60 → repc τ c (nI g) → (g :: csl c).Nodup → i + c.length < 60 → c.length < n → ∃ y, fX4_nextByNumber_41 F τ n (nI g) (cpar c) (nI i) = some y ∧ posN (dpr c d0) y
  | [], g, i, n, hg, hc, hn, hi, hln => by
    obtain ⟨n, rfl⟩ : ∃ z, n = z + 1 := ⟨n - 1, by simp at hln; omega⟩
    refine ⟨-1, ?_, Or.inl ⟨rfl, rfl⟩⟩
    rw [fX4_nextByNumber_41, if_neg (n60le (by simp at hi; omega)), if_pos (show cpar [] = -1 from rfl)]
  | (d, r, p, k, o) :: c, g, i, n, hg, hc, hn, hi, hln => by
    obtain ⟨n, rfl⟩ : ∃ z, n = z + 1 := ⟨n - 1, by simp at hln; omega⟩
    simp only [List.length_cons] at hi hln
    obtain ⟨e1, e2, e3, e4, e5, e6, e7, e8⟩ := hc
    obtain ⟨hn1, hn2⟩ := List.nodup_cons.mp hn
    have hgd : (τ 3 p = nI g) ↔ d = true := left_is (x := 0) e4 e5 hg (rep_lt e7) (fun e => hn1 (by simp [csl, e]))
    have hpn : (p :: csl c).Nodup := by
      simp only [csl] at hn2
      obtain ⟨q1, q2⟩ := List.nodup_cons.mp hn2
      exact List.nodup_cons.mpr ⟨fun e => q1 (by simp [e]), (List.nodup_append.mp q2).2.1⟩
    obtain ⟨y, a1, a2⟩ := num_climb (F := F) d0 c p (i + 1) n e1 e8 hpn (by omega) (by omega)
    have h77 : fX4_nextByNumber_77 F τ (fun x2 x3 x4 => fX4_nextByNumber_41 F τ n x2 x3 x4) (nI p) (nI i) = some y := by
      unfold fX4_nextByNumber_77
      rw [cg_parent e1, e6, Option.bind_some, nI_1]
      exact a1
    rw [fX4_nextByNumber_41, if_neg (n60le (by omega))]
    show ∃ y, (if nI p = -1 then _ else (fX4_leftOf F τ (nI p)).bind _) = some y ∧ _
    rw [if_neg (nI_m1 p (by omega)), cg_left e1, Option.bind_some]
    show ∃ y, (if τ 3 p = nI g then (fX4_rightOf F τ (nI p)).bind _ else fX4_nextByNumber_77 F τ _ (nI p) (nI i)) = some y ∧ _
    cases d
    · rw [if_neg (fun z => absurd (hgd.mp z) (by decide))]
      exact ⟨y, h77, a2⟩
    · rw [if_pos (hgd.mpr rfl), cg_right e1, Option.bind_some]
      have e5' : τ 4 p = trt o := e5
      rcases gt_cases o with ho | ⟨r2, s2, k2, a2', b2', ho⟩
      · subst ho
        refine ⟨y, ?_, a2⟩
        rw [if_pos (by rw [e5']; rfl)]
        exact h77
      · have hne : o ≠ .leaf := by rw [ho]; intro e; cases e
        refine ⟨trt o, ?_, posN_tr e7 hne _ _⟩
        rw [if_neg (by rw [e5']; exact fun e => hne ((trt_m1 e7).mp e)), show cpar ((true, r, p, k, o) :: c) = nI p from rfl, cg_right e1, Option.bind_some, e5']
theorem num_next {F : Nat} (hF : 100 ≤ F) {τ : Tau} {t : Gt} (hI : Str τ t) {s e : Nat} {l1 l2 : List (Nat × Nat)} (hl : dps t 0 = l1 ++ (s, e) :: l2) : ∃ y, fX4_nextByNumber F τ (nI s) = some y ∧ posN l2 y := by
  obtain ⟨i1, i2, i3, i10⟩ := hI
  have hs : s ∈ tsl t := dps_mem t 0 (s, e) (by rw [hl]; simp)
  have s60 := rep_lt i1 s hs
  obtain ⟨c, r, k', a, b, et⟩ := locate hs
  obtain ⟨n1, n2⟩ := (rep_plug (τ := τ) c (nd r s k' a b)).mp ⟨by rw [← et]; exact i1, by rw [← et]; exact i2⟩
  obtain ⟨-, hk', hr, hleft, hright, hp, ha, hb⟩ := id n1
  have hperm := tsl_plug c (nd r s k' a b)
  rw [← et] at hperm
  have hnd := hperm.nodup i3
  have hplen := hperm.length_eq
  rw [List.length_append, tsl_nd] at hplen
  simp only [List.length_append, List.length_cons] at hplen
  have hcl := csl_len c
  have hd : dps t 0 = dpl c 0 ++ (s, c.length) :: (dps a (c.length + 1) ++ dps b (c.length + 1) ++ dpr c 0) := by
    rw [et, dps_plug]; simp [dps]
  have hl2 : l2 = dps a (c.length + 1) ++ dps b (c.length + 1) ++ dpr c 0 := by
    have hn := dps_nodup i3 0
    rw [hl] at hn
    exact (psplit hn (hl.symm.trans hd)).2.2
  rw [hl2]
  unfold fX4_nextByNumber
  rw [cg_left s60, hleft, Option.bind_some]
  rcases gt_cases a with hal | ⟨r2, s2, k2, a2, b2, han⟩
  · rw [if_pos (by rw [hal]; rfl), cg_right s60, hright, Option.bind_some]
    rcases gt_cases b with hbl | ⟨r3, s3, k3, a3, b3, hbn⟩
    · rw [if_pos (by rw [hbl]; rfl), cg_parent s60, hp, Option.bind_some]
      have hsn : (s :: csl c).Nodup := by
        have h1 := List.nodup_append.mp hnd
        exact List.nodup_cons.mpr ⟨fun e => h1.2.2 s (by simp [tsl]) s e rfl, h1.2.1⟩
      obtain ⟨y, b1, b2⟩ := num_climb (F := F) 0 c s 0 F s60 n2 hsn (by omega) (by omega)
      refine ⟨y, b1, ?_⟩
      rw [hal, hbl]
      exact b2
    · have hne : b ≠ .leaf := by rw [hbn]; intro e; cases e
      rw [if_neg (fun e => hne ((trt_m1 hb).mp e)), Option.bind_some]
      refine ⟨_, rfl, ?_⟩
      rw [hal]
      exact posN_tr hb hne _ _
  · have hne : a ≠ .leaf := by rw [han]; intro e; cases e
    rw [if_neg (fun e => hne ((trt_m1 ha).mp e)), Option.bind_some]
    refine ⟨_, rfl, ?_⟩
    rw [List.append_assoc]
    exact posN_tr ha hne _ _
theorem num_first {τ : Tau} {t : Gt} (hI : Str τ t) : posN (dps t 0) (τ 6 0) := by
  rw [hI.2.1]
  cases t with
  | leaf => exact Or.inl ⟨rfl, rfl⟩
  | inner r s k a b => exact Or.inr ⟨s, 0, _, rfl, hI.1.1, rfl⟩
theorem slotno {F : Nat} (hF : 100 ≤ F) {τ : Tau} {t : Gt} (hI : Str τ t) : ∀ (l2 l1 : List (Nat × Nat)) (y : Int32) (k n : Nat), dps t 0 = l1 ++ l2 → posN l2 y → l1.length ≤ k → k < l1.length + l2.length → k < 100 → l2.length < n → ∃ p, l2[k - l1.length]? = some p ∧ fX4_slotOfNumber_21 F τ n (nI k) y (nI l1.length) = some (nI p.1)
  | [], l1, y, k, n, ht, hp, hk, hk2, hk3, hn => by simp at hk2; omega
  | (s, e) :: l, l1, y, k, n, ht, hp, hk, hk2, hk3, hn => by
    obtain ⟨n, rfl⟩ : ∃ z, n = z + 1 := ⟨n - 1, by omega⟩
    simp only [List.length_cons] at hk2 hn
    rcases hp with ⟨h, -⟩ | ⟨s', e', l', h1, h2, h3⟩
    · cases h
    · obtain ⟨h1a, rfl⟩ := List.cons.inj h1
      cases h1a
      rw [fX4_slotOfNumber_21, h3]
      by_cases hki : k = l1.length
      · subst hki
        rw [if_pos (Int32.le_refl _), Nat.sub_self]
        exact ⟨_, rfl, rfl⟩
      · rw [if_neg (nI_ge (by omega) (by omega))]
        obtain ⟨y', f1, f2⟩ := num_next hF hI ht
        obtain ⟨p, g1, g2⟩ := slotno hF hI l (l1 ++ [(s, e)]) y' k n (by rw [ht]; simp) f2 (by simp; omega) (by simp; omega) hk3 (by omega)
        rw [f1, Option.bind_some, nI_1]
        rw [List.length_append] at g1 g2
        refine ⟨p, ?_, g2⟩
        rw [show k - l1.length = (k - (l1.length + 1)) + 1 by omega, List.getElem?_cons_succ]
        exact g1
theorem noOf {F : Nat} (hF : 100 ≤ F) {τ : Tau} {t : Gt} (hI : Str τ t) (hc : τ 6 1 = nI (tsl t).length) {s e : Nat} (s60 : s < 60) : ∀ (m1 l1 m2 : List (Nat × Nat)) (y : Int32) (n : Nat), dps t 0 = l1 ++ (m1 ++ (s, e) :: m2) → posN (m1 ++ (s, e) :: m2) y → m1.length < n → fX4_numberOfSlot_7 F τ n (nI s) y (nI l1.length) = some (nI (l1.length + m1.length))
  | [], l1, m2, y, n, ht, hp, hn => by
    obtain ⟨n, rfl⟩ : ∃ z, n = z + 1 := ⟨n - 1, by omega⟩
    have hlen : (tsl t).length = l1.length + (m2.length + 1) := by rw [← dps_len t 0, ht]; simp
    have h60 := hI.2.2.2
    rcases hp with ⟨h, -⟩ | ⟨s', e', l', h1, h2, h3⟩
    · cases h
    · obtain ⟨h1a, rfl⟩ := List.cons.inj h1
      cases h1a
      rw [fX4_numberOfSlot_7, hc, if_neg (nI_ge (by omega) (by omega)), h3, if_pos rfl]
      rfl
  | (q, f) :: m1, l1, m2, y, n, ht, hp, hn => by
    obtain ⟨n, rfl⟩ : ∃ z, n = z + 1 := ⟨n - 1, by omega⟩
    simp only [List.length_cons] at hn
    have hlen : (tsl t).length = l1.length + (m1.length + 1 + (m2.length + 1)) := by rw [← dps_len t 0, ht]; simp; omega
    have h60 := hI.2.2.2
    rcases hp with ⟨h, -⟩ | ⟨s', e', l', h1, h2, h3⟩
    · cases h
    · obtain ⟨h1a, rfl⟩ := List.cons.inj h1
      cases h1a
      have hne : q ≠ s := by
        intro e'
        subst e'
        have hn := dps_nodup hI.2.2.1 0
        rw [ht] at hn
        have hn2 : ((((q, f) :: m1) ++ (q, e) :: m2).map Prod.fst).Nodup := by
          rw [List.map_append] at hn
          exact (List.nodup_append.mp hn).2.1
        have hn3 : (q :: ((m1 ++ (q, e) :: m2).map Prod.fst)).Nodup := hn2
        exact (List.nodup_cons.mp hn3).1 (List.mem_map.mpr ⟨(q, e), by simp, rfl⟩)
      rw [fX4_numberOfSlot_7, hc, if_neg (nI_ge (by omega) (by omega)), h3, if_neg (fun z => hne (nI_inj h2 s60 z))]
      obtain ⟨y', f1, f2⟩ := num_next hF hI (l1 := l1) (l2 := m1 ++ (s, e) :: m2) ht
      have := noOf hF hI hc s60 m1 (l1 ++ [(q, f)]) m2 y' n (by rw [ht]; simp) f2 (by omega)
      rw [f1, Option.bind_some, nI_1]
      rw [List.length_append] at this
      rw [List.length_cons, show l1.length + (m1.length + 1) = l1.length + 1 + m1.length by omega]
      exact this
theorem noNone {F : Nat} (hF : 100 ≤ F) {τ : Tau} {t : Gt} (hI : Str τ t) (hc : τ 6 1 = nI (tsl t).length) : ∀ (l2 l1 : List (Nat × Nat)) (y : Int32) (n : Nat), dps t 0 = l1 ++ l2 → posN l2 y → l2.length < n → fX4_numberOfSlot_7 F τ n (-1) y (nI l1.length) = some (-1)
  | [], l1, y, n, ht, hp, hn => by
    obtain ⟨n, rfl⟩ : ∃ z, n = z + 1 := ⟨n - 1, by omega⟩
    have hlen : (tsl t).length = l1.length := by rw [← dps_len t 0, ht]; simp
    rw [fX4_numberOfSlot_7, hc, hlen, if_pos (Int32.le_refl _)]
  | (q, f) :: l2, l1, y, n, ht, hp, hn => by
    obtain ⟨n, rfl⟩ : ∃ z, n = z + 1 := ⟨n - 1, by omega⟩
    simp only [List.length_cons] at hn
    have hlen : (tsl t).length = l1.length + (l2.length + 1) := by rw [← dps_len t 0, ht]; simp
    have h60 := hI.2.2.2
    rcases hp with ⟨h, -⟩ | ⟨s', e', l', h1, h2, h3⟩
    · cases h
    · obtain ⟨h1a, rfl⟩ := List.cons.inj h1
      cases h1a
      rw [fX4_numberOfSlot_7, hc, if_neg (nI_ge (by omega) (by omega)), h3, if_neg (nI_m1 q (by omega))]
      obtain ⟨y', f1, f2⟩ := num_next hF hI (l1 := l1) ht
      have := noNone hF hI hc l2 (l1 ++ [(q, f)]) y' n (by rw [ht]; simp) f2 (by omega)
      rw [f1, Option.bind_some, nI_1]
      rw [List.length_append] at this
      exact this
