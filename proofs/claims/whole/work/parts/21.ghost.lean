/-! ===== the ghost tree: rank, slot, key, two subtrees ===== -/
abbrev Gt : Type := Std.DTreeMap.Internal.Impl Nat (fun _ => Int32)
abbrev nd (r s : Nat) (k : Int32) (a b : Gt) : Gt := .inner r s k a b
/-- a on side d (true: left), b on the other -/
def nd2 (d : Bool) (r s : Nat) (k : Int32) (a b : Gt) : Gt := if d then nd r s k a b else nd r s k b a
def tsl : Gt → List Nat
  | .leaf => []
  | .inner _ s _ a b => tsl a ++ s :: tsl b
def tks : Gt → List Int32
  | .leaf => []
  | .inner _ _ k a b => tks a ++ k :: tks b
def trt : Gt → Int32
  | .leaf => -1
  | .inner _ s _ _ _ => nI s
def trk : Gt → Int
  | .leaf => -1
  | .inner r _ _ _ _ => r
def rep (τ : Tau) : Gt → Int32 → Prop
  | .leaf, _ => True
  | .inner r s k a b, p => s < 60 ∧ τ 0 s = k ∧ τ 2 s = nI r ∧ τ 3 s = trt a ∧ τ 4 s = trt b ∧ τ 5 s = p ∧ rep τ a (nI s) ∧ rep τ b (nI s)
abbrev Fr : Type := Bool × Nat × Nat × Int32 × Gt
def plug : List Fr → Gt → Gt
  | [], t => t
  | (d, r, s, k, o) :: c, t => plug c (nd2 d r s k t o)
def cpar : List Fr → Int32
  | [] => -1
  | (_, _, s, _, _) :: _ => nI s
def cdir : List Fr → Bool
  | [] => false
  | (d, _, _, _, _) :: _ => d
def csl : List Fr → List Nat
  | [] => []
  | (_, _, s, _, o) :: c => s :: (tsl o ++ csl c)
def repc (τ : Tau) : List Fr → Int32 → Prop
  | [], x => τ 6 0 = x
  | (d, r, s, k, o) :: c, x => s < 60 ∧ τ 0 s = k ∧ τ 2 s = nI r ∧ τ (cc d) s = x ∧ τ (cc (!d)) s = trt o ∧ τ 5 s = cpar c ∧ rep τ o (nI s) ∧ repc τ c (nI s)
theorem rep_nd2 {τ : Tau} {d : Bool} {r s : Nat} {k : Int32} {a b : Gt} {p : Int32} : rep τ (nd2 d r s k a b) p ↔ (s < 60 ∧ τ 0 s = k ∧ τ 2 s = nI r ∧ τ (cc d) s = trt a ∧ τ (cc (!d)) s = trt b ∧ τ 5 s = p ∧ rep τ a (nI s) ∧ rep τ b (nI s)) := by
  cases d
  · show rep τ (nd r s k b a) p ↔ _
    simp only [rep, cc, Bool.not_false, if_true, Bool.false_eq_true, if_false]
    constructor
    · rintro ⟨h1, h2, h3, h4, h5, h6, h7, h8⟩; exact ⟨h1, h2, h3, h5, h4, h6, h8, h7⟩
    · rintro ⟨h1, h2, h3, h4, h5, h6, h7, h8⟩; exact ⟨h1, h2, h3, h5, h4, h6, h8, h7⟩
  · exact Iff.rfl
theorem trt_nd2 (d : Bool) (r s : Nat) (k : Int32) (a b : Gt) : trt (nd2 d r s k a b) = nI s := by cases d <;> rfl
theorem trk_nd2 (d : Bool) (r s : Nat) (k : Int32) (a b : Gt) : trk (nd2 d r s k a b) = r := by cases d <;> rfl
theorem nd2_ne (d : Bool) (r s : Nat) (k : Int32) (a b : Gt) : nd2 d r s k a b ≠ .leaf := by cases d <;> (intro h; cases h)
theorem nd2_not (d : Bool) (r s : Nat) (k : Int32) (a b : Gt) : nd2 (!d) r s k a b = nd2 d r s k b a := by cases d <;> rfl
theorem tsl_nd2 (d : Bool) (r s : Nat) (k : Int32) (a b : Gt) : (tsl (nd2 d r s k a b)).Perm (s :: (tsl a ++ tsl b)) := by
  cases d
  · show (tsl b ++ s :: tsl a).Perm _
    exact List.perm_middle.trans (List.Perm.cons _ List.perm_append_comm)
  · show (tsl a ++ s :: tsl b).Perm _
    exact List.perm_middle
theorem gt_cases (t : Gt) : t = .leaf ∨ ∃ r s k a b, t = nd r s k a b := by
  cases t with
  | leaf => exact Or.inl rfl
  | inner r s k a b => exact Or.inr ⟨r, s, k, a, b, rfl⟩
theorem gt_cases2 (d : Bool) (t : Gt) : t = .leaf ∨ ∃ r s k a b, t = nd2 d r s k a b := by
  rcases gt_cases t with h | ⟨r, s, k, a, b, rfl⟩
  · exact Or.inl h
  · cases d
    · exact Or.inr ⟨r, s, k, b, a, rfl⟩
    · exact Or.inr ⟨r, s, k, a, b, rfl⟩
theorem rep_plug {τ : Tau} : ∀ (c : List Fr) (t : Gt), (rep τ (plug c t) (-1) ∧ τ 6 0 = trt (plug c t)) ↔ (rep τ t (cpar c) ∧ repc τ c (trt t))
  | [], t => Iff.rfl
  | (d, r, s, k, o) :: c, t => by
    show (rep τ (plug c (nd2 d r s k t o)) (-1) ∧ τ 6 0 = trt (plug c (nd2 d r s k t o))) ↔ _
    rw [rep_plug c, rep_nd2, trt_nd2]
    show _ ↔ (rep τ t (nI s) ∧ (s < 60 ∧ τ 0 s = k ∧ τ 2 s = nI r ∧ τ (cc d) s = trt t ∧ τ (cc (!d)) s = trt o ∧ τ 5 s = cpar c ∧ rep τ o (nI s) ∧ repc τ c (nI s)))
    constructor
    · rintro ⟨⟨h1, h2, h3, h4, h5, h6, h7, h8⟩, h9⟩; exact ⟨h7, h1, h2, h3, h4, h5, h6, h8, h9⟩
    · rintro ⟨h7, h1, h2, h3, h4, h5, h6, h8, h9⟩; exact ⟨⟨h1, h2, h3, h4, h5, h6, h7, h8⟩, h9⟩
theorem tsl_plug : ∀ (c : List Fr) (t : Gt), (tsl (plug c t)).Perm (tsl t ++ csl c)
  | [], t => by rw [csl, List.append_nil]; exact List.Perm.refl _
  | (d, r, s, k, o) :: c, t => by
    refine (tsl_plug c (nd2 d r s k t o)).trans ?_
    refine ((tsl_nd2 d r s k t o).append_right _).trans ?_
    show (s :: (tsl t ++ tsl o) ++ csl c).Perm (tsl t ++ s :: (tsl o ++ csl c))
    simp only [List.cons_append, List.append_assoc]
    exact List.perm_middle.symm
/-- keys left and right of the hole -/
def ckl : List Fr → List Int32
  | [] => []
  | (d, _, _, k, o) :: c => ckl c ++ (if d then [] else tks o ++ [k])
def ckr : List Fr → List Int32
  | [] => []
  | (d, _, _, k, o) :: c => (if d then k :: tks o else []) ++ ckr c
theorem tks_plug : ∀ (c : List Fr) (t : Gt), tks (plug c t) = ckl c ++ tks t ++ ckr c
  | [], t => by simp [plug, ckl, ckr]
  | (d, r, s, k, o) :: c, t => by
    show tks (plug c (nd2 d r s k t o)) = _
    rw [tks_plug c]
    cases d <;> simp [ckl, ckr, nd2, tks]
theorem rep_lt {τ : Tau} : ∀ {t : Gt} {p : Int32}, rep τ t p → ∀ s ∈ tsl t, s < 60
  | .leaf, _, _, s, hs => by cases hs
  | .inner r q k a b, p, h, s, hs => by
    obtain ⟨h1, -, -, -, -, -, h7, h8⟩ := h
    rcases List.mem_append.mp hs with h | h
    · exact rep_lt h7 s h
    · rcases List.mem_cons.mp h with rfl | h
      · exact h1
      · exact rep_lt h8 s h
theorem repc_lt {τ : Tau} : ∀ {c : List Fr} {x : Int32}, repc τ c x → ∀ s ∈ csl c, s < 60
  | [], _, _, s, hs => by cases hs
  | (d, r, q, k, o) :: c, x, h, s, hs => by
    obtain ⟨h1, -, -, -, -, -, h7, h8⟩ := h
    rcases List.mem_cons.mp hs with rfl | h
    · exact h1
    · rcases List.mem_append.mp h with h | h
      · exact rep_lt h7 s h
      · exact repc_lt h8 s h
theorem trt_sl {τ : Tau} {t : Gt} {p : Int32} (h : rep τ t p) : sl (trt t) := by
  cases t with
  | leaf => exact sl_m1
  | inner r s k a b => exact sl_nI h.1
theorem cpar_sl {τ : Tau} {c : List Fr} {x : Int32} (h : repc τ c x) : sl (cpar c) := by
  cases c with
  | nil => exact sl_m1
  | cons f c => obtain ⟨d, r, s, k, o⟩ := f; exact sl_nI h.1
theorem trt_mem : ∀ {t : Gt} {s : Nat}, trt t = nI s → s < 60 → (∀ q ∈ tsl t, q < 60) → s ∈ tsl t
  | .leaf, s, h, hs, _ => absurd h.symm (nI_m1 s (by omega))
  | .inner r q k a b, s, h, hs, hq => by
    have : q = s := nI_inj (hq q (by simp [tsl])) hs h
    subst this
    simp [tsl]
theorem trt_ne {t : Gt} {s : Nat} (hs : s < 60) (hq : ∀ q ∈ tsl t, q < 60) (hn : s ∉ tsl t) : trt t ≠ nI s := fun h => hn (trt_mem h hs hq)
/-- nothing of the tree has changed -/
theorem rep_same {τ τ' : Tau} : ∀ {t : Gt} {p : Int32}, rep τ t p → (∀ s ∈ tsl t, τ' 0 s = τ 0 s ∧ τ' 2 s = τ 2 s ∧ τ' 3 s = τ 3 s ∧ τ' 4 s = τ 4 s ∧ τ' 5 s = τ 5 s) → rep τ' t p
  | .leaf, _, _, _ => trivial
  | .inner r s k a b, p, h, hs => by
    obtain ⟨h1, h2, h3, h4, h5, h6, h7, h8⟩ := h
    obtain ⟨g0, g2, g3, g4, g5⟩ := hs s (by simp [tsl])
    exact ⟨h1, g0.trans h2, g2.trans h3, g3.trans h4, g4.trans h5, g5.trans h6, rep_same h7 (fun q hq => hs q (by simp [tsl, hq])), rep_same h8 (fun q hq => hs q (by simp [tsl, hq]))⟩
/-- only the root's parent has changed -/
theorem rep_re {τ τ' : Tau} {t : Gt} {p p' : Int32} (h : rep τ t p) (hn : (tsl t).Nodup) (hs : ∀ s ∈ tsl t, τ' 0 s = τ 0 s ∧ τ' 2 s = τ 2 s ∧ τ' 3 s = τ 3 s ∧ τ' 4 s = τ 4 s ∧ (nI s ≠ trt t → τ' 5 s = τ 5 s)) (hp : ∀ s, s < 60 → trt t = nI s → τ' 5 s = p') : rep τ' t p' := by
  cases t with
  | leaf => trivial
  | inner r s k a b =>
    obtain ⟨h1, h2, h3, h4, h5, h6, h7, h8⟩ := h
    obtain ⟨g0, g2, g3, g4, g5⟩ := hs s (by simp [tsl])
    have hn2 : (s :: (tsl a ++ tsl b)).Nodup := (List.perm_middle (l₁ := tsl a) (l₂ := tsl b) (a := s)).nodup hn
    have hns := (List.nodup_cons.mp hn2).1
    have hne : ∀ q ∈ tsl a ++ tsl b, q < 60 → nI q ≠ nI s := fun q hq h60 e => hns (by rw [← nI_inj h60 h1 e]; exact hq)
    refine ⟨h1, g0.trans h2, g2.trans h3, g3.trans h4, g4.trans h5, hp s h1 rfl, rep_same h7 (fun q hq => ?_), rep_same h8 (fun q hq => ?_)⟩
    · obtain ⟨a0, a2, a3, a4, a5⟩ := hs q (by simp [tsl, hq])
      exact ⟨a0, a2, a3, a4, a5 (hne q (by simp [hq]) (rep_lt h7 q hq))⟩
    · obtain ⟨a0, a2, a3, a4, a5⟩ := hs q (by simp [tsl, hq])
      exact ⟨a0, a2, a3, a4, a5 (hne q (by simp [hq]) (rep_lt h8 q hq))⟩
theorem repc_same {τ τ' : Tau} : ∀ {c : List Fr} {x : Int32}, repc τ c x → (∀ s ∈ csl c, τ' 0 s = τ 0 s ∧ τ' 2 s = τ 2 s ∧ τ' 3 s = τ 3 s ∧ τ' 4 s = τ 4 s ∧ τ' 5 s = τ 5 s) → τ' 6 0 = τ 6 0 → repc τ' c x
  | [], _, h, _, h6 => h6.trans h
  | (d, r, s, k, o) :: c, x, h, hs, h60 => by
    obtain ⟨h1, h2, h3, h4, h5, h6, h7, h8⟩ := h
    obtain ⟨g0, g2, g3, g4, g5⟩ := hs s (by simp [csl])
    have gc : ∀ d, τ' (cc d) s = τ (cc d) s := fun d => by cases d <;> assumption
    exact ⟨h1, g0.trans h2, g2.trans h3, (gc d).trans h4, (gc _).trans h5, g5.trans h6, rep_same h7 (fun q hq => hs q (by simp [csl, hq])), repc_same h8 (fun q hq => hs q (by simp [csl, hq])) h60⟩
/-- only what hangs at the hole has changed -/
theorem repc_re {τ τ' : Tau} {c : List Fr} {x x' : Int32} (h : repc τ c x) (hn : (csl c).Nodup)
    (h0 : c = [] → τ' 6 0 = x') (h1 : ∀ s, s < 60 → cpar c = nI s → τ' (cc (cdir c)) s = x' ∧ τ' (cc (!cdir c)) s = τ (cc (!cdir c)) s ∧ τ' 0 s = τ 0 s ∧ τ' 2 s = τ 2 s ∧ τ' 5 s = τ 5 s ∧ τ' 6 0 = τ 6 0)
    (hs : ∀ s ∈ csl c, cpar c ≠ nI s → τ' 0 s = τ 0 s ∧ τ' 2 s = τ 2 s ∧ τ' 3 s = τ 3 s ∧ τ' 4 s = τ 4 s ∧ τ' 5 s = τ 5 s) : repc τ' c x' := by
  cases c with
  | nil => exact h0 rfl
  | cons f c =>
    obtain ⟨d, r, s, k, o⟩ := f
    obtain ⟨e1, e2, e3, e4, e5, e6, e7, e8⟩ := h
    obtain ⟨g1, g2, g3, g4, g5, g6⟩ := h1 s e1 rfl
    have hns := (List.nodup_cons.mp hn).1
    have hne : ∀ q ∈ tsl o ++ csl c, q < 60 → nI s ≠ nI q := fun q hq h60 e => hns (by rw [nI_inj e1 h60 e]; exact hq)
    refine ⟨e1, g3.trans e2, g4.trans e3, g1, g2.trans e5, g5.trans e6, rep_same e7 (fun q hq => ?_), repc_same e8 (fun q hq => ?_) g6⟩
    · exact hs q (by simp [csl, hq]) (hne q (by simp [hq]) (rep_lt e7 q hq))
    · exact hs q (by simp [csl, hq]) (hne q (by simp [hq]) (repc_lt e8 q hq))
/-- hanging, place by place -/
theorem hang_app {τ : Tau} {p x : Int32} (hp : sl p) (hx : sl x) (d : Bool) {c s : Nat} (hs : s < 60) (hc : c < 6) : hangT τ p d x c s = if p = nI s ∧ c = cc d then x else if x = nI s ∧ c = 5 then p else τ c s := by
  unfold hangT
  have hcd := cc_le d
  rcases hx with rfl | ⟨q, hq, rfl⟩
  · have e1 : ¬ ((-1 : Int32) = nI s ∧ c = 5) := fun h => nI_m1 s (by omega) h.1.symm
    simp only [if_true, if_neg e1]
    rcases hp with rfl | ⟨w, hw, rfl⟩
    · have e2 : ¬ ((-1 : Int32) = nI s ∧ c = cc d) := fun h => nI_m1 s (by omega) h.1.symm
      rw [if_pos rfl, if_neg e2, u2_row τ _ (show c ≠ 6 by omega)]
    · rw [if_neg (nI_m1 w (by omega)), u2_app, nI_cl hw]
      have : (c = cc d ∧ s = w) ↔ (nI w = nI s ∧ c = cc d) := ⟨fun h => ⟨by rw [h.2], h.1⟩, fun h => ⟨h.2, (nI_inj hw hs h.1).symm⟩⟩
      simp only [this]
  · simp only [if_neg (nI_m1 q (show q < 2 ^ 31 by omega)), nI_cl hq]
    have hq5 : (c = 5 ∧ s = q) ↔ (nI q = nI s ∧ c = 5) := ⟨fun h => ⟨by rw [h.2], h.1⟩, fun h => ⟨h.2, (nI_inj hq hs h.1).symm⟩⟩
    rcases hp with rfl | ⟨w, hw, rfl⟩
    · have e2 : ¬ ((-1 : Int32) = nI s ∧ c = cc d) := fun h => nI_m1 s (by omega) h.1.symm
      rw [if_pos rfl, if_neg e2, u2_row _ _ (show c ≠ 6 by omega), u2_app]
      simp only [hq5]
    · rw [if_neg (nI_m1 w (by omega)), u2_app, u2_app, nI_cl hw]
      have : (c = cc d ∧ s = w) ↔ (nI w = nI s ∧ c = cc d) := ⟨fun h => ⟨by rw [h.2], h.1⟩, fun h => ⟨h.2, (nI_inj hw hs h.1).symm⟩⟩
      simp only [this, hq5]
theorem hang_6 (τ : Tau) (p x : Int32) (d : Bool) (k : Nat) : hangT τ p d x 6 k = if p = -1 ∧ k = 0 then x else τ 6 k := by
  unfold hangT
  have hcd := cc_le d
  by_cases hx : x = -1
  · simp only [hx, if_true]
    by_cases hp : p = -1
    · simp [hp, u2_app]
    · rw [if_neg hp, u2_row _ _ (show (6 : Nat) ≠ cc d by omega), if_neg (fun h => hp h.1)]
  · simp only [if_neg hx]
    by_cases hp : p = -1
    · simp [hp, u2_app]
    · rw [if_neg hp, u2_row _ _ (show (6 : Nat) ≠ cc d by omega), if_neg (fun h => hp h.1), u2_row _ _ (by omega)]
theorem hang_row (τ : Tau) (p x : Int32) (d : Bool) {c : Nat} (hc : c < 3 ∨ 6 < c) : hangT τ p d x c = τ c := by
  unfold hangT
  have hcd := cc_le d
  by_cases hx : x = -1
  · simp only [hx, if_true]
    by_cases hp : p = -1
    · rw [if_pos hp, u2_row _ _ (by omega)]
    · rw [if_neg hp, u2_row _ _ (by omega)]
  · simp only [if_neg hx]
    by_cases hp : p = -1
    · rw [if_pos hp, u2_row _ _ (by omega), u2_row _ _ (by omega)]
    · rw [if_neg hp, u2_row _ _ (by omega), u2_row _ _ (by omega)]
