/-! ===== ranks, counts, and the two sides in step ===== -/
abbrev oI (z : Int) : Int32 := Int32.ofInt z
theorem nI_oI (n : Nat) : nI n = oI n := by
  unfold nI oI
  exact (Int32.ofInt_eq_ofNat).symm
theorem oI_sub (a b : Int) : oI a - oI b = oI (a - b) := (Int32.ofInt_sub a b).symm
theorem oI_eq {a b : Int} (ha : -1000 ≤ a ∧ a ≤ 1000) (hb : -1000 ≤ b ∧ b ≤ 1000) : oI a = oI b ↔ a = b := by
  constructor
  · intro h
    have h1 := congrArg Int32.toInt h
    unfold oI at h1
    rw [Int32.toInt_ofInt_of_le (by omega) (by omega), Int32.toInt_ofInt_of_le (by omega) (by omega)] at h1
    exact h1
  · rintro rfl; rfl
theorem nI_less (r : Nat) : nI (r + 1) + (-1) = nI r := by
  rw [nI_succ]
  rw [Int32.add_assoc]
  have : (1 : Int32) + (-1) = 0 := by decide
  rw [this, Int32.add_zero]
theorem nI_less2 (r : Nat) : nI (r + 2) + (-2) = nI r := by
  rw [show nI (r + 2) = nI r + 2 from (nI_add r 2).symm, Int32.add_assoc]
  have : (2 : Int32) + (-2) = 0 := by decide
  rw [this, Int32.add_zero]
/-- steps that are right -/
def stp (r q : Int) : Prop := r - q = 1 ∨ r - q = 2
def wv : Gt → Prop
  | .leaf => True
  | .inner r _ _ a b => stp r (trk a) ∧ stp r (trk b) ∧ (a = .leaf → b = .leaf → r = 0) ∧ wv a ∧ wv b
def wc : List Fr → Int → Prop
  | [], _ => True
  | (_, r, _, _, o) :: c, q => stp r q ∧ stp r (trk o) ∧ (q = -1 → o = .leaf → r = 0) ∧ wv o ∧ wc c r
theorem wv_nd2 {d : Bool} {r s : Nat} {k : Int32} {a b : Gt} : wv (nd2 d r s k a b) ↔ (stp r (trk a) ∧ stp r (trk b) ∧ (a = .leaf → b = .leaf → r = 0) ∧ wv a ∧ wv b) := by
  cases d
  · show (stp r (trk b) ∧ stp r (trk a) ∧ (b = .leaf → a = .leaf → r = 0) ∧ wv b ∧ wv a) ↔ _
    constructor
    · rintro ⟨h1, h2, h3, h4, h5⟩; exact ⟨h2, h1, fun x y => h3 y x, h5, h4⟩
    · rintro ⟨h1, h2, h3, h4, h5⟩; exact ⟨h2, h1, fun x y => h3 y x, h5, h4⟩
  · exact Iff.rfl
theorem trk_leaf {t : Gt} (h : trk t = -1) : t = .leaf := by
  cases t with
  | leaf => rfl
  | inner r s k a b => simp only [trk] at h; omega
theorem trk_ge (t : Gt) : -1 ≤ trk t := by
  cases t with
  | leaf => simp [trk]
  | inner r s k a b => simp only [trk]; omega
theorem wv_plug : ∀ (c : List Fr) (t : Gt), wv (plug c t) ↔ (wc c (trk t) ∧ wv t)
  | [], t => ⟨fun h => ⟨trivial, h⟩, fun h => h.2⟩
  | (d, r, s, k, o) :: c, t => by
    show wv (plug c (nd2 d r s k t o)) ↔ _
    rw [wv_plug c, wv_nd2, trk_nd2]
    show _ ↔ ((stp r (trk t) ∧ stp r (trk o) ∧ (trk t = -1 → o = .leaf → r = 0) ∧ wv o ∧ wc c r) ∧ wv t)
    constructor
    · rintro ⟨h1, h2, h3, h4, h5, h6⟩; exact ⟨⟨h2, h3, fun e => h4 (trk_leaf e), h6, h1⟩, h5⟩
    · rintro ⟨⟨h1, h2, h3, h4, h5⟩, h6⟩; exact ⟨h5, h1, h2, fun e => h3 (by rw [e]; rfl), h6, h4⟩
theorem trk_le : ∀ {t : Gt}, wv t → trk t ≤ 2 * (tsl t).length
  | .leaf, _ => by simp [trk, tsl]
  | .inner r s k a b, h => by
    obtain ⟨h1, h2, h3, h4, h5⟩ := h
    have := trk_le h4
    have := trk_le h5
    simp only [trk, tsl, List.length_append, List.length_cons]
    rcases h1 with h1 | h1 <;> omega
theorem cg_rk {F : Nat} {τ : Tau} {t : Gt} {p : Int32} (h : rep τ t p) : fX4_rankOf F τ (trt t) = some (oI (trk t)) := by
  cases t with
  | leaf => rfl
  | inner r s k a b =>
    show fX4_rankOf F τ (nI s) = _
    rw [cg_rank h.1, h.2.2.1, nI_oI]; rfl
theorem mg_rkt {F : Nat} {τ : Tau} {t : Gt} {p : Int32} (h : rep τ t p) : fX9_rankOf F (flat τ) (trt t) = some (oI (trk t)) := by
  cases t with
  | leaf => rfl
  | inner r s k a b =>
    show fX9_rankOf F (flat τ) (nI s) = _
    rw [mg_rank h.1, h.2.2.1, nI_oI]; rfl
theorem cg_st {F : Nat} {τ : Tau} {s r : Nat} (hs : s < 60) (hr : τ 2 s = nI r) {t : Gt} {p : Int32} (h : rep τ t p) : fX4_step F τ (nI s) (trt t) = some (oI (r - trk t)) := by
  rw [cg_step (by rw [cg_rank hs, hr]) (cg_rk h), nI_oI, oI_sub]
theorem mg_st {F : Nat} {τ : Tau} {s r : Nat} (hs : s < 60) (hr : τ 2 s = nI r) {t : Gt} {p : Int32} (h : rep τ t p) : fX9_step F (flat τ) (nI s) (trt t) = some (oI (r - trk t)) := by
  rw [mg_step hs (mg_rkt h), hr, nI_oI, oI_sub]
/-- rows that the tree doesn't look at -/
theorem rep_row {τ τ' : Tau} {t : Gt} {p : Int32} (h : rep τ t p) (e : ∀ r, r ≤ 5 → τ' r = τ r) : rep τ' t p := rep_same h (fun s _ => by rw [e 0 (by omega), e 2 (by omega), e 3 (by omega), e 4 (by omega), e 5 (by omega)]; exact ⟨rfl, rfl, rfl, rfl, rfl⟩)
theorem repc_row {τ τ' : Tau} {c : List Fr} {x : Int32} (h : repc τ c x) (e : ∀ r, r ≤ 6 → τ' r = τ r) : repc τ' c x := repc_same h (fun s _ => by rw [e 0 (by omega), e 2 (by omega), e 3 (by omega), e 4 (by omega), e 5 (by omega)]; exact ⟨rfl, rfl, rfl, rfl, rfl⟩) (by rw [e 6 (by omega)])
/-- another rank for a slot -/
def setR (s r' : Nat) : Gt → Gt
  | .leaf => .leaf
  | .inner r q k a b => .inner (if q = s then r' else r) q k (setR s r' a) (setR s r' b)
theorem setR_nd2 (s r' : Nat) (d : Bool) (r q : Nat) (k : Int32) (a b : Gt) : setR s r' (nd2 d r q k a b) = nd2 d (if q = s then r' else r) q k (setR s r' a) (setR s r' b) := by cases d <;> rfl
theorem setR_trt (s r' : Nat) (t : Gt) : trt (setR s r' t) = trt t := by cases t <;> rfl
theorem setR_no (s r' : Nat) : ∀ {t : Gt}, s ∉ tsl t → setR s r' t = t
  | .leaf, _ => rfl
  | .inner r q k a b, h => by
    have h1 : s ∉ tsl a := fun e => h (by simp [tsl, e])
    have h2 : s ∉ tsl b := fun e => h (by simp [tsl, e])
    have h3 : q ≠ s := fun e => h (by simp [tsl, e])
    show Std.DTreeMap.Internal.Impl.inner (if q = s then r' else r) q k (setR s r' a) (setR s r' b) = _
    rw [setR_no s r' h1, setR_no s r' h2, if_neg h3]
theorem rep_setR {τ : Tau} (s r' : Nat) : ∀ {t : Gt} {p : Int32}, rep τ t p → rep (u2 τ 2 s (nI r')) (setR s r' t) p
  | .leaf, _, _ => trivial
  | .inner r q k a b, p, h => by
    obtain ⟨h1, h2, h3, h4, h5, h6, h7, h8⟩ := h
    refine ⟨h1, ?_, ?_, ?_, ?_, ?_, rep_setR s r' h7, rep_setR s r' h8⟩
    · rw [u2_row _ _ (by omega)]; exact h2
    · rw [u2_app]
      by_cases e : q = s
      · rw [if_pos ⟨rfl, e⟩, if_pos e]
      · rw [if_neg (fun z => e z.2), if_neg e]; exact h3
    · rw [u2_row _ _ (by omega), setR_trt]; exact h4
    · rw [u2_row _ _ (by omega), setR_trt]; exact h5
    · rw [u2_row _ _ (by omega)]; exact h6
theorem repc_u2 {τ : Tau} {s : Nat} {v : Int32} {c : List Fr} {x : Int32} (h : repc τ c x) (hs : s ∉ csl c) : repc (u2 τ 2 s v) c x :=
  repc_same h (fun q hq => by
    have hne : q ≠ s := fun e => hs (e ▸ hq)
    exact ⟨u2_ne _ _ (Or.inl (by omega)), u2_ne _ _ (Or.inr hne), u2_ne _ _ (Or.inl (by omega)), u2_ne _ _ (Or.inl (by omega)), u2_ne _ _ (Or.inl (by omega))⟩) (u2_ne _ _ (Or.inl (by omega)))
/-- the two sides in the midst of a deed: A what all was ahead of it -/
def sm (A : Nat → Int32) (τ τm : Tau) : Prop := (∀ r, r ≤ 6 → τm r = τ r) ∧ (∀ k, k < 3 → τm 8 k = τ 8 k ∧ τm 7 k = A k + τ 8 k ∧ τ 7 k = A k)
theorem sm_rep {A : Nat → Int32} {τ τm : Tau} (h : sm A τ τm) {t : Gt} {p : Int32} (hr : rep τ t p) : rep τm t p := rep_row hr (fun r q => h.1 r (by omega))
theorem sm_repc {A : Nat → Int32} {τ τm : Tau} (h : sm A τ τm) {c : List Fr} {x : Int32} (hr : repc τ c x) : repc τm c x := repc_row hr (fun r q => h.1 r q)
theorem sm_u2 {A : Nat → Int32} {τ τm : Tau} (h : sm A τ τm) {c : Nat} (hc : c ≤ 6) (k : Nat) (v : Int32) : sm A (u2 τ c k v) (u2 τm c k v) := by
  refine ⟨fun r hr => ?_, fun j hj => ?_⟩
  · funext q
    rw [u2_app, u2_app, h.1 r hr]
  · rw [u2_row _ _ (by omega), u2_row _ _ (by omega), u2_row _ _ (by omega), u2_row _ _ (by omega)]
    exact h.2 j hj
theorem sm_add {A : Nat → Int32} {τ τm : Tau} (h : sm A τ τm) (s : Nat) (v : Int32) : sm A (u2 τ 2 s (τ 2 s + v)) (u2 τm 2 s (τm 2 s + v)) := by
  rw [h.1 2 (by omega)]
  exact sm_u2 h (by omega) s _
theorem sm_cnt {A : Nat → Int32} {τ τm : Tau} (h : sm A τ τm) {j : Nat} (hj : j < 3) : sm A (u2 τ 8 j (τ 8 j + 1)) (cntM τm j) := by
  unfold cntM
  refine ⟨fun r hr => ?_, fun k hk => ?_⟩
  · rw [u2_row _ _ (by omega), u2_row _ _ (by omega), u2_row _ _ (by omega)]; exact h.1 r hr
  · obtain ⟨h1, h2, h3⟩ := h.2 k hk
    obtain ⟨g1, g2, g3⟩ := h.2 j hj
    simp only [u2_app]
    by_cases e : k = j
    · subst e
      simp [h1, h2, h3, Int32.add_assoc]
    · simp [e, h1, h2, h3]
theorem sm_cnt2 {A : Nat → Int32} {τ τm : Tau} (h : sm A τ τm) : sm A (u2 τ 8 2 (τ 8 2 + 2)) (cntM (cntM τm 2) 2) := by
  have h1 := sm_cnt (sm_cnt h (show 2 < 3 by omega)) (show 2 < 3 by omega)
  have e : u2 (u2 τ 8 2 (τ 8 2 + 1)) 8 2 (u2 τ 8 2 (τ 8 2 + 1) 8 2 + 1) = u2 τ 8 2 (τ 8 2 + 2) := by
    funext c k
    simp only [u2_app]
    by_cases q : c = 8 ∧ k = 2
    · simp [q, Int32.add_assoc]
    · simp [q]
  rw [e] at h1
  exact h1
theorem hang_sim {τ τm : Tau} (h : ∀ r, r ≤ 6 → τm r = τ r) (p x : Int32) (d : Bool) : ∀ r, r ≤ 6 → hangT τm p d x r = hangT τ p d x r := by
  intro r hr
  unfold hangT
  funext k
  by_cases hx : x = -1
  · by_cases hp : p = -1
    · simp only [hx, hp, if_true, u2_app, h r hr]
    · simp only [hx, hp, if_true, if_false, u2_app, h r hr]
  · by_cases hp : p = -1
    · simp only [hx, hp, if_true, if_false, u2_app, h r hr]
    · simp only [hx, hp, if_false, u2_app, h r hr]
theorem rot_sim {τ τm : Tau} (h : ∀ r, r ≤ 6 → τm r = τ r) (d : Bool) (p x : Nat) (B : Gt) (c : List Fr) : ∀ r, r ≤ 6 → rotT τm d p x B c r = rotT τ d p x B c r :=
  hang_sim (hang_sim (hang_sim h _ _ _) _ _ _) _ _ _
theorem sm_rot {A : Nat → Int32} {τ τm : Tau} (h : sm A τ τm) (d : Bool) (p x : Nat) (B : Gt) (c : List Fr) : sm A (rotT τ d p x B c) (rotT τm d p x B c) := by
  refine ⟨rot_sim h.1 d p x B c, fun k hk => ?_⟩
  rw [rot_row _ _ _ _ _ _ (by omega), rot_row _ _ _ _ _ _ (by omega), rot_row _ _ _ _ _ _ (by omega), rot_row _ _ _ _ _ _ (by omega)]
  exact h.2 k hk
theorem hang_cnt (τ : Tau) (p x : Int32) (d : Bool) (j : Nat) : hangT (cntM τ j) p d x = cntM (hangT τ p d x) j := by
  have e7 : hangT τ p d x 7 = τ 7 := hang_row _ _ _ _ (by omega)
  have e8 : hangT τ p d x 8 = τ 8 := hang_row _ _ _ _ (by omega)
  have hcd := cc_le d
  unfold cntM
  rw [e7, e8]
  unfold hangT
  by_cases hx : x = -1
  · by_cases hp : p = -1
    · simp only [hx, hp, if_true]
      rw [u2_comm _ (show (8 : Nat) ≠ 6 by omega), u2_comm _ (show (7 : Nat) ≠ 6 by omega)]
    · simp only [hx, hp, if_true, if_false]
      rw [u2_comm _ (show (8 : Nat) ≠ cc d by omega), u2_comm _ (show (7 : Nat) ≠ cc d by omega)]
  · by_cases hp : p = -1
    · simp only [hx, hp, if_true, if_false]
      rw [u2_comm _ (show (8 : Nat) ≠ 5 by omega), u2_comm _ (show (8 : Nat) ≠ 6 by omega), u2_comm _ (show (7 : Nat) ≠ 5 by omega), u2_comm _ (show (7 : Nat) ≠ 6 by omega)]
    · simp only [hx, hp, if_false]
      rw [u2_comm _ (show (8 : Nat) ≠ 5 by omega), u2_comm _ (show (8 : Nat) ≠ cc d by omega), u2_comm _ (show (7 : Nat) ≠ 5 by omega), u2_comm _ (show (7 : Nat) ≠ cc d by omega)]
theorem rot_cnt (τ : Tau) (d : Bool) (p x : Nat) (B : Gt) (c : List Fr) (j : Nat) : rotT (cntM τ j) d p x B c = cntM (rotT τ d p x B c) j := by
  unfold rotT
  rw [hang_cnt, hang_cnt, hang_cnt]
theorem cntM_row (τ : Tau) (j : Nat) {r : Nat} (hr : r ≤ 6) : cntM τ j r = τ r := by
  unfold cntM
  rw [u2_row _ _ (by omega), u2_row _ _ (by omega)]
