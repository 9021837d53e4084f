/-! ===== the model's numbers ===== -/
theorem up_at {f : Nat → Int32} {k : Nat} {x : Int32} : upd f k x k = x := if_pos rfl
theorem up_ne {f : Nat → Int32} {k j : Nat} {x : Int32} (h : j ≠ k) : upd f k x j = f j := if_neg h
def dps : Gt → Nat → List (Nat × Nat)
  | .leaf, _ => []
  | .inner _ s _ a b, d => (s, d) :: (dps a (d + 1) ++ dps b (d + 1))
def hp : Gt → Nat
  | .leaf => 0
  | .inner _ _ _ _ _ => 1
theorem dps_len : ∀ (t : Gt) (d : Nat), (dps t d).length = (tsl t).length
  | .leaf, _ => rfl
  | .inner r s k a b, d => by simp only [dps, tsl, List.length_cons, List.length_append, dps_len a, dps_len b]; omega
theorem dps_mem : ∀ (t : Gt) (d : Nat) (p : Nat × Nat), p ∈ dps t d → p.1 ∈ tsl t
  | .leaf, _, _, h => by cases h
  | .inner r s k a b, d, p, h => by
    rcases List.mem_cons.mp h with rfl | h
    · simp [tsl]
    · rcases List.mem_append.mp h with h | h
      · have := dps_mem a _ p h; simp [tsl, this]
      · have := dps_mem b _ p h; simp [tsl, this]
def nmL (L : List (Nat × Nat)) (x : Nat) (o nu ab : Nat → Int32) : Prop := ∀ j p, L[j]? = some p → o (x + j) = nI p.1 ∧ nu p.1 = nI (x + j) ∧ ab p.1 = nI p.2
theorem numbers_side {F : Nat} {k34 : (Nat → Int32) → (Nat → Int32) → (Nat → Int32) → (Nat → Int32) → Int32 → Int32 → Option ((Nat → Int32) × (Nat → Int32) × (Nat → Int32) × (Nat → Int32))} {k68 : (Nat → Int32) → (Nat → Int32) → (Nat → Int32) → (Nat → Int32) → Int32 → Int32 → Int32 → Int32 → Option ((Nat → Int32) × (Nat → Int32) × (Nat → Int32) × (Nat → Int32))} {τ : Tau} {T : Gt} {p : Int32} {s d h : Nat} (o nu ab pi : Nat → Int32) (x1 x4 y2 : Int32) (hs : s < 60) (hT : rep τ T p) (hh : h < 61) (hab : ab s = nI d) (hch : fX9_child F (flat τ) (nI s) y2 = some (trt T)) (hsT : s ∉ tsl T) :
    ∃ ab' pi', fX9_numbers_87 F (flat τ) k34 k68 o nu ab pi x1 (nI h) (nI s) x4 (nI s) y2 = k68 o nu ab' pi' x1 (nI (h + hp T)) (nI s) (x4 + 1) ∧ (∀ q, q ∉ tsl T → ab' q = ab q) ∧ (∀ j, j < h → pi' j = pi j) ∧ ∀ q, trt T = nI q → q < 60 → pi' h = nI q ∧ ab' q = nI (d + 1) := by
  unfold fX9_numbers_87
  rw [hch, Option.bind_some]
  cases T with
  | leaf =>
    refine ⟨ab, pi, by rw [if_pos (show trt .leaf = -1 from rfl)]; rfl, fun _ _ => rfl, fun _ _ => rfl, fun q hq h60 => ?_⟩
    exact absurd hq.symm (nI_m1 q (by omega))
  | inner r c k a b =>
    have c60 : c < 60 := hT.1
    show ∃ ab' pi', (if nI c = -1 then _ else if nI h < 0 ∨ 61 ≤ (nI h).toNatClampNeg then none else if nI s < 0 ∨ 60 ≤ (nI s).toNatClampNeg then none else if nI c < 0 ∨ 60 ≤ (nI c).toNatClampNeg then none else _) = _ ∧ _
    rw [if_neg (nI_m1 c (by omega)), if_neg (nI_nin hh (by omega)), if_neg (nI_nin hs (by omega)), if_neg (nI_nin c60 (by omega))]
    refine ⟨_, _, congrArg (fun z => k68 o nu _ _ x1 z (nI s) (x4 + 1)) (nI_1 h), fun q hq => ?_, fun j hj => ?_, fun q hq h60 => ?_⟩
    · show upd ab (nI c).toNatClampNeg _ q = ab q
      rw [nI_cl c60]
      exact up_ne (fun e => hq (by simp [tsl, e]))
    · rw [nI_clamp (by omega)]
      exact up_ne (by omega)
    · have hqc : q = c := (nI_inj c60 h60 hq).symm
      subst hqc
      refine ⟨?_, ?_⟩
      · rw [nI_clamp (by omega)]; exact up_at
      · show upd ab (nI q).toNatClampNeg _ q = _
        rw [nI_cl c60, nI_cl hs, hab, nI_1]; exact up_at
theorem numbers_tr {F : Nat} (hF : 100 ≤ F) {τ : Tau} : ∀ (T : Gt) (p : Int32) (d h x n : Nat) (o nu ab pi : Nat → Int32), rep τ T p → (tsl T).Nodup → x + (tsl T).length ≤ 60 → h + (tsl T).length ≤ 60 → (∀ q, trt T = nI q → q < 60 → pi h = nI q ∧ ab q = nI d) →
    ∃ o' nu' ab' pi', fX9_numbers_34 F (flat τ) (n + (tsl T).length) o nu ab pi (nI x) (nI (h + hp T)) = fX9_numbers_34 F (flat τ) n o' nu' ab' pi' (nI (x + (tsl T).length)) (nI h) ∧ nmL (dps T d) x o' nu' ab' ∧ (∀ j, j < x → o' j = o j) ∧ (∀ q, q ∉ tsl T → nu' q = nu q ∧ ab' q = ab q) ∧ (∀ j, j < h → pi' j = pi j)
  | .leaf, p, d, h, x, n, o, nu, ab, pi, hr, hn, hx, hh, hpi => ⟨o, nu, ab, pi, rfl, fun j p hj => by simp [dps] at hj, fun _ _ => rfl, fun _ _ => ⟨rfl, rfl⟩, fun _ _ => rfl⟩
  | .inner r s k A B, p, d, h, x, n, o, nu, ab, pi, hr, hn, hx, hh, hpi => by
    obtain ⟨h1, h2, h3, h4, h5, h6, h7, h8⟩ := hr
    simp only [tsl, List.length_append, List.length_cons] at hx hh
    obtain ⟨n1, n2, n3⟩ := List.nodup_append.mp (show (tsl A ++ s :: tsl B).Nodup from hn)
    obtain ⟨n4, n5⟩ := List.nodup_cons.mp n2
    have sA : s ∉ tsl A := fun e => n3 s e s (by simp) rfl
    obtain ⟨hpi1, hpi2⟩ := hpi s rfl h1
    have elen : n + (tsl (Std.DTreeMap.Internal.Impl.inner r s k A B)).length = (n + (tsl B).length + (tsl A).length) + 1 := by simp only [tsl, List.length_append, List.length_cons]; omega
    obtain ⟨f, rfl⟩ : ∃ f, F = f + 3 := ⟨F - 3, by omega⟩
    -- one pop
    obtain ⟨ab1, pi1, e1, a1, a2, a3⟩ := numbers_side (F := f + 3) (τ := τ) (T := B) (d := d) (h := h) (k34 := fun order numof above pile x1 x2 => fX9_numbers_34 (f + 3) (flat τ) (n + (tsl B).length + (tsl A).length) order numof above pile x1 x2) (k68 := fun order numof above pile x1 x2 x3 x4 => fX9_numbers_68 (f + 3) (flat τ) (fun order numof above pile x1 x2 => fX9_numbers_34 (f + 3) (flat τ) (n + (tsl B).length + (tsl A).length) order numof above pile x1 x2) (f + 2) order numof above pile x1 x2 x3 x4) (upd o x (nI s)) (upd nu s (nI x)) ab pi (nI (x + 1)) 0 0 h1 h8 (by omega) hpi2 (by rw [mg_child0 h1, h5]) n4
    have hab1 : ab1 s = nI d := by rw [a1 s n4]; exact hpi2
    have hhB : hp B ≤ (tsl B).length := by cases B <;> simp [hp, tsl]; omega
    obtain ⟨ab2, pi2, e2, b1, b2, b3⟩ := numbers_side (F := f + 3) (τ := τ) (T := A) (d := d) (h := h + hp B) (k34 := fun order numof above pile x1 x2 => fX9_numbers_34 (f + 3) (flat τ) (n + (tsl B).length + (tsl A).length) order numof above pile x1 x2) (k68 := fun order numof above pile x1 x2 x3 x4 => fX9_numbers_68 (f + 3) (flat τ) (fun order numof above pile x1 x2 => fX9_numbers_34 (f + 3) (flat τ) (n + (tsl B).length + (tsl A).length) order numof above pile x1 x2) (f + 1) order numof above pile x1 x2 x3 x4) (upd o x (nI s)) (upd nu s (nI x)) ab1 pi1 (nI (x + 1)) 1 1 h1 h7 (by omega) hab1 (by rw [mg_child1 h1, h4]) sA
    have hstep : fX9_numbers_34 (f + 3) (flat τ) (n + (tsl (Std.DTreeMap.Internal.Impl.inner r s k A B)).length) o nu ab pi (nI x) (nI (h + hp (Std.DTreeMap.Internal.Impl.inner r s k A B))) = fX9_numbers_34 (f + 3) (flat τ) (n + (tsl B).length + (tsl A).length) (upd o x (nI s)) (upd nu s (nI x)) ab2 pi2 (nI (x + 1)) (nI (h + hp B + hp A)) := by
      rw [elen]
      show fX9_numbers_34 (f + 3) (flat τ) (_ + 1) o nu ab pi (nI x) (nI (h + 1)) = _
      rw [fX9_numbers_34, if_neg (nI_nle (by omega) (by omega)), nI_less, if_neg (nI_nin (by omega) (by omega)), if_neg (nI_nin (by omega) (by omega)), nI_clamp (by omega : h < 2 ^ 31), hpi1, if_neg (nI_nin h1 (by omega)), nI_cl h1, nI_cl (by omega : x < 60), nI_1]
      rw [fX9_numbers_68, if_neg (by decide), if_neg (by decide), e1]
      show fX9_numbers_68 (f + 3) (flat τ) _ (f + 2) _ _ ab1 pi1 (nI (x + 1)) (nI (h + hp B)) (nI s) (0 + 1) = _
      rw [fX9_numbers_68, if_neg (by decide), if_pos (by decide)]
      show fX9_numbers_87 (f + 3) (flat τ) _ _ _ _ ab1 pi1 (nI (x + 1)) (nI (h + hp B)) (nI s) 1 (nI s) 1 = _
      rw [e2]
      show fX9_numbers_68 (f + 3) (flat τ) _ (f + 1) _ _ ab2 pi2 (nI (x + 1)) (nI (h + hp B + hp A)) (nI s) (1 + 1) = _
      rw [fX9_numbers_68, if_pos (by decide)]
    rw [hstep]
    -- the left, then the right
    obtain ⟨o3, nu3, ab3, pi3, c1, c2, c3, c4, c5⟩ := numbers_tr (F := f + 3) hF A (nI s) (d + 1) (h + hp B) (x + 1) (n + (tsl B).length) (upd o x (nI s)) (upd nu s (nI x)) ab2 pi2 h7 n1 (by omega) (by omega) b3
    have hB : ∀ q, trt B = nI q → q < 60 → pi3 h = nI q ∧ ab3 q = nI (d + 1) := fun q hq h60 => by
      have hqB : q ∈ tsl B := trt_mem hq h60 (rep_lt h8)
      have hqA : q ∉ tsl A := fun e => n3 q e q (by simp [hqB]) rfl
      have hhp : hp B = 1 := by
        cases B with
        | leaf => exact absurd hq.symm (nI_m1 q (by omega))
        | inner _ _ _ _ _ => rfl
      obtain ⟨z1, z2⟩ := a3 q hq h60
      rw [c5 h (by omega), b2 h (by omega), (c4 q hqA).2, b1 q hqA]
      exact ⟨z1, z2⟩
    obtain ⟨o4, nu4, ab4, pi4, g1, g2, g3, g4, g5⟩ := numbers_tr (F := f + 3) hF B (nI s) (d + 1) h (x + 1 + (tsl A).length) n o3 nu3 ab3 pi3 h8 n5 (by omega) (by omega) hB
    refine ⟨o4, nu4, ab4, pi4, ?_, ?_, ?_, ?_, ?_⟩
    · rw [c1, g1]
      simp only [tsl, List.length_append, List.length_cons]
      rw [show x + 1 + (tsl A).length + (tsl B).length = x + ((tsl A).length + ((tsl B).length + 1)) by omega]
    · intro j q hj
      cases j with
      | zero =>
        simp only [dps, List.getElem?_cons_zero, Option.some.injEq] at hj
        subst hj
        refine ⟨?_, ?_, ?_⟩
        · show o4 x = nI s
          rw [g3 x (by omega), c3 x (by omega)]; exact up_at
        · show nu4 s = nI (x + 0)
          rw [(g4 s n4).1, (c4 s sA).1]; exact up_at
        · show ab4 s = nI d
          rw [(g4 s n4).2, (c4 s sA).2, b1 s sA, hab1]
      | succ j =>
        simp only [dps, List.getElem?_cons_succ] at hj
        by_cases hjA : j < (dps A (d + 1)).length
        · rw [List.getElem?_append_left hjA] at hj
          obtain ⟨z1, z2, z3⟩ := c2 j q hj
          have hqA := dps_mem A _ q (List.mem_of_getElem? hj)
          have hqB : q.1 ∉ tsl B := fun e => n3 q.1 hqA q.1 (by simp [e]) rfl
          rw [dps_len] at hjA
          rw [show x + (j + 1) = x + 1 + j by omega, g3 _ (by omega), (g4 q.1 hqB).1, (g4 q.1 hqB).2]
          exact ⟨z1, z2, z3⟩
        · rw [List.getElem?_append_right (by omega)] at hj
          obtain ⟨z1, z2, z3⟩ := g2 _ q hj
          rw [dps_len] at z1 z2 hjA
          rw [show x + 1 + (tsl A).length + (j - (tsl A).length) = x + (j + 1) by omega] at z1 z2
          exact ⟨z1, z2, z3⟩
    · intro j hj
      rw [g3 j (by omega), c3 j (by omega)]
      exact up_ne (by omega)
    · intro q hq
      have q1 : q ∉ tsl A := fun e => hq (by simp [tsl, e])
      have q2 : q ∉ tsl B := fun e => hq (by simp [tsl, e])
      have q3 : q ≠ s := fun e => hq (by simp [tsl, e])
      rw [(g4 q q2).1, (g4 q q2).2, (c4 q q1).1, (c4 q q1).2, b1 q q1, a1 q q2]
      exact ⟨up_ne q3, rfl⟩
    · intro j hj
      rw [g5 j hj, c5 j (by omega), b2 j (by omega), a2 j hj]
theorem numbers_ok {F : Nat} (hF : 100 ≤ F) {τ : Tau} {t : Gt} (hI : Inv τ t) (o nu ab pi : Nat → Int32) : ∃ o' nu' ab' pi', fX9_numbers F (flat τ) o nu ab pi = some (o', nu', ab', pi') ∧ nmL (dps t 0) 0 o' nu' ab' := by
  obtain ⟨i1, i2, i3, i4, i5, i6, i7, i8, i9, i10⟩ := hI
  have hend : ∀ (n : Nat) (o nu ab pi : Nat → Int32) (x : Int32), 0 < n → fX9_numbers_34 F (flat τ) n o nu ab pi x (nI 0) = some (o, nu, ab, pi) := by
    intro n o nu ab pi x hn
    obtain ⟨n, rfl⟩ : ∃ z, n = z + 1 := ⟨n - 1, by omega⟩
    rw [fX9_numbers_34, if_pos (by decide)]
  unfold fX9_numbers
  rw [mg_top, i2, Option.bind_some, Option.bind_some, Option.bind_some]
  rcases gt_cases t with h | ⟨r, s, k, a, b, h⟩
  · subst h
    rw [if_pos (show trt .leaf = -1 from rfl)]
    exact ⟨o, nu, ab, pi, hend F o nu ab pi _ (by omega), fun j p hj => by simp [dps] at hj⟩
  · have s60 : s < 60 := by rw [h] at i1; exact i1.1
    have ht : trt t = nI s := by rw [h]; rfl
    rw [ht, if_neg (nI_m1 s (by omega)), if_neg (by decide), if_neg (nI_nin s60 (by omega)), nI_cl s60]
    obtain ⟨o', nu', ab', pi', e1, e2, e3, e4, e5⟩ := numbers_tr (F := F) hF t (-1) 0 0 0 (F - (tsl t).length) o nu (upd ab s 0) (upd pi 0 (nI s)) i1 i3 (by omega) (by omega) (fun q hq h60 => by
      have : q = s := nI_inj h60 s60 (hq.symm.trans ht)
      subst this
      exact ⟨up_at, up_at⟩)
    have hh : hp t = 1 := by rw [h]; rfl
    rw [show F - (tsl t).length + (tsl t).length = F by omega, hh, hend _ _ _ _ _ _ (by omega)] at e1
    exact ⟨o', nu', ab', pi', e1, e2⟩
