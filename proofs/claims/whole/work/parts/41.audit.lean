/-! ===== audit ===== -/
theorem setR_tsl (s r' : Nat) : ∀ t : Gt, tsl (setR s r' t) = tsl t
  | .leaf => rfl
  | .inner r q k a b => by simp only [setR, tsl, setR_tsl s r' a, setR_tsl s r' b]
theorem setR_dps (s r' : Nat) : ∀ (t : Gt) (d : Nat), dps (setR s r' t) d = dps t d
  | .leaf, _ => rfl
  | .inner r q k a b, d => by simp only [setR, dps, setR_dps s r' a, setR_dps s r' b]
theorem nI_m1' (x : Int32) (h : -1 ≤ x) : ∃ n : Nat, x = nI n := by
  by_cases h0 : x < 0
  · refine ⟨4294967295, ?_⟩
    have e : x = -1 := by
      apply Int32.toInt_inj.mp
      rw [Int32.le_iff_toInt_le] at h
      rw [Int32.lt_iff_toInt_lt] at h0
      have e1 : (-1 : Int32).toInt = -1 := by decide
      have e2 : (0 : Int32).toInt = 0 := by decide
      rw [e1] at h; rw [e2] at h0
      rw [e1]; omega
    rw [e]; decide
  · obtain ⟨j, _, e⟩ := nI_of h0
    exact ⟨j, e⟩
theorem rk_with {F : Nat} {τ τ2 : Tau} (hv : ∀ c k, vd c k → τ2 c k = τ c k) {s : Nat} (s60 : s < 60) (r x : Int32) (hx : sl x) : ∃ v, fX4_rankOf F (u2 τ2 2 s r) x = some v ∧ fX9_rankWith F (flat τ) x (nI s) r = some v ∧ (x = -1 → v = -1) := by
  unfold fX9_rankWith
  rcases hx with rfl | ⟨q, q60, rfl⟩
  · exact ⟨-1, cg_rank0, by rw [if_pos rfl], fun _ => rfl⟩
  · rw [if_neg (nI_m1 q (by omega)), cg_rank q60, u2_app]
    by_cases hq : q = s
    · subst hq
      exact ⟨r, by rw [if_pos ⟨rfl, rfl⟩], by rw [if_pos rfl], fun e => absurd e (nI_m1 q (by omega))⟩
    · refine ⟨τ 2 q, by rw [if_neg (fun z => hq z.2), hv 2 q (Or.inl ⟨by omega, q60⟩)], ?_, fun e => absurd e (nI_m1 q (by omega))⟩
      rw [if_neg (fun z => hq (nI_inj q60 s60 z)), mg_rk q60, Option.bind_some]
theorem wrong_ok {F : Nat} (hF : 100 ≤ F) {τ τ2 : Tau} {t t2 : Gt} (hI : Inv τ t) (hv : ∀ c k, vd c k → τ2 c k = τ c k) {s : Nat} (s60 : s < 60) (r : Int32) (hS : Str (u2 τ2 2 s r) t2) (hD : dps t2 0 = dps t 0) {o nu ab : Nat → Int32} (pi : Nat → Int32) (hn : nmL (dps t 0) 0 o nu ab) : ∀ (l2 l1 : List (Nat × Nat)) (y : Int32) (n m : Nat), dps t 0 = l1 ++ l2 → posN l2 y → l2.length < n → l2.length < m → ∃ v, fX6_firstWrong_7 F (u2 τ2 2 s r) n y (nI l1.length) = some v ∧ fX9_audit_42 F (flat τ) m o nu ab pi r (nI s) (nI l1.length) = some (v, o, nu, ab, pi)
  | [], l1, y, n, m, ht, hp, hln, hlm => by
    obtain ⟨n, rfl⟩ : ∃ z, n = z + 1 := ⟨n - 1, by omega⟩
    obtain ⟨m, rfl⟩ : ∃ z, m = z + 1 := ⟨m - 1, by omega⟩
    have hlen : (tsl t).length = l1.length := by rw [← dps_len t 0, ht]; simp
    have hc : u2 τ2 2 s r 6 1 = nI (tsl t).length := by rw [u2_ne τ2 r (Or.inl (by omega)), hv 6 1 (Or.inr (Or.inl ⟨rfl, by omega⟩))]; exact hI.2.2.2.2.2.2.2.2.1
    refine ⟨-1, ?_, ?_⟩
    · rw [fX6_firstWrong_7, hc, hlen, if_pos (Int32.le_refl _)]
    · rw [fX9_audit_42, mg_many, Option.bind_some, hI.2.2.2.2.2.2.2.2.1, hlen, if_pos (Int32.le_refl _)]
  | (q, e) :: l2, l1, y, n, m, ht, hp, hln, hlm => by
    obtain ⟨n, rfl⟩ : ∃ z, n = z + 1 := ⟨n - 1, by omega⟩
    obtain ⟨m, rfl⟩ : ∃ z, m = z + 1 := ⟨m - 1, by omega⟩
    simp only [List.length_cons] at hln hlm
    have hlen : (tsl t).length = l1.length + (l2.length + 1) := by rw [← dps_len t 0, ht]; simp
    have h60 := hI.2.2.2.2.2.2.2.2.2
    have hc : u2 τ2 2 s r 6 1 = nI (tsl t).length := by rw [u2_ne τ2 r (Or.inl (by omega)), hv 6 1 (Or.inr (Or.inl ⟨rfl, by omega⟩))]; exact hI.2.2.2.2.2.2.2.2.1
    have hmem : (q, e) ∈ dps t 0 := by rw [ht]; simp
    obtain ⟨c, rr, kk, a, b, et, hcl, q60, hr, hrc, hc60⟩ := ctx_of hI.str hmem
    obtain ⟨z1, z2, z3⟩ := hn l1.length (q, e) (by rw [ht, List.getElem?_append_right (by omega), Nat.sub_self]; rfl)
    rw [Nat.zero_add] at z1 z2
    have hyq : y = nI q := by
      rcases hp with ⟨h, -⟩ | ⟨s', e', l', h1, h2, h3⟩
      · cases h
      · cases h1; exact h3
    obtain ⟨h1, h2, h3, h4, h5, h6, h7, h8⟩ := id hr
    obtain ⟨y', g1, g2⟩ := num_next (F := F) hF hS (hD.trans ht)
    obtain ⟨v, r1, r2⟩ := wrong_ok hF hI hv s60 r hS hD pi hn l2 (l1 ++ [(q, e)]) y' n m (by rw [ht]; simp) g2 (by omega) (by omega)
    rw [List.length_append, List.length_singleton] at r1 r2
    obtain ⟨vx, x1, x2, -⟩ := rk_with (F := F) hv s60 r (nI q) (sl_nI q60)
    obtain ⟨va, a1, a2, a3⟩ := rk_with (F := F) hv s60 r (trt a) (trt_sl h7)
    obtain ⟨vb, b1, b2, b3⟩ := rk_with (F := F) hv s60 r (trt b) (trt_sl h8)
    have t3 : u2 τ2 2 s r 3 q = trt a := by rw [u2_ne τ2 r (Or.inl (by omega)), hv 3 q (Or.inl ⟨by omega, q60⟩)]; exact h4
    have t4 : u2 τ2 2 s r 4 q = trt b := by rw [u2_ne τ2 r (Or.inl (by omega)), hv 4 q (Or.inl ⟨by omega, q60⟩)]; exact h5
    have hR : fX6_isRight F (u2 τ2 2 s r) (nI q) = some (if trt a = -1 ∧ trt b = -1 then (if vx = 0 then 1 else 0) else (if (1 ≤ vx - va ∧ vx - va ≤ 2) ∧ (1 ≤ vx - vb ∧ vx - vb ≤ 2) then 1 else 0)) := by
      unfold fX6_isRight
      rw [cg_leaf q60, Option.bind_some, t3, t4]
      by_cases hlf : trt a = -1 ∧ trt b = -1
      · rw [if_pos hlf, if_neg (by decide), if_pos hlf, x1, Option.bind_some]
        by_cases hv0 : vx = 0
        · rw [if_pos hv0, if_pos hv0]
        · rw [if_neg hv0, if_neg hv0]
      · rw [if_neg hlf, if_pos rfl, if_neg hlf, cg_left q60, t3, Option.bind_some, cg_step x1 a1, Option.bind_some, cg_right q60, t4, Option.bind_some, cg_step x1 b1, Option.bind_some, within_val, Option.bind_some]
        by_cases w1 : 1 ≤ vx - va ∧ vx - va ≤ 2
        · rw [if_pos w1, if_neg (by decide), within_val, Option.bind_some]
          by_cases w2 : 1 ≤ vx - vb ∧ vx - vb ≤ 2
          · rw [if_pos w2, if_neg (by decide), if_pos ⟨w1, w2⟩]
          · rw [if_neg w2, if_pos rfl, if_neg (fun z => w2 z.2)]
        · rw [if_neg w1, if_pos rfl, if_neg (fun z => w1 z.1)]
    have hM : fX9_audit_42 F (flat τ) (m + 1) o nu ab pi r (nI s) (nI l1.length) = if ((1 ≤ vx - va ∧ vx - va ≤ 2) ∧ (1 ≤ vx - vb ∧ vx - vb ≤ 2)) ∧ ¬ ((trt a = -1 ∧ trt b = -1) ∧ vx ≠ 0) then fX9_audit_42 F (flat τ) m o nu ab pi r (nI s) (nI (l1.length + 1)) else some (nI l1.length, o, nu, ab, pi) := by
      rw [fX9_audit_42, mg_many, Option.bind_some, hI.2.2.2.2.2.2.2.2.1, if_neg (nI_ge (by omega) (by omega)), if_neg (nI_nin (by omega) (by omega)), nI_cl (by omega : l1.length < 60), z1]
      rw [x2, Option.bind_some, mg_left q60, h4, Option.bind_some, a2, Option.bind_some, show (1 : Int64) = (1 : Int32).toInt64 from rfl, show (2 : Int64) = (2 : Int32).toInt64 from rfl, in_val, Option.bind_some]
      by_cases w1 : 1 ≤ vx - va ∧ vx - va ≤ 2
      · rw [if_pos w1, if_neg (by decide), mg_right q60, h5, Option.bind_some, b2, Option.bind_some, in_val, Option.bind_some]
        by_cases w2 : 1 ≤ vx - vb ∧ vx - vb ≤ 2
        · rw [if_pos w2, if_neg (by decide)]
          unfold fX9_audit_129
          rw [if_neg (by decide), mg_leaf q60, Option.bind_some, h4, h5, nI_1]
          by_cases hlf : trt a = -1 ∧ trt b = -1
          · rw [if_pos hlf, if_neg (by decide)]
            by_cases hv0 : vx = 0
            · rw [if_pos hv0, if_pos ⟨⟨w1, w2⟩, fun z => z.2 hv0⟩]
            · rw [if_neg hv0, if_neg (fun z => z.2 ⟨hlf, hv0⟩)]
          · rw [if_neg hlf, if_pos rfl, if_pos ⟨⟨w1, w2⟩, fun z => hlf z.1⟩]
        · rw [if_neg w2, if_pos rfl]
          unfold fX9_audit_128 fX9_audit_129
          rw [if_pos rfl, if_neg (fun z => w2 z.1.2)]
      · rw [if_neg w1, if_pos rfl]
        unfold fX9_audit_128 fX9_audit_129
        rw [if_pos rfl, if_neg (fun z => w1 z.1.1)]
    rw [hM, fX6_firstWrong_7, hc, if_neg (nI_ge (by omega) (by omega)), hyq, hR, Option.bind_some, g1, nI_1, Option.bind_some]
    by_cases hlf : trt a = -1 ∧ trt b = -1
    · rw [if_pos hlf]
      have ea := a3 hlf.1
      have eb := b3 hlf.2
      by_cases hv0 : vx = 0
      · rw [if_pos hv0, if_neg (by decide), if_pos ⟨by rw [hv0, ea, eb]; decide, fun z => z.2 hv0⟩]
        exact ⟨v, r1, r2⟩
      · rw [if_neg hv0, if_pos rfl, if_neg (fun z => z.2 ⟨hlf, hv0⟩)]
        exact ⟨_, rfl, rfl⟩
    · rw [if_neg hlf]
      by_cases w : (1 ≤ vx - va ∧ vx - va ≤ 2) ∧ (1 ≤ vx - vb ∧ vx - vb ≤ 2)
      · rw [if_pos w, if_neg (by decide), if_pos ⟨w, fun z => hlf z.1⟩]
        exact ⟨v, r1, r2⟩
      · rw [if_neg w, if_pos rfl, if_neg (fun z => w z.1)]
        exact ⟨_, rfl, rfl⟩
theorem audit_ok {F : Nat} (hF : 100 ≤ F) {σ : Sig} {t : Gt} (hI : Inv (σ 0) t) (o nu ab pi : Nat → Int32) (x w : Int32) : ∃ r o' nu' ab' pi' τ', fX8_audit F σ x w = some (r, u3 σ 1 τ') ∧ fX9_audit F (flat (σ 0)) o nu ab pi x w = some (r, o', nu', ab', pi') := by
  unfold fX8_audit fX9_audit
  have hlen := hI.2.2.2.2.2.2.2.2.2
  rcases node_pos hF hI x with ⟨e1, e2⟩ | ⟨k, s, e, l1, l2, hk, k60, s60, hd, hl1, e1, e2⟩
  · rw [e1, e2, Option.bind_some, Option.bind_some, if_pos rfl, if_pos rfl]
    exact ⟨_, o, nu, ab, pi, σ 1, by rw [u3_self], rfl⟩
  · rw [e1, e2, Option.bind_some, Option.bind_some, if_neg (nI_m1 s (by omega)), if_neg (show ¬ (1 : Int32) = 0 by decide), show (-1 : Int64) = (-1 : Int32).toInt64 from rfl, show (30 : Int64) = (30 : Int32).toInt64 from rfl, in_val, within_val, Option.bind_some, Option.bind_some]
    by_cases hw : -1 ≤ w ∧ w ≤ 30
    · rw [if_pos hw, if_neg (by decide), if_neg (by decide)]
      obtain ⟨o', nu', ab', pi', f1, f2⟩ := numbers_ok hF hI o nu ab pi
      obtain ⟨z1, z2, z3⟩ := f2 l1.length (s, e) (by rw [hd, List.getElem?_append_right (by omega), Nat.sub_self]; rfl)
      rw [Nat.zero_add] at z1 z2
      rw [hl1] at z1 z2
      obtain ⟨τ', c1, c2⟩ := copy_ok F (σ 1) (σ 0)
      rw [f1, Option.bind_some, c1, Option.bind_some, u3_at, cg_setRank s60, Option.bind_some, u3_u3, u3_at]
      dsimp only
      rw [hk, if_neg (nI_nin k60 (by omega)), nI_cl k60, z1]
      obtain ⟨r', hr'⟩ := nI_m1' w hw.1
      have hI2 := hI.vd c2
      have hS : Str (u2 τ' 2 s w) (setR s r' t) := by
        refine ⟨by rw [hr']; exact rep_setR s r' hI2.1, ?_, by rw [setR_tsl]; exact hI2.2.2.1, by rw [setR_tsl]; exact hlen⟩
        rw [u2_ne τ' w (Or.inl (by omega)), setR_trt]; exact hI2.2.1
      have hlen2 : (dps t 0).length < F := by rw [dps_len]; omega
      obtain ⟨v, g1, g2⟩ := wrong_ok (F := F) hF hI c2 s60 w hS (setR_dps s r' t 0) pi' f2 (dps t 0) [] (u2 τ' 2 s w 6 0) F F rfl (by rw [← setR_dps s r' t 0]; exact num_first hS) hlen2 hlen2
      have g1' : fX6_firstWrong F (u2 τ' 2 s w) = some v := g1
      rw [g1', Option.bind_some]
      exact ⟨v, o', nu', ab', pi', _, rfl, g2⟩
    · rw [if_neg hw, if_pos rfl, if_pos rfl]
      exact ⟨_, o, nu, ab, pi, σ 1, by rw [u3_self], rfl⟩
