/-! ===== draws, drift ===== -/
def Wd (v : Nat) : Nat := (v * 1103515245 + 12345) % 2147483648
theorem Wd_lt (v : Nat) : Wd v < 2 ^ 31 := Nat.mod_lt _ (by omega)
theorem l_mask {a : Nat} (h : a < 2 ^ 63) : lN a &&& (2147483647 : Int64) = lN (a % 2147483648) := by
  rw [show (2147483647 : Int64) = lN 2147483647 from rfl]
  apply Int64.toBitVec_inj.mp
  rw [Int64.toBitVec_and]
  show BitVec.ofNat 64 a &&& BitVec.ofNat 64 2147483647 = BitVec.ofNat 64 (a % 2147483648)
  apply BitVec.eq_of_toNat_eq
  rw [BitVec.toNat_and, BitVec.toNat_ofNat, BitVec.toNat_ofNat, BitVec.toNat_ofNat, Nat.mod_eq_of_lt (by omega : a < 2 ^ 64), Nat.mod_eq_of_lt (by omega : 2147483647 < 2 ^ 64), Nat.mod_eq_of_lt (by omega : a % 2147483648 < 2 ^ 64)]
  exact Nat.and_two_pow_sub_one_eq_mod a 31
theorem draw_arg {v : Nat} (hv : v < 2 ^ 31) : (nI v).toInt64 * (1103515245 : Int64) + (12345 : Int64) = lN (v * 1103515245 + 12345) := by
  rw [nI_l hv, show (1103515245 : Int64) = lN 1103515245 from rfl, show (12345 : Int64) = lN 12345 from rfl, lN_mul, lN_add]
def Dg (σ : Sig) (v : Nat) : Sig := u3 σ 16 (u2 (σ 16) 3 0 (nI v))
theorem Dg_i (σ : Sig) (v : Nat) {i : Nat} (h : i ≠ 16) : Dg σ v i = σ i := u3_ne _ _ h
theorem Dg_v (σ : Sig) (v : Nat) : Dg σ v 16 3 0 = nI v := by unfold Dg; rw [u3_at, u2_at]
theorem Dg_c (σ : Sig) (v : Nat) {c : Nat} (h : c ≠ 3) : Dg σ v 16 c = σ 16 c := by unfold Dg; rw [u3_at, u2_row _ _ h]
theorem draw_ok {F : Nat} {σ : Sig} {v n : Nat} (hv : v < 2 ^ 31) (hs : σ 16 3 0 = nI v) (h1 : 1 ≤ n) (hn : n < 2 ^ 31) : fX2_next F σ (nI n) = some (nI (Wd v / 65536 % n), Dg σ (Wd v)) ∧ fX9_draw F (nI v) (nI n) = some (nI (Wd v / 65536 % n), nI (Wd v)) := by
  have hW := Wd_lt v
  have hlt : v * 1103515245 + 12345 < 2 ^ 63 := by omega
  have e1 : (((nI v).toInt64 * (1103515245 : Int64) + (12345 : Int64)) &&& (2147483647 : Int64)).toInt32 = nI (Wd v) := by
    rw [draw_arg hv, l_mask hlt, lN_i]; rfl
  have e2 : (((nI v).toInt64 * (1103515245 : Int64) + (12345 : Int64)) - ((nI v).toInt64 * (1103515245 : Int64) + (12345 : Int64)) / (2147483648 : Int64) * (2147483648 : Int64)).toInt32 = nI (Wd v) := by
    rw [draw_arg hv, show (2147483648 : Int64) = lN 2147483648 from rfl, pk_lRem hlt (by omega) (by omega), lN_i]; rfl
  have e3 : nI (Wd v) / (65536 : Int32) - nI (Wd v) / (65536 : Int32) / nI n * nI n = nI (Wd v / 65536 % n) := by
    rw [show (65536 : Int32) = nI 65536 from rfl, pk_div hW (by omega) (by omega), pk_rem (by omega) (by omega) hn]
  have h65 : ¬ (65536 : Int32) = 0 := by decide
  have hn0 : ¬ nI n = 0 := nI_ne0 (by omega) hn
  constructor
  · unfold fX2_next
    rw [if_pos (show (1 : Int32) ≤ nI n from nI_le (a := 1) h1 hn), if_neg h65, if_neg hn0, hs, e1, u3_at, u2_at, e3]
    rfl
  · unfold fX9_draw
    rw [if_neg (show ¬ (2147483648 : Int64) = 0 by decide), if_neg h65, if_neg hn0, e2, e3]
theorem relD {σ σ1 σ2 : Sig} {un1 sd' : Int32} {past1 im iseed kept : Nat → Int32} {t' : Gt} (hP : RP σ1 un1 past1) (e1 : ∀ i, i < 2 ∨ 14 ≤ i ∧ i < 16 → σ1 i = σ i) (e2 : ∀ c, c ≠ 0 → σ1 16 c = σ 16 c) (hR : RI σ im iseed kept) (e3 : ∀ i, 2 ≤ i → i < 16 → σ2 i = σ1 i) (e4 : ∀ c, c < 3 → σ2 16 c = σ1 16 c) (hs : sd' = σ2 16 3 0) (h0 : 0 ≤ sd') (hI : Inv (σ2 0) t') : Rel σ2 un1 sd' (flat (σ2 0)) past1 im iseed kept :=
  ⟨⟨t', hI⟩, rfl, hP.congr (fun i h1 h2 => e3 i h1 (by omega)) (e4 0 (by omega)), hR.congr (fun i hi => by rw [e3 _ (by omega) (by omega), e1 _ (by omega)]) (fun i hi => by rw [e4 _ (by omega), e2 _ (by omega)]), hs, h0⟩
theorem drift_tr {F : Nat} (hF : 5000 ≤ F) {im iseed kept : Nat → Int32} : ∀ (j i n m : Nat) (σ : Sig) (un sd : Int32) (now past : Nat → Int32), Rel σ un sd now past im iseed kept → i + j < 100 → j < n → j < m → ∃ r σ' un' sd' now' past', fX8_drift_15 F n σ (nI (i + j)) (nI i) = some (r, σ') ∧ fX9_drift_17 F m un sd now past (nI (i + j)) (nI i) = some (r, un', sd', now', past') ∧ Rel σ' un' sd' now' past' im iseed kept
  | 0, i, n, m, σ, un, sd, now, past, h, hi, hn, hm => by
    obtain ⟨n, rfl⟩ : ∃ z, n = z + 1 := ⟨n - 1, by omega⟩
    obtain ⟨m, rfl⟩ : ∃ z, m = z + 1 := ⟨m - 1, by omega⟩
    refine ⟨σ 0 6 1, σ, un, sd, now, past, ?_, ?_, h⟩
    · rw [fX8_drift_15, if_pos (show nI (i + 0) ≤ nI i from Int32.le_refl _)]
    · rw [fX9_drift_17, if_pos (show nI (i + 0) ≤ nI i from Int32.le_refl _), h.2.1, mg_many, Option.bind_some]
  | j + 1, i, n, m, σ, un, sd, now, past, h, hi, hn, hm => by
    obtain ⟨n, rfl⟩ : ∃ z, n = z + 1 := ⟨n - 1, by omega⟩
    obtain ⟨m, rfl⟩ : ∃ z, m = z + 1 := ⟨m - 1, by omega⟩
    obtain ⟨⟨t, hI⟩, rfl, hP, hR, hs, h0⟩ := id h
    have hF' : 100 ≤ F := by omega
    obtain ⟨v, hv, rfl⟩ := nI_of (Int32.not_lt.mpr h0)
    obtain ⟨σ1, un1, past1, r1, r2, r3, r4, r5⟩ := remember_ok hF hP hI
    have σ10 : σ1 0 = σ 0 := r4 0 (by omega)
    have s1 : σ1 16 3 0 = nI v := by rw [r5 3 (by omega)]; exact hs.symm
    obtain ⟨d1, d1'⟩ := draw_ok (F := F) (n := 3) hv s1 (by omega) (by omega)
    have d1a : fX2_next F σ1 3 = _ := d1
    have d1b : fX9_draw F (nI v) 3 = _ := d1'
    obtain ⟨d2, d2'⟩ := draw_ok (F := F) (σ := Dg σ1 (Wd v)) (n := 200) (Wd_lt v) (Dg_v ..) (by omega) (by omega)
    have d2a : fX2_next F (Dg σ1 (Wd v)) 200 = _ := d2
    have d2b : fX9_draw F (nI (Wd v)) 200 = _ := d2'
    obtain ⟨d3, d3'⟩ := draw_ok (F := F) (σ := Dg (Dg σ1 (Wd v)) (Wd (Wd v))) (n := 100) (Wd_lt _) (Dg_v ..) (by omega) (by omega)
    have d3a : fX2_next F (Dg (Dg σ1 (Wd v)) (Wd (Wd v))) 100 = _ := d3
    have d3b : fX9_draw F (nI (Wd (Wd v))) 100 = _ := d3'
    have g0 : (Dg (Dg σ1 (Wd v)) (Wd (Wd v))) 0 = σ 0 := by rw [Dg_i _ _ (by omega), Dg_i _ _ (by omega)]; exact σ10
    have g0' : (Dg (Dg (Dg σ1 (Wd v)) (Wd (Wd v))) (Wd (Wd (Wd v)))) 0 = σ 0 := by rw [Dg_i _ _ (by omega)]; exact g0
    rw [fX8_drift_15, if_neg (nI_ge (by omega) (by omega)), r1, Option.bind_some, fX9_drift_17, if_neg (nI_ge (by omega) (by omega)), d1b, Option.bind_some, d2b, Option.bind_some]
    unfold fX8_driftOnce fX9_isThere
    rw [d1a, Option.bind_some, d2a, Option.bind_some]
    dsimp only
    rw [g0]
    have hkk : Wd (Wd v) / 65536 % 200 < 200 := Nat.mod_lt _ (by omega)
    have hk3 : Wd v / 65536 % 3 < 3 := Nat.mod_lt _ (by omega)
    have hk1 : Wd (Wd (Wd v)) / 65536 % 100 < 100 := Nat.mod_lt _ (by omega)
    generalize Wd v / 65536 % 3 = kind at hk3
    generalize Wd (Wd v) / 65536 % 200 = key at hkk
    generalize Wd (Wd (Wd v)) / 65536 % 100 = wo at hk1 d3a d3b
    obtain ⟨y, f1, f2, f3⟩ := find_ok hF' hI (nI key)
    rw [f1, f2, Option.bind_some, Option.bind_some]
    have hkey : 0 ≤ nI key ∧ nI key ≤ 99999 := ⟨nI_pos' (by omega), nI_le (b := 99999) (by omega) (by omega)⟩
    -- the end where nothing comes or goes
    have hstay : Rel (Dg (Dg σ1 (Wd v)) (Wd (Wd v))) un1 (nI (Wd (Wd v))) (flat (σ 0)) past1 im iseed kept := by
      have := relD (σ := σ) (σ1 := σ1) (σ2 := Dg (Dg σ1 (Wd v)) (Wd (Wd v))) (sd' := nI (Wd (Wd v))) (t' := t) r3 r4 r5 hR (fun i h1 h2 => by rw [Dg_i _ _ (by omega), Dg_i _ _ (by omega)]) (fun c hc => by rw [Dg_c _ _ (by omega), Dg_c _ _ (by omega)]) (Dg_v ..).symm (nI_pos' (Wd_lt _)) (by rw [g0]; exact hI)
      rw [g0] at this
      exact this
    obtain ⟨ra, σa, una, sda, nowa, pasta, qa1, qa2, qa3⟩ := drift_tr hF j (i + 1) n m _ _ _ _ _ hstay (by omega) (by omega) (by omega)
    rw [show i + 1 + j = i + (j + 1) by omega] at qa1 qa2
    by_cases hk2 : kind = 2
    · subst hk2
      have e22 : nI 2 = (2 : Int32) := rfl
      rw [if_pos e22]
      rcases f3 with ⟨f3, f4⟩ | ⟨s, sa, s60, s3, s4⟩
      · subst f3
        have hrm : fX7_remove F (σ 0) (-1) = some (σ 0) := by unfold fX7_remove; rw [if_pos rfl]
        rw [hrm, Option.bind_some, Option.bind_some]
        have hu : u3 (Dg (Dg σ1 (Wd v)) (Wd (Wd v))) 0 (σ 0) = Dg (Dg σ1 (Wd v)) (Wd (Wd v)) := by rw [← g0, u3_self]
        rw [hu, if_pos (show (-1 : Int32) = -1 from rfl), Option.bind_some, r2, Option.bind_some, if_pos (show (2 : Int32) ≤ nI 2 from Int32.le_refl _)]
        unfold fX9_drift_83
        rw [if_pos e22, if_pos rfl, nI_1]
        exact ⟨ra, σa, una, sda, nowa, pasta, qa1, qa2, qa3⟩
      · obtain ⟨τ', t', m1, m2, m3, -⟩ := rem_ok hF' hI sa
        have hy : ¬ y = -1 := by rw [s3]; exact nI_m1 s (by omega)
        rw [if_neg hy, Option.bind_some, r2, Option.bind_some, if_pos (show (2 : Int32) ≤ nI 2 from Int32.le_refl _), s3, m1, Option.bind_some, Option.bind_some]
        unfold fX9_drift_83
        rw [if_pos e22, if_neg i10, f2, Option.bind_some, s3, m2, Option.bind_some, nI_1]
        have hrel := relD (σ := σ) (σ1 := σ1) (σ2 := u3 (Dg (Dg σ1 (Wd v)) (Wd (Wd v))) 0 τ') (sd' := nI (Wd (Wd v))) (t' := t') r3 r4 r5 hR (fun i h1 h2 => by rw [u3_ne _ _ (by omega), Dg_i _ _ (by omega), Dg_i _ _ (by omega)]) (fun c hc => by rw [u3_ne _ _ (by omega), Dg_c _ _ (by omega), Dg_c _ _ (by omega)]) (by rw [u3_ne _ _ (by omega), Dg_v]) (nI_pos' (Wd_lt _)) (by rw [u3_at]; exact m3)
        rw [u3_at] at hrel
        obtain ⟨rb, σb, unb, sdb, nowb, pastb, qb1, qb2, qb3⟩ := drift_tr hF j (i + 1) n m _ _ _ _ _ hrel (by omega) (by omega) (by omega)
        rw [show i + 1 + j = i + (j + 1) by omega] at qb1 qb2
        exact ⟨rb, σb, unb, sdb, nowb, pastb, qb1, qb2, qb3⟩
    · have e2 : ¬ nI kind = (2 : Int32) := fun z => hk2 ((nI_eq (b := 2) (by omega) (by omega)).mp z)
      have e2' : ¬ (2 : Int32) ≤ nI kind := nI_ge (b := 2) (by omega) (by omega)
      rw [if_neg e2]
      rcases f3 with ⟨f3, f4⟩ | ⟨s, sa, s60, s3, s4⟩
      · subst f3
        rw [if_pos (show (-1 : Int32) = -1 from rfl), if_pos (show (-1 : Int32) = -1 from rfl), Option.bind_some, r2, Option.bind_some, if_neg e2', if_pos rfl, mg_many, Option.bind_some]
        rcases room_val (F := F) (σ := Dg (Dg σ1 (Wd v)) (Wd (Wd v))) (t := t) (by rw [g0]; exact hI) with ⟨b1, b2, b3, b4⟩ | ⟨b1, b2, b3, b4⟩
        · rw [g0] at b3
          rw [b2, Option.bind_some, if_pos rfl, Option.bind_some, if_pos b3]
          unfold fX9_drift_83
          rw [if_neg e2, nI_1]
          exact ⟨ra, σa, una, sda, nowa, pasta, qa1, qa2, qa3⟩
        · rw [g0] at b3
          obtain ⟨τ', t', m1, m2, m3, -⟩ := add_ok (w := nI wo) hF' hI f4 hkey (nI_pos' (by omega)) b1
          rw [b2, Option.bind_some, if_neg i10, d3a, d3b, Option.bind_some, if_neg b3, Option.bind_some]
          dsimp only
          rw [g0', m1, m2, Option.bind_some, Option.bind_some, Option.bind_some, nI_1]
          have hrel := relD (σ := σ) (σ1 := σ1) (σ2 := u3 (Dg (Dg (Dg σ1 (Wd v)) (Wd (Wd v))) (Wd (Wd (Wd v)))) 0 τ') (sd' := nI (Wd (Wd (Wd v)))) (t' := t') r3 r4 r5 hR (fun i h1 h2 => by rw [u3_ne _ _ (by omega), Dg_i _ _ (by omega), Dg_i _ _ (by omega), Dg_i _ _ (by omega)]) (fun c hc => by rw [u3_ne _ _ (by omega), Dg_c _ _ (by omega), Dg_c _ _ (by omega), Dg_c _ _ (by omega)]) (by rw [u3_ne _ _ (by omega), Dg_v]) (nI_pos' (Wd_lt _)) (by rw [u3_at]; exact m3)
          rw [u3_at] at hrel
          obtain ⟨rb, σb, unb, sdb, nowb, pastb, qb1, qb2, qb3⟩ := drift_tr hF j (i + 1) n m _ _ _ _ _ hrel (by omega) (by omega) (by omega)
          rw [show i + 1 + j = i + (j + 1) by omega] at qb1 qb2
          exact ⟨rb, σb, unb, sdb, nowb, pastb, qb1, qb2, qb3⟩
      · have hy : ¬ y = -1 := by rw [s3]; exact nI_m1 s (by omega)
        rw [if_neg hy, if_neg hy, Option.bind_some, Option.bind_some, r2, Option.bind_some, if_neg e2', if_neg i10]
        unfold fX9_drift_83
        rw [if_neg e2, nI_1]
        exact ⟨ra, σa, una, sda, nowa, pasta, qa1, qa2, qa3⟩
theorem drift_ok {F : Nat} (hF : 5000 ≤ F) {σ : Sig} {un sd : Int32} {now past im iseed kept : Nat → Int32} (h : Rel σ un sd now past im iseed kept) (x : Int32) : ∃ r σ' un' sd' now' past', fX8_drift F σ x = some (r, σ') ∧ fX9_drift F un sd now past x = some (r, un', sd', now', past') ∧ Rel σ' un' sd' now' past' im iseed kept := by
  unfold fX8_drift fX9_drift
  rw [show (1 : Int64) = (1 : Int32).toInt64 from rfl, show (12 : Int64) = (12 : Int32).toInt64 from rfl, in_val, within_val, Option.bind_some, Option.bind_some]
  by_cases hx : 1 ≤ x ∧ x ≤ 12
  · rw [if_pos hx, if_neg i10, if_neg i10]
    obtain ⟨n, hn12, rfl⟩ := nI_of2 (n := 12) (by decide) (Int32.not_lt.mpr (Int32.le_trans (by decide) hx.1)) hx.2
    have := drift_tr hF n 0 F F σ un sd now past h (by omega) (by omega) (by omega)
    rw [Nat.zero_add, nI_0] at this
    exact this
  · rw [if_neg hx, if_pos rfl, if_pos rfl]
    exact ⟨_, σ, un, sd, now, past, rfl, rfl, h⟩
