/-! ===== the deeds, from the relation ===== -/
theorem i10 : ¬ (1 : Int32) = 0 := by decide
def Rel (σ : Sig) (un sd : Int32) (now past im iseed kept : Nat → Int32) : Prop := (∃ t, Inv (σ 0) t) ∧ now = flat (σ 0) ∧ RP σ un past ∧ RI σ im iseed kept ∧ sd = σ 16 3 0 ∧ 0 ≤ sd
theorem rel0 {σ σ1 σ2 : Sig} {un1 sd : Int32} {past1 im iseed kept : Nat → Int32} {t' : Gt} (hP : RP σ1 un1 past1) (e1 : ∀ i, i < 2 ∨ 14 ≤ i ∧ i < 16 → σ1 i = σ i) (e2 : ∀ c, c ≠ 0 → σ1 16 c = σ 16 c) (hR : RI σ im iseed kept) (hs : sd = σ 16 3 0) (h0 : 0 ≤ sd) (e3 : ∀ i, 2 ≤ i → σ2 i = σ1 i) (hI : Inv (σ2 0) t') : Rel σ2 un1 sd (flat (σ2 0)) past1 im iseed kept := by
  refine ⟨⟨t', hI⟩, rfl, hP.congr (fun i h1 h2 => e3 i h1) (by rw [e3 16 (by omega)]), hR.congr (fun i hi => by rw [e3 _ (by omega), e1 _ (by omega)]) (fun i hi => by rw [e3 16 (by omega), e2 _ (by omega)]), ?_, h0⟩
  rw [e3 16 (by omega), e2 3 (by omega)]; exact hs
theorem isKey_val (F : Nat) (x : Int32) : fX8_isKey F x = some (if 0 ≤ x ∧ x ≤ 99999 then 1 else 0) ∧ fX9_isKey F x = some (if 0 ≤ x ∧ x ≤ 99999 then 1 else 0) := by
  unfold fX8_isKey fX9_isKey
  rw [show (0 : Int64) = (0 : Int32).toInt64 from rfl, show (99999 : Int64) = (99999 : Int32).toInt64 from rfl, in_val, within_val, Option.bind_some]
  by_cases h : 0 ≤ x ∧ x ≤ 99999
  · rw [if_pos h]; exact ⟨rfl, rfl⟩
  · rw [if_neg h]; exact ⟨rfl, rfl⟩
theorem isWorth_val (F : Nat) (x : Int32) : fX8_isWorth F x = some (if 0 ≤ x ∧ x ≤ 9999 then 1 else 0) := by
  unfold fX8_isWorth
  rw [within_val, Option.bind_some]
  by_cases h : 0 ≤ x ∧ x ≤ 9999
  · rw [if_pos h]; rfl
  · rw [if_neg h]; rfl
theorem isThere_val {F : Nat} (hF : 100 ≤ F) {σ : Sig} {t : Gt} (hI : Inv (σ 0) t) (x : Int32) : (x ∉ tks t ∧ fX8_isThere F σ x = some 0 ∧ fX9_isThere F (flat (σ 0)) x = some 0) ∨ (x ∈ tks t ∧ fX8_isThere F σ x = some 1 ∧ fX9_isThere F (flat (σ 0)) x = some 1) := by
  obtain ⟨y, f1, f2, f3⟩ := find_ok hF hI x
  unfold fX8_isThere fX9_isThere
  rw [f1, f2, Option.bind_some]
  rcases f3 with ⟨f3, f4⟩ | ⟨s, s1, s60, s3, s4⟩
  · rw [if_pos f3]; exact Or.inl ⟨f4, rfl, rfl⟩
  · rw [if_neg (by rw [s3]; exact nI_m1 s (by omega))]
    exact Or.inr ⟨s4 ▸ key_mem hI.1 s1, rfl, rfl⟩
theorem room_val {F : Nat} {σ : Sig} {t : Gt} (hI : Inv (σ 0) t) : (60 ≤ (tsl t).length ∧ fX8_hasRoom F σ = some 0 ∧ (60 : Int32) ≤ σ 0 6 1 ∧ σ 0 6 1 = 60) ∨ ((tsl t).length < 60 ∧ fX8_hasRoom F σ = some 1 ∧ ¬ (60 : Int32) ≤ σ 0 6 1 ∧ ¬ σ 0 6 1 = 60) := by
  have h60 := hI.2.2.2.2.2.2.2.2.2
  unfold fX8_hasRoom
  rw [hI.2.2.2.2.2.2.2.2.1]
  by_cases h : 60 ≤ (tsl t).length
  · have e : (tsl t).length = 60 := by omega
    rw [e]
    exact Or.inl ⟨by omega, by rw [if_pos (by decide)], by decide, by decide⟩
  · have h1 : ¬ (60 : Int32) ≤ nI (tsl t).length := nI_ge (b := 60) (by omega) (by omega)
    exact Or.inr ⟨by omega, by rw [if_neg h1], h1, fun e => h1 (e ▸ Int32.le_refl _)⟩
theorem put_ok {F : Nat} (hF : 5000 ≤ F) {σ : Sig} {un sd : Int32} {now past im iseed kept : Nat → Int32} (h : Rel σ un sd now past im iseed kept) (x w : Int32) : ∃ r σ' un' now' past', fX8_put F σ x w = some (r, σ') ∧ fX9_put F un now past x w = some (r, un', now', past') ∧ Rel σ' un' sd now' past' im iseed kept := by
  obtain ⟨⟨t, hI⟩, rfl, hP, hR, hs, h0⟩ := id h
  obtain ⟨k1, k2⟩ := isKey_val F x
  unfold fX8_put fX9_put
  rw [k1, k2, Option.bind_some, Option.bind_some, isWorth_val, show (0 : Int64) = (0 : Int32).toInt64 from rfl, show (9999 : Int64) = (9999 : Int32).toInt64 from rfl, in_val, Option.bind_some, Option.bind_some]
  by_cases hk : 0 ≤ x ∧ x ≤ 99999
  · rw [if_pos hk, if_neg i10, if_neg i10]
    by_cases hw : 0 ≤ w ∧ w ≤ 9999
    · rw [if_pos hw, if_neg i10, if_neg i10]
      rcases isThere_val (F := F) (by omega) hI x with ⟨a1, a2, a3⟩ | ⟨a1, a2, a3⟩
      · rw [a2, a3, Option.bind_some, Option.bind_some, if_pos rfl, if_pos rfl, mg_many, Option.bind_some]
        rcases room_val (F := F) hI with ⟨b1, b2, b3, b4⟩ | ⟨b1, b2, b3, b4⟩
        · rw [b2, Option.bind_some, if_pos rfl, if_pos b4]
          exact ⟨_, σ, un, _, past, rfl, rfl, h⟩
        · rw [b2, Option.bind_some, if_neg i10, if_neg b4]
          obtain ⟨σ1, un1, past1, r1, r2, r3, r4, r5⟩ := remember_ok hF hP hI
          obtain ⟨τ', t', q1, q2, q3, -⟩ := add_ok (F := F) (by omega) hI a1 hk hw.1 b1
          rw [r1, r2, Option.bind_some, Option.bind_some, r4 0 (by omega), q1, q2, Option.bind_some, Option.bind_some, if_neg (show ¬ ((367 : Int32) < 0 ∨ 368 ≤ (367 : Int32).toNatClampNeg) by decide), show ((367 : Int32).toNatClampNeg) = 365 + 2 from rfl, flat_8 (by omega), u3_at]
          refine ⟨_, _, _, _, _, rfl, rfl, ?_⟩
          have := rel0 (σ := σ) (σ1 := σ1) (σ2 := u3 σ1 0 τ') (t' := t') r3 r4 r5 hR hs h0 (fun i hi => u3_ne _ _ (by omega)) (by rw [u3_at]; exact q3)
          rw [u3_at] at this
          exact this
      · rw [a2, a3, Option.bind_some, Option.bind_some, if_neg i10, if_neg i10]
        exact ⟨_, σ, un, _, past, rfl, rfl, h⟩
    · rw [if_neg hw, if_pos rfl, if_pos rfl]
      exact ⟨_, σ, un, _, past, rfl, rfl, h⟩
  · rw [if_neg hk, if_pos rfl, if_pos rfl]
    exact ⟨_, σ, un, _, past, rfl, rfl, h⟩
theorem take_ok {F : Nat} (hF : 5000 ≤ F) {σ : Sig} {un sd : Int32} {now past im iseed kept : Nat → Int32} (h : Rel σ un sd now past im iseed kept) (x : Int32) : ∃ r σ' un' now' past', fX8_take F σ x = some (r, σ') ∧ fX9_take F un now past x = some (r, un', now', past') ∧ Rel σ' un' sd now' past' im iseed kept := by
  obtain ⟨⟨t, hI⟩, rfl, hP, hR, hs, h0⟩ := id h
  obtain ⟨k1, k2⟩ := isKey_val F x
  unfold fX8_take fX9_take
  rw [k1, k2, Option.bind_some, Option.bind_some]
  by_cases hk : 0 ≤ x ∧ x ≤ 99999
  · rw [if_pos hk, if_neg i10, if_neg i10]
    obtain ⟨y, f1, f2, f3⟩ := find_ok (F := F) (by omega) hI x
    rw [f1, f2, Option.bind_some, Option.bind_some]
    rcases f3 with ⟨f3, f4⟩ | ⟨s, s1, s60, s3, s4⟩
    · rw [if_pos f3, if_pos f3]
      exact ⟨_, σ, un, _, past, rfl, rfl, h⟩
    · have hy : ¬ y = -1 := by rw [s3]; exact nI_m1 s (by omega)
      obtain ⟨σ1, un1, past1, r1, r2, r3, r4, r5⟩ := remember_ok hF hP hI
      obtain ⟨τ', t', q1, q2, q3, -⟩ := rem_ok (F := F) (by omega) hI s1
      rw [if_neg hy, if_neg hy, s3, cg_worth s60, mg_worth s60, Option.bind_some, Option.bind_some, r1, r2, Option.bind_some, Option.bind_some, r4 0 (by omega), q1, q2, Option.bind_some, Option.bind_some]
      refine ⟨_, _, _, _, _, rfl, rfl, ?_⟩
      have := rel0 (σ := σ) (σ1 := σ1) (σ2 := u3 σ1 0 τ') (t' := t') r3 r4 r5 hR hs h0 (fun i hi => u3_ne _ _ (by omega)) (by rw [u3_at]; exact q3)
      rw [u3_at] at this
      exact this
  · rw [if_neg hk, if_pos rfl, if_pos rfl]
    exact ⟨_, σ, un, _, past, rfl, rfl, h⟩
theorem Inv.worth {τ : Tau} {t : Gt} (h : Inv τ t) (s : Nat) {w : Int32} (hw : 0 ≤ w) : Inv (u2 τ 1 s w) t := by
  obtain ⟨i1, i2, i3, i4, i5, i6, i7, i8, i9, i10⟩ := h
  have hrow : ∀ c, c ≠ 1 → u2 τ 1 s w c = τ c := fun c hc => u2_row _ _ hc
  refine ⟨?_, by rw [hrow 6 (by omega)]; exact i2, i3, i4, i5, i6, ?_, ?_, by rw [hrow 6 (by omega)]; exact i9, i10⟩
  · exact rep_same i1 (fun q hq => by rw [hrow 0 (by omega), hrow 2 (by omega), hrow 3 (by omega), hrow 4 (by omega), hrow 5 (by omega)]; exact ⟨rfl, rfl, rfl, rfl, rfl⟩)
  · intro q hq hn; rw [hrow 0 (by omega)]; exact i7 q hq hn
  · intro q hq; rw [u2_app]
    by_cases e : 1 = 1 ∧ q = s
    · rw [if_pos e]; exact hw
    · rw [if_neg e]; exact i8 q hq
theorem worth_ok {F : Nat} (hF : 5000 ≤ F) {σ : Sig} {un sd : Int32} {now past im iseed kept : Nat → Int32} (h : Rel σ un sd now past im iseed kept) (x w : Int32) : ∃ r σ' un' now' past', fX8_worth F σ x w = some (r, σ') ∧ fX9_worth F un now past x w = some (r, un', now', past') ∧ Rel σ' un' sd now' past' im iseed kept := by
  obtain ⟨⟨t, hI⟩, rfl, hP, hR, hs, h0⟩ := id h
  obtain ⟨y, f1, f2, f3⟩ := find_ok (F := F) (by omega) hI x
  unfold fX8_worth fX9_worth
  rw [f1, Option.bind_some]
  rcases f3 with ⟨f3, f4⟩ | ⟨s, s1, s60, s3, s4⟩
  · rw [if_pos f3]
    refine ⟨_, σ, un, _, past, rfl, ?_, h⟩
    by_cases hx : 0 ≤ x
    · rw [if_pos hx, f2, Option.bind_some]
      unfold fX9_worth_13
      rw [if_pos f3]
    · rw [if_neg hx]
      unfold fX9_worth_13
      rw [if_pos rfl]
  · have hx := (hI.2.2.2.2.2.1 x (s4 ▸ key_mem hI.1 s1)).1
    have hy : ¬ y = -1 := by rw [s3]; exact nI_m1 s (by omega)
    rw [if_neg hy, if_pos hx, f2, Option.bind_some]
    unfold fX9_worth_13
    rw [if_neg hy, isWorth_val, show (0 : Int64) = (0 : Int32).toInt64 from rfl, show (9999 : Int64) = (9999 : Int32).toInt64 from rfl, in_val, Option.bind_some, Option.bind_some]
    by_cases hw : 0 ≤ w ∧ w ≤ 9999
    · obtain ⟨σ1, un1, past1, r1, r2, r3, r4, r5⟩ := remember_ok hF hP hI
      have hl := mg_lays (F := F) (τ := σ 0) 1 s60 (by omega) w
      have hl' : fX9_lays F (flat (σ 0)) (nI s) (1 : Int32) w = some (flat (u2 (σ 0) 1 s w)) := hl
      rw [if_pos hw, if_neg i10, if_neg i10, s3, cg_worth s60, mg_worth s60, Option.bind_some, Option.bind_some, r1, r2, Option.bind_some, Option.bind_some, r4 0 (by omega), cg_setWorth s60, hl', Option.bind_some, Option.bind_some]
      refine ⟨_, _, _, _, _, rfl, rfl, ?_⟩
      have := rel0 (σ := σ) (σ1 := σ1) (σ2 := u3 σ1 0 (u2 (σ 0) 1 s w)) (t' := t) r3 r4 r5 hR hs h0 (fun i hi => u3_ne _ _ (by omega)) (by rw [u3_at]; exact hI.worth s hw.1)
      rw [u3_at] at this
      exact this
    · rw [if_neg hw, if_pos rfl, if_pos rfl]
      exact ⟨_, σ, un, _, past, rfl, rfl, h⟩
theorem undo_ok {F : Nat} (hF : 5000 ≤ F) {σ : Sig} {un sd : Int32} {now past im iseed kept : Nat → Int32} (h : Rel σ un sd now past im iseed kept) (x : Int32) : ∃ r σ' un' now', fX8_undo F σ x = some (r, σ') ∧ fX9_undo F un now past x = some (r, un', now') ∧ Rel σ' un' sd now' past im iseed kept := by
  obtain ⟨⟨t, hI⟩, rfl, hP, hR, hs, h0⟩ := id h
  unfold fX8_undo fX9_undo
  rw [show (1 : Int64) = (1 : Int32).toInt64 from rfl, show (12 : Int64) = (12 : Int32).toInt64 from rfl, in_val, within_val, Option.bind_some, Option.bind_some]
  by_cases hx : 1 ≤ x ∧ x ≤ 12
  · rw [if_pos hx, if_neg i10, if_neg i10]
    obtain ⟨nx, hd, hnx, hhd, c1, c2, c3, f⟩ := id hP
    obtain ⟨n, hn12, rfl⟩ := nI_of2 (n := 12) (by decide) (Int32.not_lt.mpr (Int32.le_trans (by decide) hx.1)) hx.2
    have hn1 : 1 ≤ n := by
      have := hx.1
      rw [show (1 : Int32) = nI 1 from rfl] at this
      exact (nI_leI (by omega) (by omega)).mp this
    rw [c2, c3]
    by_cases hnh : n ≤ hd
    · have hle : nI n ≤ nI hd := nI_le hnh (by omega)
      rw [if_pos hle, if_pos hle]
      -- the row
      have hrow : fX5_restore F σ (nI n) = fX5_restore_27 F σ (nI n) (nI ((nx + 12 - n) % 12)) := by
        unfold fX5_restore
        rw [c1]
        by_cases hlt : n ≤ nx
        · have e : nI nx - nI n = nI ((nx + 12 - n) % 12) := by
            rw [show (nx + 12 - n) % 12 = nx - n by omega, nI_oI, nI_oI, nI_oI, oI_sub]
            congr 1; omega
          rw [e, if_pos (nI_pos' (by omega))]
        · have e : nI nx - nI n + 12 = nI ((nx + 12 - n) % 12) := by
            rw [show (nx + 12 - n) % 12 = nx + 12 - n by omega, show (12 : Int32) = oI 12 from rfl, nI_oI, nI_oI, nI_oI, oI_sub]
            unfold oI
            rw [← Int32.ofInt_add]
            congr 1; omega
          have hneg : ¬ 0 ≤ nI nx - nI n := by
            rw [nI_oI, nI_oI, oI_sub, Int32.le_iff_toInt_le]
            unfold oI
            rw [Int32.toInt_ofInt_of_le (by omega) (by omega)]
            show ¬ (0 : Int) ≤ _
            omega
          rw [if_neg hneg, e]
      have hr12 : (nx + 12 - n) % 12 < 12 := Nat.mod_lt _ (by omega)
      obtain ⟨p1, p2⟩ := nI12 hr12
      obtain ⟨τ', k1, k2⟩ := copy_ok F (σ 0) (σ (2 + (nx + 12 - n) % 12))
      have hrg : rg nx hd (hd - n) = 2 + (nx + 12 - n) % 12 := by unfold rg; omega
      obtain ⟨⟨t2, z1⟩, z2⟩ := f (hd - n) (by omega)
      rw [hrg] at z1 z2
      have hI2 := z1.vd k2
      have hfl : flat τ' = flat (σ (2 + (nx + 12 - n) % 12)) := flat_ext k2
      have esub : nI hd - nI n = nI (hd - n) := by
        rw [nI_oI, nI_oI, nI_oI, oI_sub]; congr 1; omega
      rw [hrow]
      unfold fX5_restore_27
      have hin : ¬ (nI ((nx + 12 - n) % 12) < 0 ∨ 12 ≤ (nI ((nx + 12 - n) % 12)).toNatClampNeg) := nI_nin hr12 (by omega)
      rw [c2, if_neg (nI_nlt hnh (by omega)), if_neg p1, if_pos p2, if_neg hin, nI_clamp (by omega), k1, Option.bind_some, Option.bind_some, esub]
      have hu := undo38 (F := F) (past := past) (h := hd - n) (by omega) 368 0 F (flat (σ 0)) (by omega) (by omega)
      rw [nI_0] at hu
      rw [hu]
      have hnow : cpr 0 368 (368 * (hd - n)) past (flat (σ 0)) = flat τ' := by
        rw [hfl]
        funext k
        unfold cpr
        by_cases hk : k < 368
        · rw [if_pos (by omega)]; exact z2 k hk
        · rw [if_neg (by omega), flat_big _ _ (by omega), flat_big _ _ (by omega)]
      rw [hnow]
      have e16 : (u3 σ 0 τ') 16 = σ 16 := u3_ne σ τ' (by omega)
      rw [e16, u3_at, u3_u3]
      have v1 : (u2 (σ 16) 0 0 (nI ((nx + 12 - n) % 12))) 0 1 = nI hd := by rw [u2_ne _ _ (Or.inr (by omega)), c2]
      rw [v1, esub]
      generalize hσ' : u3 (u3 σ 0 τ') 16 (u2 (u2 (σ 16) 0 0 (nI ((nx + 12 - n) % 12))) 0 1 (nI (hd - n))) = σ'
      have s0 : σ' 0 = τ' := by rw [← hσ', u3_ne _ _ (by omega), u3_at]
      have si : ∀ i, i ≠ 0 → i ≠ 16 → σ' i = σ i := fun i h1 h2 => by rw [← hσ', u3_ne _ _ h2, u3_ne _ _ h1]
      have s16 : σ' 16 = u2 (u2 (σ 16) 0 0 (nI ((nx + 12 - n) % 12))) 0 1 (nI (hd - n)) := by rw [← hσ', u3_at]
      have sc : ∀ c, c ≠ 0 → σ' 16 c = σ 16 c := fun c hc => by rw [s16, u2_row _ _ hc, u2_row _ _ hc]
      have hm : flat τ' 361 = σ' 0 6 1 := by rw [s0]; exact flat_6 (τ := τ') (k := 1) (by omega)
      refine ⟨σ' 0 6 1, σ', nI (hd - n), flat τ', rfl, by rw [hm], ⟨t2, by rw [s0]; exact hI2⟩, by rw [s0], ?_, ?_, ?_, h0⟩
      · refine ⟨(nx + 12 - n) % 12, hd - n, hr12, by omega, ?_, ?_, rfl, fun j hj => ?_⟩
        · rw [s16, u2_ne _ _ (Or.inr (by omega)), u2_at]
        · rw [s16, u2_at]
        · have hr : rg ((nx + 12 - n) % 12) (hd - n) j = rg nx hd j := by unfold rg; omega
          rw [hr, si _ (by unfold rg; omega) (by unfold rg; omega)]
          exact f j (by omega)
      · exact hR.congr (fun i hi => si _ (by omega) (by omega)) (fun i hi => sc _ (by omega))
      · rw [sc 3 (by omega)]; exact hs
    · have hle : ¬ nI n ≤ nI hd := nI_ge (by omega) (by omega)
      rw [if_neg hle, if_neg hle]
      exact ⟨_, σ, un, _, rfl, by rw [c3], h⟩
  · rw [if_neg hx, if_pos rfl, if_pos rfl]
    exact ⟨_, σ, un, _, rfl, rfl, h⟩
theorem seed_ok {F : Nat} {σ : Sig} {un sd : Int32} {now past im iseed kept : Nat → Int32} (h : Rel σ un sd now past im iseed kept) (x : Int32) : ∃ r σ' sd', fX8_seed F σ x = some (r, σ') ∧ fX9_seed F sd x = some (r, sd') ∧ Rel σ' un sd' now past im iseed kept := by
  obtain ⟨⟨t, hI⟩, rfl, hP, hR, hs, h0⟩ := id h
  unfold fX8_seed fX9_seed
  by_cases hx : 0 ≤ x
  · rw [if_pos hx, if_pos hx]
    have si : ∀ i, i ≠ 16 → u3 σ 16 (u2 (σ 16) 3 0 x) i = σ i := fun i hi => u3_ne _ _ hi
    refine ⟨_, _, _, rfl, by rw [hs], ⟨t, by rw [si 0 (by omega)]; exact hI⟩, by rw [si 0 (by omega)], hP.congr (fun i _ _ => si i (by omega)) (by rw [u3_at, u2_row _ _ (by omega)]), hR.congr (fun i hi => si _ (by omega)) (fun i hi => by rw [u3_at, u2_row _ _ (by omega)]), by rw [u3_at, u2_at], hx⟩
  · rw [if_neg hx, if_neg hx]
    exact ⟨_, σ, sd, rfl, rfl, h⟩
theorem image_val (F : Nat) (x : Int32) : fX8_isImage F x = some (if 0 ≤ x ∧ x ≤ 1 then 1 else 0) := by
  unfold fX8_isImage
  by_cases h0 : x < 0
  · rw [if_pos h0, if_neg (fun z => absurd h0 (Int32.not_lt.mpr z.1))]
  · obtain ⟨j, hj, rfl⟩ := nI_of h0
    rw [if_neg h0]
    by_cases h2 : j < 2
    · rw [if_neg (show ¬ (2 : Int32) ≤ nI j from nI_ge (b := 2) h2 (by omega)), if_pos ⟨Int32.not_lt.mp h0, nI_le (b := 1) (by omega) (by omega)⟩]
    · rw [if_pos (show (2 : Int32) ≤ nI j from nI_le (a := 2) (by omega) hj), if_neg (fun z => absurd z.2 (nI_ge (a := 1) (by omega) hj))]
theorem image_ix {x : Int32} (h : 0 ≤ x ∧ x ≤ 1) : ∃ i, i < 2 ∧ x = nI i := by
  obtain ⟨j, hj, e⟩ := nI_of2 (n := 1) (by decide) (Int32.not_lt.mpr h.1) h.2
  exact ⟨j, by omega, e⟩
theorem keep_ok {F : Nat} (hF : 5000 ≤ F) {σ : Sig} {un sd : Int32} {now past im iseed kept : Nat → Int32} (h : Rel σ un sd now past im iseed kept) (x : Int32) : ∃ r σ' un' im' iseed' kept', fX8_keep F σ x = some (r, σ') ∧ fX9_keep F un sd now im iseed kept x = some (r, un', im', iseed', kept') ∧ Rel σ' un' sd now past im' iseed' kept' := by
  obtain ⟨⟨t, hI⟩, rfl, hP, hR, hs, h0⟩ := id h
  unfold fX8_keep fX9_keep
  rw [image_val, show (0 : Int64) = (0 : Int32).toInt64 from rfl, show (1 : Int64) = (1 : Int32).toInt64 from rfl, in_val, Option.bind_some, Option.bind_some]
  by_cases hx : 0 ≤ x ∧ x ≤ 1
  · obtain ⟨i, hi, rfl⟩ := image_ix hx
    have hin : ¬ (nI i < 0 ∨ 2 ≤ (nI i).toNatClampNeg) := nI_nin hi (by omega)
    rw [if_pos hx, if_neg i10, if_neg i10, if_neg hin, nI_clamp (by omega)]
    obtain ⟨τ', k1, k2⟩ := copy_ok F (σ (14 + i)) (σ 0)
    have hfl : flat τ' = flat (σ 0) := flat_ext k2
    have hin2 : ¬ (nI i < 0 ∨ 2 ≤ i) := fun z => z.elim (nI_pos (by omega)) (by omega)
    rw [k1, Option.bind_some, if_neg hin2, if_neg hin2]
    unfold fX5_forget
    rw [Option.bind_some]
    have hk := keep15 (F := F) (sd := sd) (now := flat (σ 0)) (iseed := iseed) (kept := kept) (h := i) hi un 368 0 F im (by omega) (by omega)
    rw [nI_0] at hk
    rw [hk]
    have e16 : (u3 σ (14 + i) τ') 16 = σ 16 := u3_ne σ τ' (by omega)
    rw [e16, u3_at, u3_at, u3_u3, u3_u3]
    generalize hσ' : u3 (u3 σ (14 + i) τ') 16 (u2 (u2 (u2 (σ 16) (1 + i) 0 (σ 16 3 0)) (1 + i) 1 1) 0 1 0) = σ'
    have si : ∀ j, j ≠ 16 → j ≠ 14 + i → σ' j = σ j := fun j h1 h2 => by rw [← hσ', u3_ne _ _ h1, u3_ne _ _ h2]
    have s1 : σ' (14 + i) = τ' := by rw [← hσ', u3_ne _ _ (by omega), u3_at]
    have s16 : σ' 16 = u2 (u2 (u2 (σ 16) (1 + i) 0 (σ 16 3 0)) (1 + i) 1 1) 0 1 0 := by rw [← hσ', u3_at]
    have sc : ∀ c, c ≠ 0 → c ≠ 1 + i → σ' 16 c = σ 16 c := fun c h1 h2 => by rw [s16, u2_row _ _ h1, u2_row _ _ h2, u2_row _ _ h2]
    refine ⟨_, _, _, _, _, _, rfl, rfl, ⟨t, by rw [si 0 (by omega) (by omega)]; exact hI⟩, by rw [si 0 (by omega) (by omega)], ?_, ?_, by rw [sc 3 (by omega) (by omega)]; exact hs, h0⟩
    · obtain ⟨nx, hd, hnx, hhd, c1, c2, c3, f⟩ := hP
      refine ⟨nx, 0, hnx, by omega, ?_, ?_, rfl, fun j hj => by omega⟩
      · rw [s16, u2_ne _ _ (Or.inr (by omega)), u2_ne _ _ (Or.inl (by omega)), u2_ne _ _ (Or.inl (by omega))]; exact c1
      · rw [s16, u2_at]; rfl
    · intro j hj
      by_cases hji : j = i
      · subst hji
        have z0 : σ' 16 (1 + j) 1 = 1 := by rw [s16, u2_ne _ _ (Or.inl (by omega)), u2_at]
        have z1 : σ' 16 (1 + j) 0 = σ 16 3 0 := by rw [s16, u2_ne _ _ (Or.inl (by omega)), u2_ne _ _ (Or.inr (by omega)), u2_at]
        rw [up_at, up_at, z0, z1, s1]
        refine ⟨rfl, Or.inr rfl, fun _ => ⟨⟨t, hI.vd k2⟩, fun k hk => ?_, hs, h0⟩⟩
        unfold cps
        rw [if_pos (by omega), hfl]
        exact congrArg (flat (σ 0)) (by omega)
      · obtain ⟨z1, z2, z3⟩ := hR j hj
        rw [up_ne hji, up_ne hji, sc _ (by omega) (by omega), si _ (by omega) (by omega)]
        refine ⟨z1, z2, fun hne => ?_⟩
        obtain ⟨w1, w2, w3, w4⟩ := z3 hne
        refine ⟨w1, fun k hk => ?_, w3, w4⟩
        rw [← w2 k hk]
        unfold cps
        rw [if_neg (by omega)]
  · rw [if_neg hx, if_pos rfl, if_pos rfl]
    exact ⟨_, σ, un, im, iseed, kept, rfl, rfl, h⟩
theorem back_ok {F : Nat} (hF : 5000 ≤ F) {σ : Sig} {un sd : Int32} {now past im iseed kept : Nat → Int32} (h : Rel σ un sd now past im iseed kept) (x : Int32) : ∃ r σ' un' sd' now', fX8_goBack F σ x = some (r, σ') ∧ fX9_goBack F un sd now im iseed kept x = some (r, un', sd', now') ∧ Rel σ' un' sd' now' past im iseed kept := by
  obtain ⟨⟨t, hI⟩, rfl, hP, hR, hs, h0⟩ := id h
  unfold fX8_goBack fX9_goBack
  rw [image_val, show (0 : Int64) = (0 : Int32).toInt64 from rfl, show (1 : Int64) = (1 : Int32).toInt64 from rfl, in_val, Option.bind_some, Option.bind_some]
  by_cases hx : 0 ≤ x ∧ x ≤ 1
  · obtain ⟨i, hi, rfl⟩ := image_ix hx
    have hin : ¬ (nI i < 0 ∨ 2 ≤ (nI i).toNatClampNeg) := nI_nin hi (by omega)
    have hin2 : ¬ (nI i < 0 ∨ 2 ≤ i) := fun z => z.elim (nI_pos (by omega)) (by omega)
    obtain ⟨z1, z2, z3⟩ := hR i hi
    rw [if_pos hx, if_neg i10, if_neg i10, if_neg hin, if_neg hin, nI_clamp (by omega), ← z1]
    by_cases hk0 : kept i = 0
    · rw [if_pos hk0, if_pos hk0, if_neg hin2]
      exact ⟨_, σ, un, sd, _, rfl, rfl, h⟩
    · obtain ⟨⟨t2, w1⟩, w2, w3, w4⟩ := z3 hk0
      obtain ⟨τ', k1, k2⟩ := copy_ok F (σ 0) (σ (14 + i))
      have hfl : flat τ' = flat (σ (14 + i)) := flat_ext k2
      rw [if_neg hk0, if_neg hk0, if_neg hin2, k1, Option.bind_some, if_neg hin2]
      unfold fX5_forget
      rw [Option.bind_some]
      have hb := back27 (F := F) (im := im) (iseed := iseed) (kept := kept) (h := i) hi un sd 368 0 F (flat (σ 0)) (by omega) (by omega)
      rw [nI_0] at hb
      rw [hb]
      have hnow : cpr 0 368 (368 * i) im (flat (σ 0)) = flat τ' := by
        rw [hfl]
        funext k
        unfold cpr
        by_cases hk : k < 368
        · rw [if_pos (by omega)]; exact w2 k hk
        · rw [if_neg (by omega), flat_big _ _ (by omega), flat_big _ _ (by omega)]
      rw [hnow]
      have e16 : (u3 σ 0 τ') 16 = σ 16 := u3_ne σ τ' (by omega)
      rw [e16, u3_at, u3_u3]
      generalize hσ' : u3 (u3 σ 0 τ') 16 (u2 (u2 (σ 16) 3 0 (σ 16 (1 + i) 0)) 0 1 0) = σ'
      have s0 : σ' 0 = τ' := by rw [← hσ', u3_ne _ _ (by omega), u3_at]
      have si : ∀ j, j ≠ 16 → j ≠ 0 → σ' j = σ j := fun j h1 h2 => by rw [← hσ', u3_ne _ _ h1, u3_ne _ _ h2]
      have s16 : σ' 16 = u2 (u2 (σ 16) 3 0 (σ 16 (1 + i) 0)) 0 1 0 := by rw [← hσ', u3_at]
      have sc : ∀ c, c ≠ 0 → c ≠ 3 → σ' 16 c = σ 16 c := fun c h1 h2 => by rw [s16, u2_row _ _ h1, u2_row _ _ h2]
      refine ⟨_, _, _, _, _, rfl, rfl, ⟨t2, by rw [s0]; exact w1.vd k2⟩, by rw [s0], ?_, hR.congr (fun j hj => si _ (by omega) (by omega)) (fun j hj => sc _ (by omega) (by omega)), ?_, w4⟩
      · obtain ⟨nx, hd, hnx, hhd, c1, c2, c3, f⟩ := hP
        refine ⟨nx, 0, hnx, by omega, ?_, ?_, rfl, fun j hj => by omega⟩
        · rw [s16, u2_ne _ _ (Or.inr (by omega)), u2_ne _ _ (Or.inl (by omega))]; exact c1
        · rw [s16, u2_at]; rfl
      · rw [s16, u2_ne _ _ (Or.inl (by omega)), u2_at, w3]
  · rw [if_neg hx, if_pos rfl, if_pos rfl]
    exact ⟨_, σ, un, sd, _, rfl, rfl, h⟩
