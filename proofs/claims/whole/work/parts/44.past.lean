/-! ===== what is kept: the past, the images, the draws ===== -/
def cps (i N off : Nat) (f g : Nat → Int32) : Nat → Int32 := fun k => if off + i ≤ k ∧ k < off + N then f (k - off) else g k
def cpr (i N off : Nat) (f g : Nat → Int32) : Nat → Int32 := fun k => if i ≤ k ∧ k < N then f (off + k) else g k
theorem cps_end (N off : Nat) (f g : Nat → Int32) : cps N N off f g = g := by
  funext k; unfold cps; rw [if_neg (by omega)]
theorem cpr_end (N off : Nat) (f g : Nat → Int32) : cpr N N off f g = g := by
  funext k; unfold cpr; rw [if_neg (by omega)]
theorem cps_step {i N off : Nat} (h : i < N) (f g : Nat → Int32) : cps (i + 1) N off f (upd g (off + i) (f i)) = cps i N off f g := by
  funext k; unfold cps upd
  by_cases h1 : off + (i + 1) ≤ k ∧ k < off + N
  · rw [if_pos h1, if_pos (by omega)]
  · rw [if_neg h1]
    by_cases h2 : k = off + i
    · subst h2; rw [if_pos rfl, if_pos (by omega)]; congr 1; omega
    · rw [if_neg h2, if_neg (by omega)]
theorem cpr_step {i N off : Nat} (h : i < N) (f g : Nat → Int32) : cpr (i + 1) N off f (upd g i (f (off + i))) = cpr i N off f g := by
  funext k; unfold cpr upd
  by_cases h1 : i + 1 ≤ k ∧ k < N
  · rw [if_pos h1, if_pos (by omega)]
  · rw [if_neg h1]
    by_cases h2 : k = i
    · subst h2; rw [if_pos rfl, if_pos (by omega)]
    · rw [if_neg h2, if_neg (by omega)]
theorem ix368 (h i : Nat) : (368 : Int32) * nI h + nI i = nI (368 * h + i) := by rw [show (368 : Int32) = nI 368 from rfl, nI_mul, nI_add]
theorem save52 {F : Nat} {now : Nat → Int32} {h : Nat} (hh : h < 12) : ∀ (j i n : Nat) (past : Nat → Int32), i + j = 368 → j < n → fX9_save_52 F now n (nI h) past (nI i) = some (nI (h + 1), cps i 368 (368 * h) now past)
  | 0, i, n, past, hi, hn => by
    obtain ⟨n, rfl⟩ : ∃ z, n = z + 1 := ⟨n - 1, by omega⟩
    obtain rfl : i = 368 := by omega
    rw [fX9_save_52, if_pos (by decide), cps_end, nI_1]
  | j + 1, i, n, past, hi, hn => by
    obtain ⟨n, rfl⟩ : ∃ z, n = z + 1 := ⟨n - 1, by omega⟩
    rw [fX9_save_52, if_neg (show ¬ (368 : Int32) ≤ nI i from nI_ge (a := i) (b := 368) (by omega) (by omega)), if_neg (nI_nin (by omega) (by omega)), ix368, if_neg (nI_nin (by omega) (by omega)), nI_clamp (by omega), nI_clamp (by omega), nI_1, save52 hh j (i + 1) n _ (by omega) (by omega), cps_step (by omega)]
theorem save11 {F : Nat} {now : Nat → Int32} : ∀ (j i n : Nat) (un : Int32) (past : Nat → Int32), i + j = 4048 → j < n → fX9_save_11 F now n un past (nI i) = fX9_save_50 F now (un - 1) (cpr i 4048 368 past past)
  | 0, i, n, un, past, hi, hn => by
    obtain ⟨n, rfl⟩ : ∃ z, n = z + 1 := ⟨n - 1, by omega⟩
    obtain rfl : i = 4048 := by omega
    rw [fX9_save_11, if_pos (by decide), cpr_end]
  | j + 1, i, n, un, past, hi, hn => by
    obtain ⟨n, rfl⟩ : ∃ z, n = z + 1 := ⟨n - 1, by omega⟩
    have e : nI i + 368 = nI (368 + i) := by rw [show (368 : Int32) = nI 368 from rfl, nI_add, Nat.add_comm]
    rw [fX9_save_11, if_neg (show ¬ (4048 : Int32) ≤ nI i from nI_ge (a := i) (b := 4048) (by omega) (by omega)), e, if_neg (nI_nin (by omega) (by omega)), if_neg (nI_nin (by omega) (by omega)), nI_clamp (by omega), nI_clamp (by omega), nI_1, save11 j (i + 1) n un _ (by omega) (by omega)]
    congr 1
    funext k
    unfold cpr upd
    by_cases h1 : i + 1 ≤ k ∧ k < 4048
    · rw [if_pos h1, if_neg (show ¬ 368 + k = i by omega), if_pos (show i ≤ k ∧ k < 4048 by omega)]
    · rw [if_neg h1]
      by_cases h2 : k = i
      · subst h2; rw [if_pos rfl, if_pos (by omega)]
      · rw [if_neg h2, if_neg (by omega)]
theorem undo38 {F : Nat} {past : Nat → Int32} {h : Nat} (hh : h < 12) : ∀ (j i n : Nat) (now : Nat → Int32), i + j = 368 → j < n → fX9_undo_38 F past n (nI h) now (nI i) = some (cpr i 368 (368 * h) past now 361, nI h, cpr i 368 (368 * h) past now)
  | 0, i, n, now, hi, hn => by
    obtain ⟨n, rfl⟩ : ∃ z, n = z + 1 := ⟨n - 1, by omega⟩
    obtain rfl : i = 368 := by omega
    rw [fX9_undo_38, if_pos (by decide), cpr_end]
    rfl
  | j + 1, i, n, now, hi, hn => by
    obtain ⟨n, rfl⟩ : ∃ z, n = z + 1 := ⟨n - 1, by omega⟩
    rw [fX9_undo_38, if_neg (show ¬ (368 : Int32) ≤ nI i from nI_ge (a := i) (b := 368) (by omega) (by omega)), ix368, if_neg (nI_nin (by omega) (by omega)), if_neg (nI_nin (by omega) (by omega)), nI_clamp (by omega), nI_clamp (by omega), nI_1, undo38 hh j (i + 1) n _ (by omega) (by omega), cpr_step (by omega)]
theorem keep15 {F : Nat} {sd : Int32} {now iseed kept : Nat → Int32} {h : Nat} (hh : h < 2) (un : Int32) : ∀ (j i n : Nat) (im : Nat → Int32), i + j = 368 → j < n → fX9_keep_15 F sd now n un im iseed kept (nI h) (nI i) = some (1, 0, cps i 368 (368 * h) now im, upd iseed h sd, upd kept h 1)
  | 0, i, n, im, hi, hn => by
    obtain ⟨n, rfl⟩ : ∃ z, n = z + 1 := ⟨n - 1, by omega⟩
    obtain rfl : i = 368 := by omega
    rw [fX9_keep_15, if_pos (by decide), cps_end, if_neg (nI_nin (by omega) (by omega)), if_neg (nI_nin (by omega) (by omega)), nI_clamp (by omega)]
    rfl
  | j + 1, i, n, im, hi, hn => by
    obtain ⟨n, rfl⟩ : ∃ z, n = z + 1 := ⟨n - 1, by omega⟩
    rw [fX9_keep_15, if_neg (show ¬ (368 : Int32) ≤ nI i from nI_ge (a := i) (b := 368) (by omega) (by omega)), if_neg (nI_nin (by omega) (by omega)), ix368, if_neg (nI_nin (by omega) (by omega)), nI_clamp (by omega), nI_clamp (by omega), nI_1, keep15 hh un j (i + 1) n _ (by omega) (by omega), cps_step (by omega)]
theorem back27 {F : Nat} {im iseed kept : Nat → Int32} {h : Nat} (hh : h < 2) (un sd : Int32) : ∀ (j i n : Nat) (now : Nat → Int32), i + j = 368 → j < n → fX9_goBack_27 F im iseed kept n un sd now (nI h) (nI i) = some (1, 0, iseed h, cpr i 368 (368 * h) im now)
  | 0, i, n, now, hi, hn => by
    obtain ⟨n, rfl⟩ : ∃ z, n = z + 1 := ⟨n - 1, by omega⟩
    obtain rfl : i = 368 := by omega
    rw [fX9_goBack_27, if_pos (by decide), cpr_end, if_neg (nI_nin (by omega) (by omega)), nI_clamp (by omega)]
  | j + 1, i, n, now, hi, hn => by
    obtain ⟨n, rfl⟩ : ∃ z, n = z + 1 := ⟨n - 1, by omega⟩
    rw [fX9_goBack_27, if_neg (show ¬ (368 : Int32) ≤ nI i from nI_ge (a := i) (b := 368) (by omega) (by omega)), ix368, if_neg (nI_nin (by omega) (by omega)), if_neg (nI_nin (by omega) (by omega)), nI_clamp (by omega), nI_clamp (by omega), nI_1, back27 hh un sd j (i + 1) n _ (by omega) (by omega), cpr_step (by omega)]
def rg (nx hd j : Nat) : Nat := 2 + (nx + 12 - hd + j) % 12
def RP (σ : Sig) (un : Int32) (past : Nat → Int32) : Prop := ∃ nx hd : Nat, nx < 12 ∧ hd ≤ 12 ∧ σ 16 0 0 = nI nx ∧ σ 16 0 1 = nI hd ∧ un = nI hd ∧ ∀ j, j < hd → (∃ t, Inv (σ (rg nx hd j)) t) ∧ ∀ k, k < 368 → past (368 * j + k) = flat (σ (rg nx hd j)) k
def RI (σ : Sig) (im iseed kept : Nat → Int32) : Prop := ∀ i, i < 2 → kept i = σ 16 (1 + i) 1 ∧ (kept i = 0 ∨ kept i = 1) ∧ (kept i ≠ 0 → (∃ t, Inv (σ (14 + i)) t) ∧ (∀ k, k < 368 → im (368 * i + k) = flat (σ (14 + i)) k) ∧ iseed i = σ 16 (1 + i) 0 ∧ 0 ≤ iseed i)
theorem RP.congr {σ σ' : Sig} {un : Int32} {past : Nat → Int32} (h : RP σ un past) (e1 : ∀ i, 2 ≤ i → i < 14 → σ' i = σ i) (e2 : σ' 16 0 = σ 16 0) : RP σ' un past := by
  obtain ⟨nx, hd, a, b, c, d, e, f⟩ := h
  refine ⟨nx, hd, a, b, by rw [e2]; exact c, by rw [e2]; exact d, e, fun j hj => ?_⟩
  have hr : σ' (rg nx hd j) = σ (rg nx hd j) := e1 _ (by unfold rg; omega) (by unfold rg; omega)
  rw [hr]
  exact f j hj
theorem RI.congr {σ σ' : Sig} {im iseed kept : Nat → Int32} (h : RI σ im iseed kept) (e1 : ∀ i, i < 2 → σ' (14 + i) = σ (14 + i)) (e2 : ∀ i, i < 2 → σ' 16 (1 + i) = σ 16 (1 + i)) : RI σ' im iseed kept := by
  intro i hi
  rw [e1 i hi, e2 i hi]
  exact h i hi
theorem nI12 {a : Nat} (h : a < 12) : ¬ nI a < 0 ∧ nI a < (12 : Int32) := ⟨nI_pos (by omega), nI_lt (b := 12) h (by omega)⟩
theorem remember_ok {F : Nat} (hF : 5000 ≤ F) {σ : Sig} {un : Int32} {past : Nat → Int32} {t : Gt} (hP : RP σ un past) (hI : Inv (σ 0) t) : ∃ σ' un' past', fX5_remember F σ = some σ' ∧ fX9_save F un (flat (σ 0)) past = some (un', past') ∧ RP σ' un' past' ∧ (∀ i, i < 2 ∨ 14 ≤ i ∧ i < 16 → σ' i = σ i) ∧ (∀ c, c ≠ 0 → σ' 16 c = σ 16 c) := by
  obtain ⟨nx, hd, hnx, hhd, c1, c2, c3, f⟩ := hP
  obtain ⟨p1, p2⟩ := nI12 hnx
  obtain ⟨τ', k1, k2⟩ := copy_ok F (σ (2 + nx)) (σ 0)
  have hfl : flat τ' = flat (σ 0) := flat_ext k2
  -- the class
  have hC : fX5_remember F σ = some (u3 (u3 (u3 σ (2 + nx) τ') 16 (u2 (σ 16) 0 0 (nI ((nx + 1) % 12)))) 16 (u2 (u2 (σ 16) 0 0 (nI ((nx + 1) % 12))) 0 1 (nI (min (hd + 1) 12)))) := by
    unfold fX5_remember
    have hin : ¬ (nI nx < 0 ∨ 12 ≤ (nI nx).toNatClampNeg) := nI_nin hnx (by omega)
    rw [c1, if_neg p1, if_pos p2, if_neg hin, nI_clamp (by omega), k1, Option.bind_some]
    have e16 : (u3 σ (2 + nx) τ') 16 = σ 16 := u3_ne σ τ' (by omega)
    rw [e16, c1, nI_1]
    have hmin : ∀ z : Int32, (if (12 : Int32) < nI hd + 1 then (12 : Int32) else nI hd + 1) = nI (min (hd + 1) 12) := by
      intro _
      rw [nI_1]
      by_cases h : 12 < hd + 1
      · rw [if_pos (show (12 : Int32) < nI (hd + 1) from nI_lt (a := 12) h (by omega)), Nat.min_eq_right (by omega)]; rfl
      · rw [if_neg (show ¬ (12 : Int32) < nI (hd + 1) from nI_nlt (b := 12) (a := 12) (by omega) (by omega) |> fun _ => nI_nlt (a := 12) (b := hd + 1) (by omega) (by omega)), Nat.min_eq_left (by omega)]
    have h52 : ∀ y : Nat, fX5_remember_52 F (u3 σ (2 + nx) τ') (nI y) = some (u3 (u3 (u3 σ (2 + nx) τ') 16 (u2 (σ 16) 0 0 (nI y))) 16 (u2 (u2 (σ 16) 0 0 (nI y)) 0 1 (nI (min (hd + 1) 12)))) := by
      intro y
      unfold fX5_remember_52
      rw [e16, u3_at, u2_ne (σ 16) (nI y) (Or.inr (by omega)), c2, hmin 0]
    by_cases h11 : nx + 1 = 12
    · rw [if_pos (show nI (nx + 1) = (12 : Int32) by rw [h11]; rfl)]
      have := h52 0
      rw [nI_0] at this
      rw [this, h11]; rfl
    · rw [if_neg (show ¬ nI (nx + 1) = (12 : Int32) from fun z => h11 ((nI_eq (b := 12) (by omega) (by omega)).mp z)), h52, Nat.mod_eq_of_lt (by omega)]
  rw [hC, u3_u3]
  have g0 : ∀ i, i ≠ 16 → i ≠ 2 + nx → u3 (u3 σ (2 + nx) τ') 16 (u2 (u2 (σ 16) 0 0 (nI ((nx + 1) % 12))) 0 1 (nI (min (hd + 1) 12))) i = σ i := fun i h1 h2 => by rw [u3_ne _ _ h1, u3_ne _ _ h2]
  have g1 : u3 (u3 σ (2 + nx) τ') 16 (u2 (u2 (σ 16) 0 0 (nI ((nx + 1) % 12))) 0 1 (nI (min (hd + 1) 12))) (2 + nx) = τ' := by rw [u3_ne _ _ (by omega), u3_at]
  generalize hσ' : u3 (u3 σ (2 + nx) τ') 16 (u2 (u2 (σ 16) 0 0 (nI ((nx + 1) % 12))) 0 1 (nI (min (hd + 1) 12))) = σ' at g0 g1
  have s16 : σ' 16 = u2 (u2 (σ 16) 0 0 (nI ((nx + 1) % 12))) 0 1 (nI (min (hd + 1) 12)) := by rw [← hσ', u3_at]
  have q1 : σ' 16 0 0 = nI ((nx + 1) % 12) := by rw [s16, u2_ne _ _ (Or.inr (by omega)), u2_at]
  have q2 : σ' 16 0 1 = nI (min (hd + 1) 12) := by rw [s16, u2_at]
  have q3 : ∀ c, c ≠ 0 → σ' 16 c = σ 16 c := fun c hc => by rw [s16, u2_row _ _ hc, u2_row _ _ hc]
  have q4 : ∀ i, i < 2 ∨ 14 ≤ i ∧ i < 16 → σ' i = σ i := fun i hi => g0 i (by omega) (by omega)
  by_cases h12 : hd = 12
  · subst h12
    refine ⟨σ', nI 12, cps 0 368 (368 * 11) (flat (σ 0)) (cpr 0 4048 368 past past), rfl, ?_, ?_, q4, q3⟩
    · unfold fX9_save
      rw [c3, if_pos (show nI 12 = (12 : Int32) from rfl)]
      have := save11 (F := F) (now := flat (σ 0)) 4048 0 F (nI 12) past (by omega) (by omega)
      rw [nI_0] at this
      rw [this, show nI 12 - 1 = nI 11 from nI_pred 11]
      unfold fX9_save_50
      have h2 := save52 (F := F) (now := flat (σ 0)) (h := 11) (by omega) 368 0 F (cpr 0 4048 368 past past) (by omega) (by omega)
      rw [nI_0] at h2
      exact h2
    · refine ⟨(nx + 1) % 12, 12, by omega, by omega, q1, q2, rfl, fun j hj => ?_⟩
      by_cases hj11 : j = 11
      · subst hj11
        have hr : rg ((nx + 1) % 12) 12 11 = 2 + nx := by unfold rg; omega
        rw [hr, g1]
        refine ⟨⟨t, hI.vd k2⟩, fun k hk => ?_⟩
        unfold cps
        rw [if_pos (by omega), hfl]
        exact congrArg (flat (σ 0)) (by omega)
      · have hr : rg ((nx + 1) % 12) 12 j = rg nx 12 (j + 1) := by unfold rg; omega
        have hr2 : rg nx 12 (j + 1) ≠ 2 + nx := by unfold rg; omega
        rw [hr, g0 _ (by unfold rg; omega) hr2]
        obtain ⟨z1, z2⟩ := f (j + 1) (by omega)
        refine ⟨z1, fun k hk => ?_⟩
        rw [← z2 k hk]
        unfold cps cpr
        rw [if_neg (by omega), if_pos (by omega)]
        exact congrArg past (by omega)
  · refine ⟨σ', nI (hd + 1), cps 0 368 (368 * hd) (flat (σ 0)) past, rfl, ?_, ?_, q4, q3⟩
    · unfold fX9_save
      rw [c3, if_neg (show ¬ nI hd = (12 : Int32) from fun z => h12 ((nI_eq (b := 12) (by omega) (by omega)).mp z))]
      unfold fX9_save_50
      have h2 := save52 (F := F) (now := flat (σ 0)) (h := hd) (by omega) 368 0 F past (by omega) (by omega)
      rw [nI_0] at h2
      exact h2
    · rw [Nat.min_eq_left (by omega)] at q2
      refine ⟨(nx + 1) % 12, hd + 1, by omega, by omega, q1, q2, rfl, fun j hj => ?_⟩
      have hr : rg ((nx + 1) % 12) (hd + 1) j = rg nx hd j := by unfold rg; omega
      rw [hr]
      by_cases hjh : j = hd
      · subst hjh
        have hr2 : rg nx j j = 2 + nx := by unfold rg; omega
        rw [hr2, g1]
        refine ⟨⟨t, hI.vd k2⟩, fun k hk => ?_⟩
        unfold cps
        rw [if_pos (by omega), hfl]
        exact congrArg (flat (σ 0)) (by omega)
      · have hr2 : rg nx hd j ≠ 2 + nx := by unfold rg; omega
        rw [g0 _ (by unfold rg; omega) hr2]
        obtain ⟨z1, z2⟩ := f j (by omega)
        refine ⟨z1, fun k hk => ?_⟩
        rw [← z2 k hk]
        unfold cps
        rw [if_neg (by omega)]
