/-! ===== the two worlds: the component's cells (167) and the model's (15) ===== -/
abbrev Tau : Type := Nat → Nat → Int32
abbrev Sig : Type := Nat → Nat → Nat → Int32
def u1 (τ : Tau) (c : Nat) (f : Nat → Int32) : Tau := fun c' => if c' = c then f else τ c'
def u2 (τ : Tau) (c k : Nat) (v : Int32) : Tau := u1 τ c (upd (τ c) k v)
def u3 (σ : Sig) (i : Nat) (τ : Tau) : Sig := fun i' => if i' = i then τ else σ i'
theorem u3_at (σ : Sig) (i : Nat) (τ : Tau) : u3 σ i τ i = τ := by simp [u3]
theorem u3_ne (σ : Sig) {i j : Nat} (τ : Tau) (h : j ≠ i) : u3 σ i τ j = σ j := by simp [u3, h]
theorem u3_self (σ : Sig) (i : Nat) : u3 σ i (σ i) = σ := by
  funext j
  by_cases h : j = i
  · subst h; simp [u3]
  · simp [u3, h]
theorem u3_u3 (σ : Sig) (i : Nat) (τ τ' : Tau) : u3 (u3 σ i τ) i τ' = u3 σ i τ' := by
  funext j
  by_cases h : j = i <;> simp [u3, h]
theorem u1_at (τ : Tau) (c : Nat) (f : Nat → Int32) : u1 τ c f c = f := by simp [u1]
theorem u1_ne (τ : Tau) {c d : Nat} (f : Nat → Int32) (h : d ≠ c) : u1 τ c f d = τ d := by simp [u1, h]
theorem u1_u1 (τ : Tau) (c : Nat) (f g : Nat → Int32) : u1 (u1 τ c f) c g = u1 τ c g := by
  funext d
  by_cases h : d = c <;> simp [u1, h]
def gw (n : Nat) (ad : Nat → Nat) (ce : Nat → va_E) : va_W := (List.range n).map (fun k => (ad k, ce k))
theorem gw_at {n : Nat} {ad : Nat → Nat} {ce : Nat → va_E} {k : Nat} {e : va_E} (h : k < n) (he : ce k = e) : (gw n ad ce)[k]? = some (ad k, e) := by
  subst he
  simp [gw, h]
theorem gw_set {n : Nat} {ad : Nat → Nat} {ce ce' : Nat → va_E} {k : Nat} {e : va_E} (he : ce' k = e) (ho : ∀ j, j < n → j ≠ k → ce' j = ce j) : (gw n ad ce).set k (ad k, e) = gw n ad ce' := by
  apply List.ext_getElem?
  intro j
  subst he
  by_cases hj : j < n
  · by_cases e : j = k
    · subst e
      simp [gw, hj]
    · rw [List.getElem?_set_ne (Ne.symm e)]
      simp [gw, hj, ho j hj e]
  · have h1 : n ≤ j := Nat.not_lt.mp hj
    simp [gw, h1]
def gA (n : Nat) (ad : Nat → Nat) : Nat → Prop := fun q => ∃ k, k < n ∧ ad k = q
def gInj (n : Nat) (ad : Nat → Nat) : Prop := ∀ i j, i < n → j < n → ad i = ad j → i = j
theorem gw_get {n : Nat} {ad : Nat → Nat} {ce : Nat → va_E} {k : Nat} {q : Nat × va_E} (h : (gw n ad ce)[k]? = some q) : k < n ∧ q = (ad k, ce k) := by
  have hk : k < n := by
    have := (List.getElem?_eq_some_iff.mp h).1
    simpa [gw] using this
  refine ⟨hk, ?_⟩
  rw [gw_at hk rfl] at h
  exact (Option.some.inj h).symm
theorem gw_D {n : Nat} {ad : Nat → Nat} (hinj : gInj n ad) (ce : Nat → va_E) : va_D (gA n ad) (gw n ad ce) := by
  refine ⟨fun i j p q hi hj hpq => ?_, fun k q hk => ?_⟩
  · obtain ⟨h1, rfl⟩ := gw_get hi
    obtain ⟨h2, rfl⟩ := gw_get hj
    exact hinj i j h1 h2 hpq
  · obtain ⟨h1, rfl⟩ := gw_get hk
    exact ⟨k, h1, rfl⟩
/-- which row of a tree's state stands in its r-th cell -/
def cmp (r : Nat) : Nat := if r = 1 then 6 else if r = 8 then 7 else if r = 9 then 8 else r - 2
/-- the component's cells: sixteen trees of ten cells, then the index, its past, the two rows of references, two images, the draws -/
def cC (cI cT cM : ClassId) (ad : Nat → Nat) (σ : Sig) (k : Nat) : va_E :=
  if k < 160 then
    (if k % 10 = 0 then .inr (5, [.ref (ad (10 * (k / 10) + 1)), .ref (ad (10 * (k / 10) + (1 + 7))), .ref (ad (10 * (k / 10) + (1 + 8)))])
    else if k % 10 = 1 then .inr (3, [.ref (ad (10 * (k / 10) + (2 + 0))), .ref (ad (10 * (k / 10) + (2 + 1))), .ref (ad (10 * (k / 10) + (2 + 2))), .ref (ad (10 * (k / 10) + (2 + 3))), .ref (ad (10 * (k / 10) + (2 + 4))), .ref (ad (10 * (k / 10) + (2 + 5))), .int (σ (k / 10) 6 0), .int (σ (k / 10) 6 1)])
    else if k % 10 = 8 ∨ k % 10 = 9 then .inr (0, [.int (σ (k / 10) (k % 10 - 1) 0), .int (σ (k / 10) (k % 10 - 1) 1), .int (σ (k / 10) (k % 10 - 1) 2)])
    else .inl (cI, 60, .inl (σ (k / 10) (k % 10 - 2))))
  else if k = 160 then .inr (6, [.ref (ad (10 * 0)), .ref (ad (10 * 1)), .ref (ad 161), .ref (ad 163), .ref (ad 166)])
  else if k = 161 then .inr (4, [.ref (ad 162), .int (σ 16 0 0), .int (σ 16 0 1)])
  else if k = 162 then .inl (cT, 12, .inr (.inr (.inr (.inr (fun j => some (ad (10 * (2 + j))))))))
  else if k = 163 then .inl (cM, 2, .inr (.inr (.inr (.inr (fun j => some (ad (164 + j)))))))
  else if k = 164 ∨ k = 165 then .inr (2, [.ref (ad (10 * (14 + (k - 164)))), .int (σ 16 (1 + (k - 164)) 0), .int (σ 16 (1 + (k - 164)) 1)])
  else .inr (1, [.int (σ 16 3 0)])
def cw (cI cT cM : ClassId) (ad : Nat → Nat) (σ : Sig) : va_W := gw 167 ad (cC cI cT cM ad σ)
section CW
variable {cI cT cM : ClassId} {ad : Nat → Nat} {σ : Sig} {i : Nat}
theorem cw_tree (hi : i < 16) : (cw cI cT cM ad σ)[10 * i]? = some (ad (10 * i), .inr (5, [.ref (ad (10 * i + 1)), .ref (ad (10 * i + (1 + 7))), .ref (ad (10 * i + (1 + 8)))])) := by
  refine gw_at (by omega) ?_
  have h1 : 10 * i < 160 := by omega
  have h2 : (10 * i) % 10 = 0 := by omega
  have h3 : (10 * i) / 10 = i := by omega
  simp only [cC, h1, h2, h3, if_true]
theorem cw_nodes (hi : i < 16) : (cw cI cT cM ad σ)[10 * i + 1]? = some (ad (10 * i + 1), .inr (3, [.ref (ad (10 * i + (2 + 0))), .ref (ad (10 * i + (2 + 1))), .ref (ad (10 * i + (2 + 2))), .ref (ad (10 * i + (2 + 3))), .ref (ad (10 * i + (2 + 4))), .ref (ad (10 * i + (2 + 5))), .int (σ i 6 0), .int (σ i 6 1)])) := by
  refine gw_at (by omega) ?_
  have h1 : 10 * i + 1 < 160 := by omega
  have h2 : (10 * i + 1) % 10 = 1 := by omega
  have h3 : (10 * i + 1) / 10 = i := by omega
  simp only [cC, h1, h2, h3, if_true, if_neg (show ¬ ((1 : Nat) = 0) by decide)]
theorem cw_arr (hi : i < 16) {c : Nat} (hc : c < 6) : (cw cI cT cM ad σ)[10 * i + (2 + c)]? = some (ad (10 * i + (2 + c)), .inl (cI, 60, .inl (σ i c))) := by
  refine gw_at (by omega) ?_
  have h1 : 10 * i + (2 + c) < 160 := by omega
  have h2 : (10 * i + (2 + c)) % 10 = 2 + c := by omega
  have h3 : (10 * i + (2 + c)) / 10 = i := by omega
  have h4 : ¬ (2 + c = 0) := by omega
  have h5 : ¬ (2 + c = 1) := by omega
  have h6 : ¬ (2 + c = 8 ∨ 2 + c = 9) := by omega
  have h7 : 2 + c - 2 = c := by omega
  simp only [cC, h1, h2, h3, if_true, if_neg h4, if_neg h5, if_neg h6, h7]
theorem cw_cnt (hi : i < 16) {c : Nat} (hc : c = 7 ∨ c = 8) : (cw cI cT cM ad σ)[10 * i + (1 + c)]? = some (ad (10 * i + (1 + c)), .inr (0, [.int (σ i c 0), .int (σ i c 1), .int (σ i c 2)])) := by
  refine gw_at (by omega) ?_
  have h1 : 10 * i + (1 + c) < 160 := by omega
  have h2 : (10 * i + (1 + c)) % 10 = 1 + c := by omega
  have h3 : (10 * i + (1 + c)) / 10 = i := by omega
  have h4 : ¬ (1 + c = 0) := by omega
  have h5 : ¬ (1 + c = 1) := by omega
  have h6 : (1 + c = 8 ∨ 1 + c = 9) := by omega
  have h7 : 1 + c - 1 = c := by omega
  simp only [cC, h1, h2, h3, if_true, if_neg h4, if_neg h5, if_pos h6, h7]
theorem cw_ri : (cw cI cT cM ad σ)[160]? = some (ad 160, .inr (6, [.ref (ad (10 * 0)), .ref (ad (10 * 1)), .ref (ad 161), .ref (ad 163), .ref (ad 166)])) := gw_at (by omega) rfl
theorem cw_past : (cw cI cT cM ad σ)[161]? = some (ad 161, .inr (4, [.ref (ad 162), .int (σ 16 0 0), .int (σ 16 0 1)])) := gw_at (by omega) rfl
theorem cw_rows : (cw cI cT cM ad σ)[162]? = some (ad 162, .inl (cT, 12, .inr (.inr (.inr (.inr (fun j => some (ad (10 * (2 + j))))))))) := gw_at (by omega) rfl
theorem cw_images : (cw cI cT cM ad σ)[163]? = some (ad 163, .inl (cM, 2, .inr (.inr (.inr (.inr (fun j => some (ad (164 + j)))))))) := gw_at (by omega) rfl
theorem cw_img {j : Nat} (hj : j < 2) : (cw cI cT cM ad σ)[164 + j]? = some (ad (164 + j), .inr (2, [.ref (ad (10 * (14 + j))), .int (σ 16 (1 + j) 0), .int (σ 16 (1 + j) 1)])) := by
  rcases (show j = 0 ∨ j = 1 by omega) with rfl | rfl <;> exact gw_at (by omega) rfl
theorem cw_draws : (cw cI cT cM ad σ)[166]? = some (ad 166, .inr (1, [.int (σ 16 3 0)])) := gw_at (by omega) rfl
theorem cC_dep {σ σ' : Sig} (h : ∀ j, j < 16 → ∀ c, c < 9 → σ' j c = σ j c) (h16 : ∀ c, c < 4 → σ' 16 c = σ 16 c) (k : Nat) : cC cI cT cM ad σ' k = cC cI cT cM ad σ k := by
  unfold cC
  by_cases hk : k < 160
  · rw [if_pos hk, if_pos hk, h (k / 10) (by omega) 6 (by omega)]
    by_cases h8 : k % 10 = 8 ∨ k % 10 = 9
    · rw [if_pos h8, if_pos h8, h (k / 10) (by omega) (k % 10 - 1) (by omega)]
    · rw [if_neg h8, if_neg h8]
      by_cases h0 : k % 10 = 0
      · rw [if_pos h0, if_pos h0]
      · rw [h (k / 10) (by omega) (k % 10 - 2) (by omega)]
  · rw [if_neg hk, if_neg hk, h16 0 (by omega), h16 3 (by omega)]
    by_cases h8 : k = 164 ∨ k = 165
    · rw [if_pos h8, if_pos h8, h16 (1 + (k - 164)) (by omega)]
    · rw [if_neg h8, if_neg h8]
/-- one row of one tree is another: only its own cell changes -/
theorem cC_one (hi : i < 16) {r : Nat} (hr : 1 ≤ r ∧ r < 10) (f : Nat → Int32) {τ : Tau} (k : Nat) (hk : k ≠ 10 * i + r) : cC cI cT cM ad (u3 σ i (u1 τ (cmp r) f)) k = cC cI cT cM ad (u3 σ i τ) k := by
  unfold cC
  have h16 : ∀ (x : Tau) (c : Nat), u3 σ i x 16 c = σ 16 c := fun x c => by rw [u3_ne σ x (by omega)]
  by_cases hk1 : k < 160
  · rw [if_pos hk1, if_pos hk1]
    by_cases hki : k / 10 = i
    · have hr2 : k % 10 ≠ r := by omega
      rw [hki]
      simp only [u3_at]
      by_cases h0 : k % 10 = 0
      · rw [if_pos h0, if_pos h0]
      · rw [if_neg h0, if_neg h0]
        by_cases h1 : k % 10 = 1
        · rw [if_pos h1, if_pos h1, u1_ne τ f (show (6 : Nat) ≠ cmp r by unfold cmp; split; omega; split; omega; split <;> omega)]
        · rw [if_neg h1, if_neg h1]
          by_cases h8 : k % 10 = 8 ∨ k % 10 = 9
          · rw [if_pos h8, if_pos h8, u1_ne τ f (show k % 10 - 1 ≠ cmp r by unfold cmp; split; omega; split; omega; split <;> omega)]
          · rw [if_neg h8, if_neg h8, u1_ne τ f (show k % 10 - 2 ≠ cmp r by unfold cmp; split; omega; split; omega; split <;> omega)]
    · rw [u3_ne σ _ hki, u3_ne σ _ hki]
  · rw [if_neg hk1, if_neg hk1]
    simp only [h16]
theorem cw_store (hi : i < 16) {r : Nat} (hr : 1 ≤ r ∧ r < 10) (f : Nat → Int32) {τ : Tau} {e : va_E} (he : cC cI cT cM ad (u3 σ i (u1 τ (cmp r) f)) (10 * i + r) = e) : (cw cI cT cM ad (u3 σ i τ)).set (10 * i + r) (ad (10 * i + r), e) = cw cI cT cM ad (u3 σ i (u1 τ (cmp r) f)) :=
  gw_set he (fun j _ hj => cC_one hi hr f j hj)
theorem cw_ast (hi : i < 16) {c : Nat} (hc : c < 6) {τ : Tau} (f : Nat → Int32) : (cw cI cT cM ad (u3 σ i τ)).set (10 * i + (2 + c)) (ad (10 * i + (2 + c)), .inl (cI, 60, .inl f)) = cw cI cT cM ad (u3 σ i (u1 τ c f)) := by
  have hcm : cmp (2 + c) = c := by unfold cmp; rw [if_neg (by omega), if_neg (by omega), if_neg (by omega)]; omega
  have h := cw_store (cI := cI) (cT := cT) (cM := cM) (ad := ad) (σ := σ) hi (r := 2 + c) ⟨by omega, by omega⟩ f (τ := τ) rfl
  rw [hcm] at h
  rw [← h]
  congr 2
  have h2 := cw_arr (cI := cI) (cT := cT) (cM := cM) (ad := ad) (σ := u3 σ i (u1 τ c f)) hi hc
  rw [cw, gw_at (by omega) rfl] at h2
  rw [(Prod.mk.inj (Option.some.inj h2)).2, u3_at, u1_at]
theorem cw_nst (hi : i < 16) {τ : Tau} (f : Nat → Int32) : (cw cI cT cM ad (u3 σ i τ)).set (10 * i + 1) (ad (10 * i + 1), .inr (3, [.ref (ad (10 * i + (2 + 0))), .ref (ad (10 * i + (2 + 1))), .ref (ad (10 * i + (2 + 2))), .ref (ad (10 * i + (2 + 3))), .ref (ad (10 * i + (2 + 4))), .ref (ad (10 * i + (2 + 5))), .int (f 0), .int (f 1)])) = cw cI cT cM ad (u3 σ i (u1 τ 6 f)) := by
  have h := cw_store (cI := cI) (cT := cT) (cM := cM) (ad := ad) (σ := σ) hi (r := 1) ⟨by omega, by omega⟩ f (τ := τ) rfl
  rw [show cmp 1 = 6 from rfl] at h
  rw [← h]
  congr 2
  have h2 := cw_nodes (cI := cI) (cT := cT) (cM := cM) (ad := ad) (σ := u3 σ i (u1 τ 6 f)) hi
  rw [cw, gw_at (by omega) rfl] at h2
  rw [(Prod.mk.inj (Option.some.inj h2)).2, u3_at, u1_at]
theorem cw_cst (hi : i < 16) {c : Nat} (hc : c = 7 ∨ c = 8) {τ : Tau} (f : Nat → Int32) : (cw cI cT cM ad (u3 σ i τ)).set (10 * i + (1 + c)) (ad (10 * i + (1 + c)), .inr (0, [.int (f 0), .int (f 1), .int (f 2)])) = cw cI cT cM ad (u3 σ i (u1 τ c f)) := by
  have hcm : cmp (1 + c) = c := by rcases hc with rfl | rfl <;> rfl
  have h := cw_store (cI := cI) (cT := cT) (cM := cM) (ad := ad) (σ := σ) hi (r := 1 + c) ⟨by omega, by omega⟩ f (τ := τ) rfl
  rw [hcm] at h
  rw [← h]
  congr 2
  have h2 := cw_cnt (cI := cI) (cT := cT) (cM := cM) (ad := ad) (σ := u3 σ i (u1 τ c f)) hi hc
  rw [cw, gw_at (by omega) rfl] at h2
  rw [(Prod.mk.inj (Option.some.inj h2)).2, u3_at, u1_at]
theorem cC_glob {c : Nat} (f : Nat → Int32) {τ : Tau} (k : Nat) (hk0 : k < 167) (hk : k ≠ (if c = 0 then 161 else if c = 3 then 166 else 163 + c)) (hc : c < 4) : cC cI cT cM ad (u3 σ 16 (u1 τ c f)) k = cC cI cT cM ad (u3 σ 16 τ) k := by
  by_cases hk1 : k < 160
  · unfold cC
    rw [if_pos hk1, if_pos hk1]
    have hki : k / 10 ≠ 16 := by omega
    rw [u3_ne σ _ hki, u3_ne σ _ hki]
  · rcases (show k = 160 ∨ k = 161 ∨ k = 162 ∨ k = 163 ∨ k = 164 ∨ k = 165 ∨ k = 166 by omega) with rfl | rfl | rfl | rfl | rfl | rfl | rfl
    · rfl
    · have h : (0 : Nat) ≠ c := fun h => hk (by rw [← h]; rfl)
      simp [cC, u3_at, u1_ne τ f h]
    · rfl
    · rfl
    · have h : (1 : Nat) ≠ c := fun h => hk (by rw [← h]; rfl)
      simp [cC, u3_at, u1_ne τ f h]
    · have h : (2 : Nat) ≠ c := fun h => hk (by rw [← h]; rfl)
      simp [cC, u3_at, u1_ne τ f h]
    · have h : (3 : Nat) ≠ c := fun h => hk (by rw [← h]; rfl)
      simp [cC, u3_at, u1_ne τ f h]
theorem cw_pst {τ : Tau} (f : Nat → Int32) : (cw cI cT cM ad (u3 σ 16 τ)).set 161 (ad 161, .inr (4, [.ref (ad 162), .int (f 0), .int (f 1)])) = cw cI cT cM ad (u3 σ 16 (u1 τ 0 f)) := by
  refine gw_set (ce' := cC cI cT cM ad (u3 σ 16 (u1 τ 0 f))) ?_ (fun j hj0 hj => cC_glob f j hj0 (by simpa using hj) (by omega))
  simp [cC, u3_at, u1_at]
theorem cw_ist {τ : Tau} {j : Nat} (hj : j < 2) (f : Nat → Int32) : (cw cI cT cM ad (u3 σ 16 τ)).set (164 + j) (ad (164 + j), .inr (2, [.ref (ad (10 * (14 + j))), .int (f 0), .int (f 1)])) = cw cI cT cM ad (u3 σ 16 (u1 τ (1 + j) f)) := by
  rcases (show j = 0 ∨ j = 1 by omega) with rfl | rfl
  · refine gw_set (ce' := cC cI cT cM ad (u3 σ 16 (u1 τ (1 + 0) f))) ?_ (fun j hj0 hj => cC_glob f j hj0 (by simpa using hj) (by omega))
    simp [cC, u3_at, u1_at]
  · refine gw_set (ce' := cC cI cT cM ad (u3 σ 16 (u1 τ (1 + 1) f))) ?_ (fun j hj0 hj => cC_glob f j hj0 (by simpa using hj) (by omega))
    simp [cC, u3_at, u1_at]
theorem cw_dst {τ : Tau} (f : Nat → Int32) : (cw cI cT cM ad (u3 σ 16 τ)).set 166 (ad 166, .inr (1, [.int (f 0)])) = cw cI cT cM ad (u3 σ 16 (u1 τ 3 f)) := by
  refine gw_set (ce' := cC cI cT cM ad (u3 σ 16 (u1 τ 3 f))) ?_ (fun j hj0 hj => cC_glob f j hj0 (by simpa using hj) (by omega))
  simp [cC, u3_at, u1_at]
end CW

/-- the model's cells: the object and its fourteen rows -/
def mC (cI cZ : ClassId) (ad : Nat → Nat) (un sd : Int32) (now past images iseed : Nat → Int32) (kept : Nat → Int32) (order numof above pile aside fewest deep keys worths : Nat → Int32) : Nat → va_E
  | 0 => .inr (7, [.ref (ad 1), .ref (ad 2), .int un, .ref (ad 3), .ref (ad 4), .ref (ad 5), .int sd, .ref (ad 6), .ref (ad 7), .ref (ad 8), .ref (ad 9), .ref (ad 10), .ref (ad 11), .ref (ad 12), .ref (ad 13), .ref (ad 14)])
  | 1 => .inl (cI, 368, .inl now)
  | 2 => .inl (cI, 4416, .inl past)
  | 3 => .inl (cI, 736, .inl images)
  | 4 => .inl (cI, 2, .inl iseed)
  | 5 => .inl (cZ, 2, .inl kept)
  | 6 => .inl (cI, 60, .inl order)
  | 7 => .inl (cI, 60, .inl numof)
  | 8 => .inl (cI, 60, .inl above)
  | 9 => .inl (cI, 61, .inl pile)
  | 10 => .inl (cI, 368, .inl aside)
  | 11 => .inl (cI, 32, .inl fewest)
  | 12 => .inl (cI, 640, .inl deep)
  | 13 => .inl (cI, 60, .inl keys)
  | _ => .inl (cI, 60, .inl worths)
def mw (cI cZ : ClassId) (ad : Nat → Nat) (un sd : Int32) (now past images iseed : Nat → Int32) (kept : Nat → Int32) (order numof above pile aside fewest deep keys worths : Nat → Int32) : va_W := gw 15 ad (mC cI cZ ad un sd now past images iseed kept order numof above pile aside fewest deep keys worths)
section MW
variable {cI cZ : ClassId} {ad : Nat → Nat} {un sd : Int32} {now past images iseed kept order numof above pile aside fewest deep keys worths : Nat → Int32}
theorem mw_obj : (mw cI cZ ad un sd now past images iseed kept order numof above pile aside fewest deep keys worths)[0]? = some (ad 0, .inr (7, [.ref (ad 1), .ref (ad 2), .int un, .ref (ad 3), .ref (ad 4), .ref (ad 5), .int sd, .ref (ad 6), .ref (ad 7), .ref (ad 8), .ref (ad 9), .ref (ad 10), .ref (ad 11), .ref (ad 12), .ref (ad 13), .ref (ad 14)])) := gw_at (by omega) rfl
theorem mw_set_un (v : Int32) : (mw cI cZ ad un sd now past images iseed kept order numof above pile aside fewest deep keys worths).set 0 (ad 0, .inr (7, [.ref (ad 1), .ref (ad 2), .int v, .ref (ad 3), .ref (ad 4), .ref (ad 5), .int sd, .ref (ad 6), .ref (ad 7), .ref (ad 8), .ref (ad 9), .ref (ad 10), .ref (ad 11), .ref (ad 12), .ref (ad 13), .ref (ad 14)])) = mw cI cZ ad v sd now past images iseed kept order numof above pile aside fewest deep keys worths := gw_set rfl (fun j hj0 hj => by rcases (show j = 0 ∨ j = 1 ∨ j = 2 ∨ j = 3 ∨ j = 4 ∨ j = 5 ∨ j = 6 ∨ j = 7 ∨ j = 8 ∨ j = 9 ∨ j = 10 ∨ j = 11 ∨ j = 12 ∨ j = 13 ∨ j = 14 by omega) with rfl | rfl | rfl | rfl | rfl | rfl | rfl | rfl | rfl | rfl | rfl | rfl | rfl | rfl | rfl <;> first | rfl | exact absurd rfl hj)
theorem mw_set_sd (v : Int32) : (mw cI cZ ad un sd now past images iseed kept order numof above pile aside fewest deep keys worths).set 0 (ad 0, .inr (7, [.ref (ad 1), .ref (ad 2), .int un, .ref (ad 3), .ref (ad 4), .ref (ad 5), .int v, .ref (ad 6), .ref (ad 7), .ref (ad 8), .ref (ad 9), .ref (ad 10), .ref (ad 11), .ref (ad 12), .ref (ad 13), .ref (ad 14)])) = mw cI cZ ad un v now past images iseed kept order numof above pile aside fewest deep keys worths := gw_set rfl (fun j hj0 hj => by rcases (show j = 0 ∨ j = 1 ∨ j = 2 ∨ j = 3 ∨ j = 4 ∨ j = 5 ∨ j = 6 ∨ j = 7 ∨ j = 8 ∨ j = 9 ∨ j = 10 ∨ j = 11 ∨ j = 12 ∨ j = 13 ∨ j = 14 by omega) with rfl | rfl | rfl | rfl | rfl | rfl | rfl | rfl | rfl | rfl | rfl | rfl | rfl | rfl | rfl <;> first | rfl | exact absurd rfl hj)
theorem mw_now : (mw cI cZ ad un sd now past images iseed kept order numof above pile aside fewest deep keys worths)[1]? = some (ad 1, .inl (cI, 368, .inl now)) := gw_at (by omega) rfl
theorem mw_set_now (f : Nat → Int32) : (mw cI cZ ad un sd now past images iseed kept order numof above pile aside fewest deep keys worths).set 1 (ad 1, .inl (cI, 368, .inl f)) = mw cI cZ ad un sd f past images iseed kept order numof above pile aside fewest deep keys worths := gw_set rfl (fun j hj0 hj => by rcases (show j = 0 ∨ j = 1 ∨ j = 2 ∨ j = 3 ∨ j = 4 ∨ j = 5 ∨ j = 6 ∨ j = 7 ∨ j = 8 ∨ j = 9 ∨ j = 10 ∨ j = 11 ∨ j = 12 ∨ j = 13 ∨ j = 14 by omega) with rfl | rfl | rfl | rfl | rfl | rfl | rfl | rfl | rfl | rfl | rfl | rfl | rfl | rfl | rfl <;> first | rfl | exact absurd rfl hj)
theorem mw_past : (mw cI cZ ad un sd now past images iseed kept order numof above pile aside fewest deep keys worths)[2]? = some (ad 2, .inl (cI, 4416, .inl past)) := gw_at (by omega) rfl
theorem mw_set_past (f : Nat → Int32) : (mw cI cZ ad un sd now past images iseed kept order numof above pile aside fewest deep keys worths).set 2 (ad 2, .inl (cI, 4416, .inl f)) = mw cI cZ ad un sd now f images iseed kept order numof above pile aside fewest deep keys worths := gw_set rfl (fun j hj0 hj => by rcases (show j = 0 ∨ j = 1 ∨ j = 2 ∨ j = 3 ∨ j = 4 ∨ j = 5 ∨ j = 6 ∨ j = 7 ∨ j = 8 ∨ j = 9 ∨ j = 10 ∨ j = 11 ∨ j = 12 ∨ j = 13 ∨ j = 14 by omega) with rfl | rfl | rfl | rfl | rfl | rfl | rfl | rfl | rfl | rfl | rfl | rfl | rfl | rfl | rfl <;> first | rfl | exact absurd rfl hj)
theorem mw_images : (mw cI cZ ad un sd now past images iseed kept order numof above pile aside fewest deep keys worths)[3]? = some (ad 3, .inl (cI, 736, .inl images)) := gw_at (by omega) rfl
theorem mw_set_images (f : Nat → Int32) : (mw cI cZ ad un sd now past images iseed kept order numof above pile aside fewest deep keys worths).set 3 (ad 3, .inl (cI, 736, .inl f)) = mw cI cZ ad un sd now past f iseed kept order numof above pile aside fewest deep keys worths := gw_set rfl (fun j hj0 hj => by rcases (show j = 0 ∨ j = 1 ∨ j = 2 ∨ j = 3 ∨ j = 4 ∨ j = 5 ∨ j = 6 ∨ j = 7 ∨ j = 8 ∨ j = 9 ∨ j = 10 ∨ j = 11 ∨ j = 12 ∨ j = 13 ∨ j = 14 by omega) with rfl | rfl | rfl | rfl | rfl | rfl | rfl | rfl | rfl | rfl | rfl | rfl | rfl | rfl | rfl <;> first | rfl | exact absurd rfl hj)
theorem mw_iseed : (mw cI cZ ad un sd now past images iseed kept order numof above pile aside fewest deep keys worths)[4]? = some (ad 4, .inl (cI, 2, .inl iseed)) := gw_at (by omega) rfl
theorem mw_set_iseed (f : Nat → Int32) : (mw cI cZ ad un sd now past images iseed kept order numof above pile aside fewest deep keys worths).set 4 (ad 4, .inl (cI, 2, .inl f)) = mw cI cZ ad un sd now past images f kept order numof above pile aside fewest deep keys worths := gw_set rfl (fun j hj0 hj => by rcases (show j = 0 ∨ j = 1 ∨ j = 2 ∨ j = 3 ∨ j = 4 ∨ j = 5 ∨ j = 6 ∨ j = 7 ∨ j = 8 ∨ j = 9 ∨ j = 10 ∨ j = 11 ∨ j = 12 ∨ j = 13 ∨ j = 14 by omega) with rfl | rfl | rfl | rfl | rfl | rfl | rfl | rfl | rfl | rfl | rfl | rfl | rfl | rfl | rfl <;> first | rfl | exact absurd rfl hj)
theorem mw_kept : (mw cI cZ ad un sd now past images iseed kept order numof above pile aside fewest deep keys worths)[5]? = some (ad 5, .inl (cZ, 2, .inl kept)) := gw_at (by omega) rfl
theorem mw_set_kept (f : Nat → Int32) : (mw cI cZ ad un sd now past images iseed kept order numof above pile aside fewest deep keys worths).set 5 (ad 5, .inl (cZ, 2, .inl f)) = mw cI cZ ad un sd now past images iseed f order numof above pile aside fewest deep keys worths := gw_set rfl (fun j hj0 hj => by rcases (show j = 0 ∨ j = 1 ∨ j = 2 ∨ j = 3 ∨ j = 4 ∨ j = 5 ∨ j = 6 ∨ j = 7 ∨ j = 8 ∨ j = 9 ∨ j = 10 ∨ j = 11 ∨ j = 12 ∨ j = 13 ∨ j = 14 by omega) with rfl | rfl | rfl | rfl | rfl | rfl | rfl | rfl | rfl | rfl | rfl | rfl | rfl | rfl | rfl <;> first | rfl | exact absurd rfl hj)
theorem mw_order : (mw cI cZ ad un sd now past images iseed kept order numof above pile aside fewest deep keys worths)[6]? = some (ad 6, .inl (cI, 60, .inl order)) := gw_at (by omega) rfl
theorem mw_set_order (f : Nat → Int32) : (mw cI cZ ad un sd now past images iseed kept order numof above pile aside fewest deep keys worths).set 6 (ad 6, .inl (cI, 60, .inl f)) = mw cI cZ ad un sd now past images iseed kept f numof above pile aside fewest deep keys worths := gw_set rfl (fun j hj0 hj => by rcases (show j = 0 ∨ j = 1 ∨ j = 2 ∨ j = 3 ∨ j = 4 ∨ j = 5 ∨ j = 6 ∨ j = 7 ∨ j = 8 ∨ j = 9 ∨ j = 10 ∨ j = 11 ∨ j = 12 ∨ j = 13 ∨ j = 14 by omega) with rfl | rfl | rfl | rfl | rfl | rfl | rfl | rfl | rfl | rfl | rfl | rfl | rfl | rfl | rfl <;> first | rfl | exact absurd rfl hj)
theorem mw_numof : (mw cI cZ ad un sd now past images iseed kept order numof above pile aside fewest deep keys worths)[7]? = some (ad 7, .inl (cI, 60, .inl numof)) := gw_at (by omega) rfl
theorem mw_set_numof (f : Nat → Int32) : (mw cI cZ ad un sd now past images iseed kept order numof above pile aside fewest deep keys worths).set 7 (ad 7, .inl (cI, 60, .inl f)) = mw cI cZ ad un sd now past images iseed kept order f above pile aside fewest deep keys worths := gw_set rfl (fun j hj0 hj => by rcases (show j = 0 ∨ j = 1 ∨ j = 2 ∨ j = 3 ∨ j = 4 ∨ j = 5 ∨ j = 6 ∨ j = 7 ∨ j = 8 ∨ j = 9 ∨ j = 10 ∨ j = 11 ∨ j = 12 ∨ j = 13 ∨ j = 14 by omega) with rfl | rfl | rfl | rfl | rfl | rfl | rfl | rfl | rfl | rfl | rfl | rfl | rfl | rfl | rfl <;> first | rfl | exact absurd rfl hj)
theorem mw_above : (mw cI cZ ad un sd now past images iseed kept order numof above pile aside fewest deep keys worths)[8]? = some (ad 8, .inl (cI, 60, .inl above)) := gw_at (by omega) rfl
theorem mw_set_above (f : Nat → Int32) : (mw cI cZ ad un sd now past images iseed kept order numof above pile aside fewest deep keys worths).set 8 (ad 8, .inl (cI, 60, .inl f)) = mw cI cZ ad un sd now past images iseed kept order numof f pile aside fewest deep keys worths := gw_set rfl (fun j hj0 hj => by rcases (show j = 0 ∨ j = 1 ∨ j = 2 ∨ j = 3 ∨ j = 4 ∨ j = 5 ∨ j = 6 ∨ j = 7 ∨ j = 8 ∨ j = 9 ∨ j = 10 ∨ j = 11 ∨ j = 12 ∨ j = 13 ∨ j = 14 by omega) with rfl | rfl | rfl | rfl | rfl | rfl | rfl | rfl | rfl | rfl | rfl | rfl | rfl | rfl | rfl <;> first | rfl | exact absurd rfl hj)
theorem mw_pile : (mw cI cZ ad un sd now past images iseed kept order numof above pile aside fewest deep keys worths)[9]? = some (ad 9, .inl (cI, 61, .inl pile)) := gw_at (by omega) rfl
theorem mw_set_pile (f : Nat → Int32) : (mw cI cZ ad un sd now past images iseed kept order numof above pile aside fewest deep keys worths).set 9 (ad 9, .inl (cI, 61, .inl f)) = mw cI cZ ad un sd now past images iseed kept order numof above f aside fewest deep keys worths := gw_set rfl (fun j hj0 hj => by rcases (show j = 0 ∨ j = 1 ∨ j = 2 ∨ j = 3 ∨ j = 4 ∨ j = 5 ∨ j = 6 ∨ j = 7 ∨ j = 8 ∨ j = 9 ∨ j = 10 ∨ j = 11 ∨ j = 12 ∨ j = 13 ∨ j = 14 by omega) with rfl | rfl | rfl | rfl | rfl | rfl | rfl | rfl | rfl | rfl | rfl | rfl | rfl | rfl | rfl <;> first | rfl | exact absurd rfl hj)
theorem mw_aside : (mw cI cZ ad un sd now past images iseed kept order numof above pile aside fewest deep keys worths)[10]? = some (ad 10, .inl (cI, 368, .inl aside)) := gw_at (by omega) rfl
theorem mw_set_aside (f : Nat → Int32) : (mw cI cZ ad un sd now past images iseed kept order numof above pile aside fewest deep keys worths).set 10 (ad 10, .inl (cI, 368, .inl f)) = mw cI cZ ad un sd now past images iseed kept order numof above pile f fewest deep keys worths := gw_set rfl (fun j hj0 hj => by rcases (show j = 0 ∨ j = 1 ∨ j = 2 ∨ j = 3 ∨ j = 4 ∨ j = 5 ∨ j = 6 ∨ j = 7 ∨ j = 8 ∨ j = 9 ∨ j = 10 ∨ j = 11 ∨ j = 12 ∨ j = 13 ∨ j = 14 by omega) with rfl | rfl | rfl | rfl | rfl | rfl | rfl | rfl | rfl | rfl | rfl | rfl | rfl | rfl | rfl <;> first | rfl | exact absurd rfl hj)
theorem mw_fewest : (mw cI cZ ad un sd now past images iseed kept order numof above pile aside fewest deep keys worths)[11]? = some (ad 11, .inl (cI, 32, .inl fewest)) := gw_at (by omega) rfl
theorem mw_set_fewest (f : Nat → Int32) : (mw cI cZ ad un sd now past images iseed kept order numof above pile aside fewest deep keys worths).set 11 (ad 11, .inl (cI, 32, .inl f)) = mw cI cZ ad un sd now past images iseed kept order numof above pile aside f deep keys worths := gw_set rfl (fun j hj0 hj => by rcases (show j = 0 ∨ j = 1 ∨ j = 2 ∨ j = 3 ∨ j = 4 ∨ j = 5 ∨ j = 6 ∨ j = 7 ∨ j = 8 ∨ j = 9 ∨ j = 10 ∨ j = 11 ∨ j = 12 ∨ j = 13 ∨ j = 14 by omega) with rfl | rfl | rfl | rfl | rfl | rfl | rfl | rfl | rfl | rfl | rfl | rfl | rfl | rfl | rfl <;> first | rfl | exact absurd rfl hj)
theorem mw_deep : (mw cI cZ ad un sd now past images iseed kept order numof above pile aside fewest deep keys worths)[12]? = some (ad 12, .inl (cI, 640, .inl deep)) := gw_at (by omega) rfl
theorem mw_set_deep (f : Nat → Int32) : (mw cI cZ ad un sd now past images iseed kept order numof above pile aside fewest deep keys worths).set 12 (ad 12, .inl (cI, 640, .inl f)) = mw cI cZ ad un sd now past images iseed kept order numof above pile aside fewest f keys worths := gw_set rfl (fun j hj0 hj => by rcases (show j = 0 ∨ j = 1 ∨ j = 2 ∨ j = 3 ∨ j = 4 ∨ j = 5 ∨ j = 6 ∨ j = 7 ∨ j = 8 ∨ j = 9 ∨ j = 10 ∨ j = 11 ∨ j = 12 ∨ j = 13 ∨ j = 14 by omega) with rfl | rfl | rfl | rfl | rfl | rfl | rfl | rfl | rfl | rfl | rfl | rfl | rfl | rfl | rfl <;> first | rfl | exact absurd rfl hj)
theorem mw_keys : (mw cI cZ ad un sd now past images iseed kept order numof above pile aside fewest deep keys worths)[13]? = some (ad 13, .inl (cI, 60, .inl keys)) := gw_at (by omega) rfl
theorem mw_set_keys (f : Nat → Int32) : (mw cI cZ ad un sd now past images iseed kept order numof above pile aside fewest deep keys worths).set 13 (ad 13, .inl (cI, 60, .inl f)) = mw cI cZ ad un sd now past images iseed kept order numof above pile aside fewest deep f worths := gw_set rfl (fun j hj0 hj => by rcases (show j = 0 ∨ j = 1 ∨ j = 2 ∨ j = 3 ∨ j = 4 ∨ j = 5 ∨ j = 6 ∨ j = 7 ∨ j = 8 ∨ j = 9 ∨ j = 10 ∨ j = 11 ∨ j = 12 ∨ j = 13 ∨ j = 14 by omega) with rfl | rfl | rfl | rfl | rfl | rfl | rfl | rfl | rfl | rfl | rfl | rfl | rfl | rfl | rfl <;> first | rfl | exact absurd rfl hj)
theorem mw_worths : (mw cI cZ ad un sd now past images iseed kept order numof above pile aside fewest deep keys worths)[14]? = some (ad 14, .inl (cI, 60, .inl worths)) := gw_at (by omega) rfl
theorem mw_set_worths (f : Nat → Int32) : (mw cI cZ ad un sd now past images iseed kept order numof above pile aside fewest deep keys worths).set 14 (ad 14, .inl (cI, 60, .inl f)) = mw cI cZ ad un sd now past images iseed kept order numof above pile aside fewest deep keys f := gw_set rfl (fun j hj0 hj => by rcases (show j = 0 ∨ j = 1 ∨ j = 2 ∨ j = 3 ∨ j = 4 ∨ j = 5 ∨ j = 6 ∨ j = 7 ∨ j = 8 ∨ j = 9 ∨ j = 10 ∨ j = 11 ∨ j = 12 ∨ j = 13 ∨ j = 14 by omega) with rfl | rfl | rfl | rfl | rfl | rfl | rfl | rfl | rfl | rfl | rfl | rfl | rfl | rfl | rfl <;> first | rfl | exact absurd rfl hj)
end MW
