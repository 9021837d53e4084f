/-! ===== every call of the law keeps the relation, and both answer alike ===== -/
abbrev Mst : Type := Int32 × Int32 × (Nat → Int32) × (Nat → Int32) × (Nat → Int32) × (Nat → Int32) × (Nat → Int32) × (Nat → Int32) × (Nat → Int32) × (Nat → Int32) × (Nat → Int32) × (Nat → Int32) × (Nat → Int32) × (Nat → Int32) × (Nat → Int32) × (Nat → Int32)
def mwS (cI cZ : ClassId) (bd : Nat → Nat) (μ : Mst) : va_W := mw cI cZ bd μ.1 μ.2.1 μ.2.2.1 μ.2.2.2.1 μ.2.2.2.2.1 μ.2.2.2.2.2.1 μ.2.2.2.2.2.2.1 μ.2.2.2.2.2.2.2.1 μ.2.2.2.2.2.2.2.2.1 μ.2.2.2.2.2.2.2.2.2.1 μ.2.2.2.2.2.2.2.2.2.2.1 μ.2.2.2.2.2.2.2.2.2.2.2.1 μ.2.2.2.2.2.2.2.2.2.2.2.2.1 μ.2.2.2.2.2.2.2.2.2.2.2.2.2.1 μ.2.2.2.2.2.2.2.2.2.2.2.2.2.2.1 μ.2.2.2.2.2.2.2.2.2.2.2.2.2.2.2
def RelS (σ : Sig) (μ : Mst) : Prop := Rel σ μ.1 μ.2.1 μ.2.2.1 μ.2.2.2.1 μ.2.2.2.2.1 μ.2.2.2.2.2.1 μ.2.2.2.2.2.2.1
theorem rel_trial {σ : Sig} {un sd : Int32} {now past im is kp : Nat → Int32} (h : Rel σ un sd now past im is kp) (τ' : Tau) : Rel (u3 σ 1 τ') un sd now past im is kp := by
  obtain ⟨h1, h2, h3, h4, h5, h6⟩ := h
  have e : ∀ i, i ≠ 1 → u3 σ 1 τ' i = σ i := fun i hi => u3_ne _ _ hi
  exact ⟨by rw [e 0 (by omega)]; exact h1, by rw [e 0 (by omega)]; exact h2, h3.congr (fun i a b => e i (by omega)) (by rw [e 16 (by omega)]), h4.congr (fun i hi => e _ (by omega)) (fun i hi => by rw [e 16 (by omega)]), by rw [e 16 (by omega)]; exact h5, h6⟩
theorem rel_un {σ : Sig} {un sd : Int32} {now past im is kp : Nat → Int32} (h : Rel σ un sd now past im is kp) : un = σ 16 0 1 := by
  obtain ⟨-, -, ⟨nx, hd, -, -, -, c2, c3, -⟩, -⟩ := h
  rw [c3, c2]
section STEPS
variable {l : Launch} {D : va_G} {cI cT cM cZ : ClassId} {ad bd : Nat → Nat}
theorem s_told (hda : gInj 167 ad) (hdb : gInj 15 bd) {σ : Sig} {μ : Mst} (h : RelS σ μ) (x1 : Int32) : ∃ r σ' μ', CTi l yX8_told cX8_told 3 .int rX8_told D (cTy cI cT cM) (gA 167 ad) [.ref (ad 160), .int x1] (cw cI cT cM ad σ) r (cw cI cT cM ad σ') ∧ CTi l yX9_told cX9_told 2 .int rX9_told D (mTy cI cZ) (gA 15 bd) [.ref (bd 0), .int x1] (mwS cI cZ bd μ) r (mwS cI cZ bd μ') ∧ RelS σ' μ' := by
  obtain ⟨un, sd, now, past, im, is, kp, o, nu, ab, pi, as, fw, dp, ks, ws⟩ := μ
  have h : Rel σ un sd now past im is kp := h
  obtain ⟨⟨t, hI⟩, hnow, -⟩ := id h
  subst hnow
  obtain ⟨r, o', nu', ab', pi', as', fw', dp', τ', e1, e2⟩ := told_ok (F := 5000) (Nat.le_refl _) hI un (rel_un h) o nu ab pi as fw dp x1
  exact ⟨r, u3 σ 1 τ', (un, sd, flat (σ 0), past, im, is, kp, o', nu', ab', pi', as', fw', dp', ks, ws), tX8_told hda e1, tX9_told hdb e2, rel_trial h τ'⟩
theorem s_node (hda : gInj 167 ad) (hdb : gInj 15 bd) {σ : Sig} {μ : Mst} (h : RelS σ μ) (x1 : Int32) (x2 : Int32) : ∃ r σ' μ', CTi l yX8_node cX8_node 5 .int rX8_node D (cTy cI cT cM) (gA 167 ad) [.ref (ad 160), .int x1, .int x2] (cw cI cT cM ad σ) r (cw cI cT cM ad σ') ∧ CTi l yX9_node cX9_node 4 .int rX9_node D (mTy cI cZ) (gA 15 bd) [.ref (bd 0), .int x1, .int x2] (mwS cI cZ bd μ) r (mwS cI cZ bd μ') ∧ RelS σ' μ' := by
  obtain ⟨un, sd, now, past, im, is, kp, o, nu, ab, pi, as, fw, dp, ks, ws⟩ := μ
  have h : Rel σ un sd now past im is kp := h
  obtain ⟨⟨t, hI⟩, hnow, -⟩ := id h
  subst hnow
  obtain ⟨r, o', nu', ab', pi', e1, e2⟩ := node_ok (F := 5000) (by omega) hI o nu ab pi x1 x2
  exact ⟨r, σ, (un, sd, flat (σ 0), past, im, is, kp, o', nu', ab', pi', as, fw, dp, ks, ws), tX8_node hda e1, tX9_node hdb e2, h⟩
theorem s_key (hda : gInj 167 ad) (hdb : gInj 15 bd) {σ : Sig} {μ : Mst} (h : RelS σ μ) (x1 : Int32) (x2 : Int32) : ∃ r σ' μ', CTi l yX8_key cX8_key 5 .int rX8_key D (cTy cI cT cM) (gA 167 ad) [.ref (ad 160), .int x1, .int x2] (cw cI cT cM ad σ) r (cw cI cT cM ad σ') ∧ CTi l yX9_key cX9_key 4 .int rX9_key D (mTy cI cZ) (gA 15 bd) [.ref (bd 0), .int x1, .int x2] (mwS cI cZ bd μ) r (mwS cI cZ bd μ') ∧ RelS σ' μ' := by
  obtain ⟨un, sd, now, past, im, is, kp, o, nu, ab, pi, as, fw, dp, ks, ws⟩ := μ
  have h : Rel σ un sd now past im is kp := h
  obtain ⟨⟨t, hI⟩, hnow, -⟩ := id h
  subst hnow
  obtain ⟨r, o', nu', ab', pi', e1, e2⟩ := key_ok (F := 5000) (by omega) hI o nu ab pi x1 x2
  exact ⟨r, σ, (un, sd, flat (σ 0), past, im, is, kp, o', nu', ab', pi', as, fw, dp, ks, ws), tX8_key hda e1, tX9_key hdb e2, h⟩
theorem s_at (hda : gInj 167 ad) (hdb : gInj 15 bd) {σ : Sig} {μ : Mst} (h : RelS σ μ) (x1 : Int32) : ∃ r σ' μ', CTi l yX8_at cX8_at 5 .int rX8_at D (cTy cI cT cM) (gA 167 ad) [.ref (ad 160), .int x1] (cw cI cT cM ad σ) r (cw cI cT cM ad σ') ∧ CTi l yX9_at cX9_at 4 .int rX9_at D (mTy cI cZ) (gA 15 bd) [.ref (bd 0), .int x1] (mwS cI cZ bd μ) r (mwS cI cZ bd μ') ∧ RelS σ' μ' := by
  obtain ⟨un, sd, now, past, im, is, kp, o, nu, ab, pi, as, fw, dp, ks, ws⟩ := μ
  have h : Rel σ un sd now past im is kp := h
  obtain ⟨⟨t, hI⟩, hnow, -⟩ := id h
  subst hnow
  obtain ⟨r, e1, e2⟩ := at_ok (F := 5000) (by omega) hI x1
  exact ⟨r, σ, (un, sd, flat (σ 0), past, im, is, kp, o, nu, ab, pi, as, fw, dp, ks, ws), tX8_at hda e1, tX9_at hdb e2, h⟩
theorem s_put (hda : gInj 167 ad) (hdb : gInj 15 bd) {σ : Sig} {μ : Mst} (h : RelS σ μ) (x1 : Int32) (x2 : Int32) : ∃ r σ' μ', CTi l yX8_put cX8_put 3 .int rX8_put D (cTy cI cT cM) (gA 167 ad) [.ref (ad 160), .int x1, .int x2] (cw cI cT cM ad σ) r (cw cI cT cM ad σ') ∧ CTi l yX9_put cX9_put 3 .int rX9_put D (mTy cI cZ) (gA 15 bd) [.ref (bd 0), .int x1, .int x2] (mwS cI cZ bd μ) r (mwS cI cZ bd μ') ∧ RelS σ' μ' := by
  obtain ⟨un, sd, now, past, im, is, kp, o, nu, ab, pi, as, fw, dp, ks, ws⟩ := μ
  have h : Rel σ un sd now past im is kp := h
  obtain ⟨r, σ', un', now', past', e1, e2, h'⟩ := put_ok (F := 5000) (Nat.le_refl _) h x1 x2
  exact ⟨r, σ', (un', sd, now', past', im, is, kp, o, nu, ab, pi, as, fw, dp, ks, ws), tX8_put hda e1, tX9_put hdb e2, h'⟩
theorem s_take (hda : gInj 167 ad) (hdb : gInj 15 bd) {σ : Sig} {μ : Mst} (h : RelS σ μ) (x1 : Int32) : ∃ r σ' μ', CTi l yX8_take cX8_take 4 .int rX8_take D (cTy cI cT cM) (gA 167 ad) [.ref (ad 160), .int x1] (cw cI cT cM ad σ) r (cw cI cT cM ad σ') ∧ CTi l yX9_take cX9_take 4 .int rX9_take D (mTy cI cZ) (gA 15 bd) [.ref (bd 0), .int x1] (mwS cI cZ bd μ) r (mwS cI cZ bd μ') ∧ RelS σ' μ' := by
  obtain ⟨un, sd, now, past, im, is, kp, o, nu, ab, pi, as, fw, dp, ks, ws⟩ := μ
  have h : Rel σ un sd now past im is kp := h
  obtain ⟨r, σ', un', now', past', e1, e2, h'⟩ := take_ok (F := 5000) (Nat.le_refl _) h x1
  exact ⟨r, σ', (un', sd, now', past', im, is, kp, o, nu, ab, pi, as, fw, dp, ks, ws), tX8_take hda e1, tX9_take hdb e2, h'⟩
theorem s_worth (hda : gInj 167 ad) (hdb : gInj 15 bd) {σ : Sig} {μ : Mst} (h : RelS σ μ) (x1 : Int32) (x2 : Int32) : ∃ r σ' μ', CTi l yX8_worth cX8_worth 5 .int rX8_worth D (cTy cI cT cM) (gA 167 ad) [.ref (ad 160), .int x1, .int x2] (cw cI cT cM ad σ) r (cw cI cT cM ad σ') ∧ CTi l yX9_worth cX9_worth 5 .int rX9_worth D (mTy cI cZ) (gA 15 bd) [.ref (bd 0), .int x1, .int x2] (mwS cI cZ bd μ) r (mwS cI cZ bd μ') ∧ RelS σ' μ' := by
  obtain ⟨un, sd, now, past, im, is, kp, o, nu, ab, pi, as, fw, dp, ks, ws⟩ := μ
  have h : Rel σ un sd now past im is kp := h
  obtain ⟨r, σ', un', now', past', e1, e2, h'⟩ := worth_ok (F := 5000) (Nat.le_refl _) h x1 x2
  exact ⟨r, σ', (un', sd, now', past', im, is, kp, o, nu, ab, pi, as, fw, dp, ks, ws), tX8_worth hda e1, tX9_worth hdb e2, h'⟩
theorem s_cut (hda : gInj 167 ad) (hdb : gInj 15 bd) {σ : Sig} {μ : Mst} (h : RelS σ μ) (x1 : Int32) : ∃ r σ' μ', CTi l yX8_cut cX8_cut 4 .int rX8_cut D (cTy cI cT cM) (gA 167 ad) [.ref (ad 160), .int x1] (cw cI cT cM ad σ) r (cw cI cT cM ad σ') ∧ CTi l yX9_cut cX9_cut 4 .int rX9_cut D (mTy cI cZ) (gA 15 bd) [.ref (bd 0), .int x1] (mwS cI cZ bd μ) r (mwS cI cZ bd μ') ∧ RelS σ' μ' := by
  obtain ⟨un, sd, now, past, im, is, kp, o, nu, ab, pi, as, fw, dp, ks, ws⟩ := μ
  have h : Rel σ un sd now past im is kp := h
  obtain ⟨r, σ', un', now', past', e1, e2, h'⟩ := cut_ok (F := 5000) (Nat.le_refl _) h x1
  exact ⟨r, σ', (un', sd, now', past', im, is, kp, o, nu, ab, pi, as, fw, dp, ks, ws), tX8_cut hda e1, tX9_cut hdb e2, h'⟩
theorem s_batch (hda : gInj 167 ad) (hdb : gInj 15 bd) {σ : Sig} {μ : Mst} (h : RelS σ μ) (x1 : Int32) (x2 : Int32) (x3 : Int32) : ∃ r σ' μ', CTi l yX8_batch cX8_batch 6 .int rX8_batch D (cTy cI cT cM) (gA 167 ad) [.ref (ad 160), .int x1, .int x2, .int x3] (cw cI cT cM ad σ) r (cw cI cT cM ad σ') ∧ CTi l yX9_batch cX9_batch 6 .int rX9_batch D (mTy cI cZ) (gA 15 bd) [.ref (bd 0), .int x1, .int x2, .int x3] (mwS cI cZ bd μ) r (mwS cI cZ bd μ') ∧ RelS σ' μ' := by
  obtain ⟨un, sd, now, past, im, is, kp, o, nu, ab, pi, as, fw, dp, ks, ws⟩ := μ
  have h : Rel σ un sd now past im is kp := h
  obtain ⟨r, σ', un', now', past', e1, e2, h'⟩ := batch_ok (F := 5000) (Nat.le_refl _) h x1 x2 x3
  exact ⟨r, σ', (un', sd, now', past', im, is, kp, o, nu, ab, pi, as, fw, dp, ks, ws), tX8_batch hda e1, tX9_batch hdb e2, h'⟩
theorem s_rebuild (hda : gInj 167 ad) (hdb : gInj 15 bd) {σ : Sig} {μ : Mst} (h : RelS σ μ)  : ∃ r σ' μ', CTi l yX8_rebuild cX8_rebuild 1 .int rX8_rebuild D (cTy cI cT cM) (gA 167 ad) [.ref (ad 160)] (cw cI cT cM ad σ) r (cw cI cT cM ad σ') ∧ CTi l yX9_rebuild cX9_rebuild 4 .int rX9_rebuild D (mTy cI cZ) (gA 15 bd) [.ref (bd 0)] (mwS cI cZ bd μ) r (mwS cI cZ bd μ') ∧ RelS σ' μ' := by
  obtain ⟨un, sd, now, past, im, is, kp, o, nu, ab, pi, as, fw, dp, ks, ws⟩ := μ
  have h : Rel σ un sd now past im is kp := h
  obtain ⟨r, σ', un', now', past', o', nu', ab', pi', ks', ws', e1, e2, h'⟩ := rebuild_ok (F := 5000) (Nat.le_refl _) h o nu ab pi ks ws
  exact ⟨r, σ', (un', sd, now', past', im, is, kp, o', nu', ab', pi', as, fw, dp, ks', ws'), tX8_rebuild hda e1, tX9_rebuild hdb e2, h'⟩
theorem s_join (hda : gInj 167 ad) (hdb : gInj 15 bd) {σ : Sig} {μ : Mst} (h : RelS σ μ) (x1 : Int32) : ∃ r σ' μ', CTi l yX8_join cX8_join 4 .int rX8_join D (cTy cI cT cM) (gA 167 ad) [.ref (ad 160), .int x1] (cw cI cT cM ad σ) r (cw cI cT cM ad σ') ∧ CTi l yX9_join cX9_join 5 .int rX9_join D (mTy cI cZ) (gA 15 bd) [.ref (bd 0), .int x1] (mwS cI cZ bd μ) r (mwS cI cZ bd μ') ∧ RelS σ' μ' := by
  obtain ⟨un, sd, now, past, im, is, kp, o, nu, ab, pi, as, fw, dp, ks, ws⟩ := μ
  have h : Rel σ un sd now past im is kp := h
  obtain ⟨r, σ', un', now', past', e1, e2, h'⟩ := join_ok (F := 5000) (Nat.le_refl _) h x1
  exact ⟨r, σ', (un', sd, now', past', im, is, kp, o, nu, ab, pi, as, fw, dp, ks, ws), tX8_join hda e1, tX9_join hdb e2, h'⟩
theorem s_drift (hda : gInj 167 ad) (hdb : gInj 15 bd) {σ : Sig} {μ : Mst} (h : RelS σ μ) (x1 : Int32) : ∃ r σ' μ', CTi l yX8_drift cX8_drift 3 .int rX8_drift D (cTy cI cT cM) (gA 167 ad) [.ref (ad 160), .int x1] (cw cI cT cM ad σ) r (cw cI cT cM ad σ') ∧ CTi l yX9_drift cX9_drift 6 .int rX9_drift D (mTy cI cZ) (gA 15 bd) [.ref (bd 0), .int x1] (mwS cI cZ bd μ) r (mwS cI cZ bd μ') ∧ RelS σ' μ' := by
  obtain ⟨un, sd, now, past, im, is, kp, o, nu, ab, pi, as, fw, dp, ks, ws⟩ := μ
  have h : Rel σ un sd now past im is kp := h
  obtain ⟨r, σ', un', sd', now', past', e1, e2, h'⟩ := drift_ok (F := 5000) (Nat.le_refl _) h x1
  exact ⟨r, σ', (un', sd', now', past', im, is, kp, o, nu, ab, pi, as, fw, dp, ks, ws), tX8_drift hda e1, tX9_drift hdb e2, h'⟩
theorem s_undo (hda : gInj 167 ad) (hdb : gInj 15 bd) {σ : Sig} {μ : Mst} (h : RelS σ μ) (x1 : Int32) : ∃ r σ' μ', CTi l yX8_undo cX8_undo 2 .int rX8_undo D (cTy cI cT cM) (gA 167 ad) [.ref (ad 160), .int x1] (cw cI cT cM ad σ) r (cw cI cT cM ad σ') ∧ CTi l yX9_undo cX9_undo 3 .int rX9_undo D (mTy cI cZ) (gA 15 bd) [.ref (bd 0), .int x1] (mwS cI cZ bd μ) r (mwS cI cZ bd μ') ∧ RelS σ' μ' := by
  obtain ⟨un, sd, now, past, im, is, kp, o, nu, ab, pi, as, fw, dp, ks, ws⟩ := μ
  have h : Rel σ un sd now past im is kp := h
  obtain ⟨r, σ', un', now', e1, e2, h'⟩ := undo_ok (F := 5000) (Nat.le_refl _) h x1
  exact ⟨r, σ', (un', sd, now', past, im, is, kp, o, nu, ab, pi, as, fw, dp, ks, ws), tX8_undo hda e1, tX9_undo hdb e2, h'⟩
theorem s_less (hda : gInj 167 ad) (hdb : gInj 15 bd) {σ : Sig} {μ : Mst} (h : RelS σ μ) (x1 : Int32) : ∃ r σ' μ', CTi l yX8_less cX8_less 2 .int rX8_less D (cTy cI cT cM) (gA 167 ad) [.ref (ad 160), .int x1] (cw cI cT cM ad σ) r (cw cI cT cM ad σ') ∧ CTi l yX9_less cX9_less 2 .int rX9_less D (mTy cI cZ) (gA 15 bd) [.ref (bd 0), .int x1] (mwS cI cZ bd μ) r (mwS cI cZ bd μ') ∧ RelS σ' μ' := by
  obtain ⟨un, sd, now, past, im, is, kp, o, nu, ab, pi, as, fw, dp, ks, ws⟩ := μ
  have h : Rel σ un sd now past im is kp := h
  obtain ⟨⟨t, hI⟩, hnow, -⟩ := id h
  subst hnow
  obtain ⟨r, e1, e2⟩ := less_ok (F := 5000) (by omega) (σ := σ) x1
  exact ⟨r, σ, (un, sd, flat (σ 0), past, im, is, kp, o, nu, ab, pi, as, fw, dp, ks, ws), tX8_less hda e1, tX9_less hdb e2, h⟩
theorem s_beside (hda : gInj 167 ad) (hdb : gInj 15 bd) {σ : Sig} {μ : Mst} (h : RelS σ μ) (x1 : Int32) (x2 : Int32) : ∃ r σ' μ', CTi l yX8_beside cX8_beside 3 .int rX8_beside D (cTy cI cT cM) (gA 167 ad) [.ref (ad 160), .int x1, .int x2] (cw cI cT cM ad σ) r (cw cI cT cM ad σ') ∧ CTi l yX9_beside cX9_beside 3 .int rX9_beside D (mTy cI cZ) (gA 15 bd) [.ref (bd 0), .int x1, .int x2] (mwS cI cZ bd μ) r (mwS cI cZ bd μ') ∧ RelS σ' μ' := by
  obtain ⟨un, sd, now, past, im, is, kp, o, nu, ab, pi, as, fw, dp, ks, ws⟩ := μ
  have h : Rel σ un sd now past im is kp := h
  obtain ⟨⟨t, hI⟩, hnow, -⟩ := id h
  subst hnow
  obtain ⟨r, e1, e2⟩ := beside_ok (F := 5000) (by omega) hI x1 x2
  exact ⟨r, σ, (un, sd, flat (σ 0), past, im, is, kp, o, nu, ab, pi, as, fw, dp, ks, ws), tX8_beside hda e1, tX9_beside hdb e2, h⟩
theorem s_between (hda : gInj 167 ad) (hdb : gInj 15 bd) {σ : Sig} {μ : Mst} (h : RelS σ μ) (x1 : Int32) (x2 : Int32) (x3 : Int32) : ∃ r σ' μ', CTi l yX8_between cX8_between 4 .int rX8_between D (cTy cI cT cM) (gA 167 ad) [.ref (ad 160), .int x1, .int x2, .int x3] (cw cI cT cM ad σ) r (cw cI cT cM ad σ') ∧ CTi l yX9_between cX9_between 4 .int rX9_between D (mTy cI cZ) (gA 15 bd) [.ref (bd 0), .int x1, .int x2, .int x3] (mwS cI cZ bd μ) r (mwS cI cZ bd μ') ∧ RelS σ' μ' := by
  obtain ⟨un, sd, now, past, im, is, kp, o, nu, ab, pi, as, fw, dp, ks, ws⟩ := μ
  have h : Rel σ un sd now past im is kp := h
  obtain ⟨⟨t, hI⟩, hnow, -⟩ := id h
  subst hnow
  obtain ⟨r, e1, e2⟩ := between_ok (F := 5000) (by omega) hI x1 x2 x3
  exact ⟨r, σ, (un, sd, flat (σ 0), past, im, is, kp, o, nu, ab, pi, as, fw, dp, ks, ws), tX8_between hda e1, tX9_between hdb e2, h⟩
theorem s_way (hda : gInj 167 ad) (hdb : gInj 15 bd) {σ : Sig} {μ : Mst} (h : RelS σ μ) (x1 : Int32) (x2 : Int32) : ∃ r σ' μ', CTi l yX8_way cX8_way 7 .int rX8_way D (cTy cI cT cM) (gA 167 ad) [.ref (ad 160), .int x1, .int x2] (cw cI cT cM ad σ) r (cw cI cT cM ad σ') ∧ CTi l yX9_way cX9_way 5 .int rX9_way D (mTy cI cZ) (gA 15 bd) [.ref (bd 0), .int x1, .int x2] (mwS cI cZ bd μ) r (mwS cI cZ bd μ') ∧ RelS σ' μ' := by
  obtain ⟨un, sd, now, past, im, is, kp, o, nu, ab, pi, as, fw, dp, ks, ws⟩ := μ
  have h : Rel σ un sd now past im is kp := h
  obtain ⟨⟨t, hI⟩, hnow, -⟩ := id h
  subst hnow
  obtain ⟨r, e1, e2⟩ := way_ok (F := 5000) (by omega) hI x1 x2
  exact ⟨r, σ, (un, sd, flat (σ 0), past, im, is, kp, o, nu, ab, pi, as, fw, dp, ks, ws), tX8_way hda e1, tX9_way hdb e2, h⟩
theorem s_audit (hda : gInj 167 ad) (hdb : gInj 15 bd) {σ : Sig} {μ : Mst} (h : RelS σ μ) (x1 : Int32) (x2 : Int32) : ∃ r σ' μ', CTi l yX8_audit cX8_audit 4 .int rX8_audit D (cTy cI cT cM) (gA 167 ad) [.ref (ad 160), .int x1, .int x2] (cw cI cT cM ad σ) r (cw cI cT cM ad σ') ∧ CTi l yX9_audit cX9_audit 8 .int rX9_audit D (mTy cI cZ) (gA 15 bd) [.ref (bd 0), .int x1, .int x2] (mwS cI cZ bd μ) r (mwS cI cZ bd μ') ∧ RelS σ' μ' := by
  obtain ⟨un, sd, now, past, im, is, kp, o, nu, ab, pi, as, fw, dp, ks, ws⟩ := μ
  have h : Rel σ un sd now past im is kp := h
  obtain ⟨⟨t, hI⟩, hnow, -⟩ := id h
  subst hnow
  obtain ⟨r, o', nu', ab', pi', τ', e1, e2⟩ := audit_ok (F := 5000) (by omega) hI o nu ab pi x1 x2
  exact ⟨r, u3 σ 1 τ', (un, sd, flat (σ 0), past, im, is, kp, o', nu', ab', pi', as, fw, dp, ks, ws), tX8_audit hda e1, tX9_audit hdb e2, rel_trial h τ'⟩
theorem s_seed (hda : gInj 167 ad) (hdb : gInj 15 bd) {σ : Sig} {μ : Mst} (h : RelS σ μ) (x1 : Int32) : ∃ r σ' μ', CTi l yX8_seed cX8_seed 3 .int rX8_seed D (cTy cI cT cM) (gA 167 ad) [.ref (ad 160), .int x1] (cw cI cT cM ad σ) r (cw cI cT cM ad σ') ∧ CTi l yX9_seed cX9_seed 3 .int rX9_seed D (mTy cI cZ) (gA 15 bd) [.ref (bd 0), .int x1] (mwS cI cZ bd μ) r (mwS cI cZ bd μ') ∧ RelS σ' μ' := by
  obtain ⟨un, sd, now, past, im, is, kp, o, nu, ab, pi, as, fw, dp, ks, ws⟩ := μ
  have h : Rel σ un sd now past im is kp := h
  obtain ⟨r, σ', sd', e1, e2, h'⟩ := seed_ok (F := 5000) h x1
  exact ⟨r, σ', (un, sd', now, past, im, is, kp, o, nu, ab, pi, as, fw, dp, ks, ws), tX8_seed hda e1, tX9_seed hdb e2, h'⟩
theorem s_keep (hda : gInj 167 ad) (hdb : gInj 15 bd) {σ : Sig} {μ : Mst} (h : RelS σ μ) (x1 : Int32) : ∃ r σ' μ', CTi l yX8_keep cX8_keep 2 .int rX8_keep D (cTy cI cT cM) (gA 167 ad) [.ref (ad 160), .int x1] (cw cI cT cM ad σ) r (cw cI cT cM ad σ') ∧ CTi l yX9_keep cX9_keep 3 .int rX9_keep D (mTy cI cZ) (gA 15 bd) [.ref (bd 0), .int x1] (mwS cI cZ bd μ) r (mwS cI cZ bd μ') ∧ RelS σ' μ' := by
  obtain ⟨un, sd, now, past, im, is, kp, o, nu, ab, pi, as, fw, dp, ks, ws⟩ := μ
  have h : Rel σ un sd now past im is kp := h
  obtain ⟨r, σ', un', im', is', kp', e1, e2, h'⟩ := keep_ok (F := 5000) (Nat.le_refl _) h x1
  exact ⟨r, σ', (un', sd, now, past, im', is', kp', o, nu, ab, pi, as, fw, dp, ks, ws), tX8_keep hda e1, tX9_keep hdb e2, h'⟩
theorem s_goBack (hda : gInj 167 ad) (hdb : gInj 15 bd) {σ : Sig} {μ : Mst} (h : RelS σ μ) (x1 : Int32) : ∃ r σ' μ', CTi l yX8_goBack cX8_goBack 2 .int rX8_goBack D (cTy cI cT cM) (gA 167 ad) [.ref (ad 160), .int x1] (cw cI cT cM ad σ) r (cw cI cT cM ad σ') ∧ CTi l yX9_goBack cX9_goBack 3 .int rX9_goBack D (mTy cI cZ) (gA 15 bd) [.ref (bd 0), .int x1] (mwS cI cZ bd μ) r (mwS cI cZ bd μ') ∧ RelS σ' μ' := by
  obtain ⟨un, sd, now, past, im, is, kp, o, nu, ab, pi, as, fw, dp, ks, ws⟩ := μ
  have h : Rel σ un sd now past im is kp := h
  obtain ⟨r, σ', un', sd', now', e1, e2, h'⟩ := back_ok (F := 5000) (Nat.le_refl _) h x1
  exact ⟨r, σ', (un', sd', now', past, im, is, kp, o, nu, ab, pi, as, fw, dp, ks, ws), tX8_goBack hda e1, tX9_goBack hdb e2, h'⟩
end STEPS
