/-! memory of the 51 cells, by places: ints, longs, the two references that change -/
abbrev Mm : Type := (Nat → Nat → Int32) × (Nat → Nat → Int64) × (Nat → Nat)
def ss_i (μ : Mm) (p k : Nat) : Int32 := μ.1 p k
def ss_l (μ : Mm) (p k : Nat) : Int64 := μ.2.1 p k
def ss_r (μ : Mm) (p k : Nat) : Nat := if p = 0 ∧ k < 2 then μ.2.2 k else (pfL.getD p []).getD k 0
def up2 {α : Type} (f : Nat → Nat → α) (p k : Nat) (v : α) : Nat → Nat → α := fun a b => if a = p ∧ b = k then v else f a b
def ss_wi (μ : Mm) (p k : Nat) (v : Int32) : Mm := (up2 μ.1 p k v, μ.2.1, μ.2.2)
def ss_wl (μ : Mm) (p k : Nat) (v : Int64) : Mm := (μ.1, up2 μ.2.1 p k v, μ.2.2)
def ss_wr (μ : Mm) (k : Nat) (v : Nat) : Mm := (μ.1, μ.2.1, fun j => if j = k then v else μ.2.2 j)
def ss_cp (μ : Mm) (q sp p dp n : Nat) : Mm := (fun a b => if a = p ∧ dp ≤ b ∧ b < dp + n then μ.1 q (sp + (b - dp)) else μ.1 a b, μ.2.1, μ.2.2)
/-- the machine's side: class numbers, slots, addresses of the places, array classes -/
abbrev Wd : Type := (Nat → ClassId) × (Nat → Nat → Nat) × (Nat → Nat) × ClassId × ClassId × ClassId
abbrev wD (ω : Wd) : va_G := (ω.1, ω.2.1)
abbrev wa (ω : Wd) : Nat → Nat := ω.2.2.1
def tys3 (ω : Wd) : List (ClassId × FieldType) := [(ω.2.2.2.1, .int), (ω.2.2.2.2.1, .long), (ω.2.2.2.2.2, .boolean)]
def wA (ω : Wd) : Nat → Prop := fun q => ∃ k, k < 51 ∧ q = wa ω k
def wAp (ω : Wd) : Prop := ∀ i j, i < 51 → j < 51 → wa ω i = wa ω j → i = j
def shA (p : Nat) : Nat × Nat := shp.getD p (9, 0)
def fV (ω : Wd) (μ : Mm) (p k d : Nat) : Value := match d with
  | 0 => .int (ss_i μ p k)
  | 1 => .long (ss_l μ p k)
  | _ => .ref (wa ω (ss_r μ p k))
def fsV (ω : Wd) (μ : Mm) (p ci : Nat) : List Value := (List.range (fkL.getD ci []).length).map (fun k => fV ω μ p k ((fkL.getD ci []).getD k 0))
def ceE (ω : Wd) (μ : Mm) (p : Nat) (sh : Nat × Nat) : va_E := match sh.1 with
  | 0 => .inr (sh.2, fsV ω μ p sh.2)
  | 1 => .inl (ω.2.2.2.1, sh.2, .inl (μ.1 p))
  | 2 => .inl (ω.2.2.2.2.1, sh.2, .inr (.inl (μ.2.1 p)))
  | _ => .inl (ω.2.2.2.2.2, sh.2, .inl (μ.1 p))
def cW (ω : Wd) (μ : Mm) : va_W := (List.range 51).map (fun p => (wa ω p, ceE ω μ p (shA p)))
theorem cW_at {ω : Wd} {μ : Mm} {p : Nat} (h : p < 51) : (cW ω μ)[p]? = some (wa ω p, ceE ω μ p (shA p)) := by
  simp [cW, h]
theorem cW_len {ω : Wd} {μ : Mm} : (cW ω μ).length = 51 := by simp [cW]
theorem cW_D {ω : Wd} {μ : Mm} (h : wAp ω) : va_D (wA ω) (cW ω μ) := by
  have lt : ∀ (i : Nat) (x : Nat × va_E), (cW ω μ)[i]? = some x → i < 51 ∧ x.1 = wa ω i := by
    intro i x hx
    have hi : i < 51 := by
      have := (List.getElem?_eq_some_iff.mp hx).1
      rwa [cW_len] at this
    rw [cW_at hi] at hx
    cases hx
    exact ⟨hi, rfl⟩
  refine ⟨fun i j x y hx hy hxy => ?_, fun k q hq => ⟨k, (lt k q hq).1, (lt k q hq).2⟩⟩
  obtain ⟨a1, a2⟩ := lt i x hx
  obtain ⟨b1, b2⟩ := lt j y hy
  exact h i j a1 b1 (by rw [← a2, ← b2, hxy])
theorem cW_set {ω : Wd} {μ μ' : Mm} {p : Nat} {e : va_E} (hp : p < 51) (he : ceE ω μ' p (shA p) = e) (ho : ∀ q, q ≠ p → ceE ω μ' q (shA q) = ceE ω μ q (shA q)) : (cW ω μ).set p (wa ω p, e) = cW ω μ' := by
  apply List.ext_getElem?
  intro i
  by_cases hi : i < 51
  · rw [cW_at hi]
    by_cases hip : i = p
    · subst hip
      rw [List.getElem?_set_self (by rw [cW_len]; exact hi), he]
    · rw [List.getElem?_set_ne (Ne.symm hip), cW_at hi, ho i hip]
  · rw [List.getElem?_eq_none (by rw [List.length_set, cW_len]; omega), List.getElem?_eq_none (by rw [cW_len]; omega)]
theorem fsV_at {ω : Wd} {μ : Mm} {p ci k : Nat} (h : k < (fkL.getD ci []).length) : (fsV ω μ p ci)[k]? = some (fV ω μ p k ((fkL.getD ci []).getD k 0)) := by
  simp only [fsV, List.getElem?_map, List.getElem?_range h, Option.map_some]
theorem fsV_len {ω : Wd} {μ : Mm} {p ci : Nat} : (fsV ω μ p ci).length = (fkL.getD ci []).length := by simp [fsV]
theorem ceE_o {ω : Wd} {μ : Mm} {p ci : Nat} (h : shA p = (0, ci)) : ceE ω μ p (shA p) = .inr (ci, fsV ω μ p ci) := by rw [h]; rfl
theorem ceE_i {ω : Wd} {μ : Mm} {p n : Nat} (h : shA p = (1, n)) : ceE ω μ p (shA p) = .inl (ω.2.2.2.1, n, .inl (μ.1 p)) := by rw [h]; rfl
theorem ceE_l {ω : Wd} {μ : Mm} {p n : Nat} (h : shA p = (2, n)) : ceE ω μ p (shA p) = .inl (ω.2.2.2.2.1, n, .inr (.inl (μ.2.1 p))) := by rw [h]; rfl
theorem ceE_z {ω : Wd} {μ : Mm} {p n : Nat} (h : shA p = (3, n)) : ceE ω μ p (shA p) = .inl (ω.2.2.2.2.2, n, .inl (μ.1 p)) := by rw [h]; rfl
theorem shA_lt {p k n : Nat} (h : shA p = (k, n)) (hk : k ≠ 9) : p < 51 := by
  rcases Nat.lt_or_ge p 51 with q | q
  · exact q
  · have : shA p = (9, 0) := by
      unfold shA
      rw [List.getD_eq_getElem?_getD, List.getElem?_eq_none (by simpa [shp] using q)]
      rfl
    rw [this] at h
    cases h
    exact absurd rfl hk
theorem ceE_wi_ne {ω : Wd} {μ : Mm} {p k : Nat} {v : Int32} {q : Nat} (hq : q ≠ p) : ceE ω (ss_wi μ p k v) q (shA q) = ceE ω μ q (shA q) := by
  have e1 : (ss_wi μ p k v).1 q = μ.1 q := by funext j; simp [ss_wi, up2, hq]
  have e2 : ∀ ci, fsV ω (ss_wi μ p k v) q ci = fsV ω μ q ci := by
    intro ci
    unfold fsV
    apply List.map_congr_left
    intro j _
    unfold fV ss_i ss_l ss_r
    rw [e1]
    rfl
  unfold ceE
  split <;> first | rw [e2] | rw [e1] | rfl
theorem ceE_wl_ne {ω : Wd} {μ : Mm} {p k : Nat} {v : Int64} {q : Nat} (hq : q ≠ p) : ceE ω (ss_wl μ p k v) q (shA q) = ceE ω μ q (shA q) := by
  have e1 : (ss_wl μ p k v).2.1 q = μ.2.1 q := by funext j; simp [ss_wl, up2, hq]
  have e2 : ∀ ci, fsV ω (ss_wl μ p k v) q ci = fsV ω μ q ci := by
    intro ci
    unfold fsV
    apply List.map_congr_left
    intro j _
    unfold fV ss_i ss_l ss_r
    rw [e1]
    rfl
  unfold ceE
  split <;> first | rw [e2] | rw [e1] | rfl
theorem cW_wi_o {ω : Wd} {μ : Mm} {p ci k : Nat} {v : Int32} (h : shA p = (0, ci)) (hk : k < (fkL.getD ci []).length) (hd : (fkL.getD ci []).getD k 0 = 0) : (cW ω μ).set p (wa ω p, .inr (ci, (fsV ω μ p ci).set k (.int v))) = cW ω (ss_wi μ p k v) := by
  refine cW_set (shA_lt h (by decide)) ?_ (fun q hq => ceE_wi_ne hq)
  rw [ceE_o h]
  congr 2
  apply List.ext_getElem?
  intro i
  by_cases hi : i < (fkL.getD ci []).length
  · rw [fsV_at hi]
    by_cases hik : i = k
    · subst hik
      rw [List.getElem?_set_self (by rw [fsV_len]; exact hi), hd]
      simp [fV, ss_i, ss_wi, up2]
    · rw [List.getElem?_set_ne (Ne.symm hik), fsV_at hi]
      congr 1
      unfold fV ss_i ss_l ss_r ss_wi up2
      split <;> simp [hik]
  · rw [List.getElem?_eq_none (by rw [fsV_len]; omega), List.getElem?_eq_none (by rw [List.length_set, fsV_len]; omega)]
theorem cW_wl_o {ω : Wd} {μ : Mm} {p ci k : Nat} {v : Int64} (h : shA p = (0, ci)) (hk : k < (fkL.getD ci []).length) (hd : (fkL.getD ci []).getD k 0 = 1) : (cW ω μ).set p (wa ω p, .inr (ci, (fsV ω μ p ci).set k (.long v))) = cW ω (ss_wl μ p k v) := by
  refine cW_set (shA_lt h (by decide)) ?_ (fun q hq => ceE_wl_ne hq)
  rw [ceE_o h]
  congr 2
  apply List.ext_getElem?
  intro i
  by_cases hi : i < (fkL.getD ci []).length
  · rw [fsV_at hi]
    by_cases hik : i = k
    · subst hik
      rw [List.getElem?_set_self (by rw [fsV_len]; exact hi), hd]
      simp [fV, ss_l, ss_wl, up2]
    · rw [List.getElem?_set_ne (Ne.symm hik), fsV_at hi]
      congr 1
      unfold fV ss_i ss_l ss_r ss_wl up2
      split <;> simp [hik]
  · rw [List.getElem?_eq_none (by rw [fsV_len]; omega), List.getElem?_eq_none (by rw [List.length_set, fsV_len]; omega)]
theorem cW_wr_o {ω : Wd} {μ : Mm} {k v : Nat} (hk : k < 2) : (cW ω μ).set 0 (wa ω 0, .inr (6, (fsV ω μ 0 6).set k (.ref (wa ω v)))) = cW ω (ss_wr μ k v) := by
  refine cW_set (by decide) ?_ (fun q hq => ?_)
  · rw [ceE_o (ci := 6) (by decide)]
    congr 2
    apply List.ext_getElem?
    intro i
    by_cases hi : i < (fkL.getD 6 []).length
    · rw [fsV_at hi]
      by_cases hik : i = k
      · subst hik
        rw [List.getElem?_set_self (by rw [fsV_len]; exact hi)]
        rcases (show i = 0 ∨ i = 1 by omega) with rfl | rfl <;> rfl
      · rw [List.getElem?_set_ne (Ne.symm hik), fsV_at hi]
        congr 1
        unfold fV ss_i ss_l ss_r ss_wr
        split <;> simp [hik]
    · rw [List.getElem?_eq_none (by rw [fsV_len]; omega), List.getElem?_eq_none (by rw [List.length_set, fsV_len]; omega)]
  · have e2 : ∀ ci, fsV ω (ss_wr μ k v) q ci = fsV ω μ q ci := by
      intro ci
      unfold fsV
      apply List.map_congr_left
      intro j _
      unfold fV ss_i ss_l ss_r ss_wr
      simp [hq]
    unfold ceE
    split <;> first | rw [e2] | rfl
theorem cW_wi_a {ω : Wd} {μ : Mm} {p n k : Nat} {v : Int32} (h : shA p = (1, n)) : (cW ω μ).set p (wa ω p, .inl (ω.2.2.2.1, n, .inl (upd (μ.1 p) k v))) = cW ω (ss_wi μ p k v) := by
  refine cW_set (shA_lt h (by decide)) ?_ (fun q hq => ceE_wi_ne hq)
  rw [ceE_i h]
  congr 3
  congr 1
  funext j
  simp [ss_wi, up2, upd]
theorem cW_wi_z {ω : Wd} {μ : Mm} {p n k : Nat} {v : Int32} (h : shA p = (3, n)) : (cW ω μ).set p (wa ω p, .inl (ω.2.2.2.2.2, n, .inl (upd (μ.1 p) k v))) = cW ω (ss_wi μ p k v) := by
  refine cW_set (shA_lt h (by decide)) ?_ (fun q hq => ceE_wi_ne hq)
  rw [ceE_z h]
  congr 3
  congr 1
  funext j
  simp [ss_wi, up2, upd]
theorem cW_wl_a {ω : Wd} {μ : Mm} {p n k : Nat} {v : Int64} (h : shA p = (2, n)) : (cW ω μ).set p (wa ω p, .inl (ω.2.2.2.2.1, n, .inr (.inl (vp_updL (μ.2.1 p) k v)))) = cW ω (ss_wl μ p k v) := by
  refine cW_set (shA_lt h (by decide)) ?_ (fun q hq => ceE_wl_ne hq)
  rw [ceE_l h]
  congr 4
  congr 1
  funext j
  simp [ss_wl, up2, vp_updL]
theorem cW_cp {ω : Wd} {μ : Mm} {p q n sp dp k : Nat} (h : shA p = (1, n)) : (cW ω μ).set p (wa ω p, .inl (ω.2.2.2.1, n, .inl (va_cpy (μ.1 q) (μ.1 p) sp dp k))) = cW ω (ss_cp μ q sp p dp k) := by
  refine cW_set (shA_lt h (by decide)) ?_ (fun r hr => ?_)
  · rw [ceE_i h]
    congr 3
    congr 1
    funext j
    simp [ss_cp, va_cpy]
  · have e1 : (ss_cp μ q sp p dp k).1 r = μ.1 r := by funext j; simp [ss_cp, hr]
    have e2 : ∀ ci, fsV ω (ss_cp μ q sp p dp k) r ci = fsV ω μ r ci := by
      intro ci
      unfold fsV
      apply List.map_congr_left
      intro j _
      unfold fV ss_i ss_l ss_r
      rw [e1]
      rfl
    unfold ceE
    split <;> first | rw [e2] | rw [e1] | rfl
/-! values and locals -/
def tv (ω : Wd) : Value → Value
  | .ref k => .ref (wa ω k)
  | v => v
theorem tv_cat (ω : Wd) (v : Value) : (tv ω v).category = v.category := by cases v <;> rfl
def nul : Value → Bool
  | .null => true
  | _ => false
def la (ω : Wd) (L : List Value) : List (Nat × Value) := (L.zipIdx.filter (fun q => !nul q.1)).map (fun q => (q.2, tv ω q.1))
theorem la_mem {ω : Wd} {L : List Value} {i : Nat} {w : Value} : (i, w) ∈ la ω L ↔ ∃ v, L[i]? = some v ∧ nul v = false ∧ w = tv ω v := by
  constructor
  · intro h
    obtain ⟨⟨v, j⟩, h1, h2⟩ := List.mem_map.mp h
    obtain ⟨h3, h4⟩ := List.mem_filter.mp h1
    have h5 := List.mem_zipIdx_iff_getElem?.mp h3
    simp at h2
    obtain ⟨rfl, rfl⟩ := h2
    exact ⟨v, h5, by simpa using h4, rfl⟩
  · rintro ⟨v, h1, h2, rfl⟩
    refine List.mem_map.mpr ⟨(v, i), List.mem_filter.mpr ⟨List.mem_zipIdx_iff_getElem?.mpr h1, by simp [h2]⟩, rfl⟩
theorem la_has {ω : Wd} {L : List Value} {ls : Array Slot} {n i : Nat} {v : Value} (h : lv_has ls n (la ω L)) (hi : L[i]? = some v) (hv : nul v = false) : ls[i]? = some (.val (tv ω v)) := h.2.2 (i, tv ω v) (la_mem.mpr ⟨v, hi, hv, rfl⟩)
theorem la_sub {ls : Array Slot} {n : Nat} {l l' : List (Nat × Value)} (h : lv_has ls n l) (hs : ∀ q ∈ l', q ∈ l) : lv_has ls n l' := ⟨h.1, h.2.1, fun q hq => h.2.2 q (hs q hq)⟩
