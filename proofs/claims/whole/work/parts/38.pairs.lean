/-! products: the pairs, their faces -/
abbrev PP : Type := Nat × Nat × Nat × Nat × Nat
def fm (f : Nat → List PP) : Nat → List PP
  | 0 => []
  | i + 1 => fm f i ++ f i
theorem fm_mem {f : Nat → List PP} {p : PP} : ∀ {e : Nat}, p ∈ fm f e ↔ ∃ i, i < e ∧ p ∈ f i
  | 0 => ⟨fun h => absurd h (by simp [fm]), fun ⟨i, h, _⟩ => by omega⟩
  | e + 1 => by
    rw [fm, List.mem_append, fm_mem]
    constructor
    · rintro (⟨i, h1, h2⟩ | h)
      · exact ⟨i, by omega, h2⟩
      · exact ⟨e, by omega, h⟩
    · rintro ⟨i, h1, h2⟩
      by_cases h : i = e
      · subst h; exact Or.inr h2
      · exact Or.inl ⟨i, by omega, h2⟩
theorem fm_len {f : Nat → List PP} {i e : Nat} (h : i ≤ e) : (fm f i).length ≤ (fm f e).length := by
  induction e with
  | zero => have : i = 0 := by omega
            subst this; exact Nat.le_refl _
  | succ e ih =>
    by_cases hi : i = e + 1
    · subst hi; exact Nat.le_refl _
    · have := ih (by omega)
      rw [fm, List.length_append]; omega
theorem fm_nil {f : Nat → List PP} {a e : Nat} (h : ∀ i, a ≤ i → i < e → f i = []) (hae : a ≤ e) : fm f e = fm f a := by
  induction e with
  | zero => have : a = 0 := by omega
            subst this; rfl
  | succ e ih =>
    by_cases hi : a = e + 1
    · subst hi; rfl
    · rw [fm, h e (by omega) (by omega), List.append_nil]
      exact ih (fun i h1 h2 => h i h1 (by omega)) (by omega)
def prB (T : SS) (n x A y B : Nat) : List PP := if A ||| B = 2 ^ n - 1 ∧ popN B = sd T y then [(n, x, A, y, B)] else []
def prY (T : SS) (n x A y : Nat) : List PP := fm (prB T n x A y) (2 ^ n)
def prP (T : SS) (n x A : Nat) : List PP := fm (prY T n x A) (sn T)
def prA (S T : SS) (n x A : Nat) : List PP := if popN A = sd S x then prP T n x A else []
def prX (S T : SS) (n x : Nat) : List PP := fm (prA S T n x) (2 ^ n)
def prN (S T : SS) (n : Nat) : List PP := fm (prX S T n) (sn S)
def prL (S T : SS) (e : Nat) : List PP := fm (prN S T) e
def okP (S T : SS) (p : PP) : Prop := p.2.1 < sn S ∧ p.2.2.1 < 2 ^ p.1 ∧ popN p.2.2.1 = sd S p.2.1 ∧ p.2.2.2.1 < sn T ∧ p.2.2.2.2 < 2 ^ p.1 ∧ popN p.2.2.2.2 = sd T p.2.2.2.1 ∧ p.2.2.1 ||| p.2.2.2.2 = 2 ^ p.1 - 1
theorem prN_mem {S T : SS} {p : PP} {n : Nat} : p ∈ prN S T n ↔ p.1 = n ∧ okP S T p := by
  constructor
  · intro h
    obtain ⟨x, hx, h⟩ := fm_mem.mp h
    obtain ⟨A, hA, h⟩ := fm_mem.mp h
    unfold prA at h
    by_cases hp : popN A = sd S x
    · rw [if_pos hp] at h
      obtain ⟨y, hy, h⟩ := fm_mem.mp h
      obtain ⟨B, hB, h⟩ := fm_mem.mp h
      unfold prB at h
      by_cases hq : A ||| B = 2 ^ n - 1 ∧ popN B = sd T y
      · rw [if_pos hq, List.mem_singleton] at h
        subst h
        exact ⟨rfl, hx, hA, hp, hy, hB, hq.2, hq.1⟩
      · rw [if_neg hq] at h; exact absurd h (by simp)
    · rw [if_neg hp] at h; exact absurd h (by simp)
  · rintro ⟨h0, h1, h2, h3, h4, h5, h6, h7⟩
    obtain ⟨n', x, A, y, B⟩ := p
    have h0 : n' = n := h0
    subst h0
    refine fm_mem.mpr ⟨x, h1, fm_mem.mpr ⟨A, h2, ?_⟩⟩
    unfold prA
    rw [if_pos h3]
    refine fm_mem.mpr ⟨y, h4, fm_mem.mpr ⟨B, h5, ?_⟩⟩
    unfold prB
    rw [if_pos ⟨h7, h6⟩]
    exact List.mem_singleton.mpr rfl
theorem prL_mem {S T : SS} {p : PP} {e : Nat} : p ∈ prL S T e ↔ p.1 < e ∧ okP S T p := by
  constructor
  · intro h
    obtain ⟨n, hn, h⟩ := fm_mem.mp h
    obtain ⟨h1, h2⟩ := prN_mem.mp h
    exact ⟨by omega, h2⟩
  · rintro ⟨h1, h2⟩
    exact fm_mem.mpr ⟨p.1, h1, prN_mem.mpr ⟨rfl, h2⟩⟩
def gdN (S : SS) : Nat → Nat
  | 0 => 0
  | i + 1 => max (gdN S i) (sd S i)
theorem gd_le {S : SS} {i c : Nat} (h : c < i) : sd S c ≤ gdN S i := by
  induction i with
  | zero => omega
  | succ i ih =>
    by_cases hi : c = i
    · subst hi; exact Nat.le_max_right _ _
    · exact Nat.le_trans (ih (by omega)) (Nat.le_max_left _ _)
theorem gd_4 {S : SS} (hV : VS S) : ∀ i, i ≤ sn S → gdN S i ≤ 4
  | 0, _ => by show (0 : Nat) ≤ 4; omega
  | i + 1, h => Nat.max_le.mpr ⟨gd_4 hV i (by omega), (hV.2 i (by omega)).1⟩
theorem d_cov : ∀ n, n < 5 → ∀ A, A < 2 ^ n → ∀ B, B < 2 ^ n → A ||| B = 2 ^ n - 1 → n ≤ popN A + popN B := by decide +kernel
theorem prL_5 {S T : SS} {g : Nat} (hg : gdN S (sn S) + gdN T (sn T) = g) (h4 : g ≤ 4) : prL S T 5 = prL S T (g + 1) := by
  refine fm_nil (fun n h1 h2 => ?_) (by omega)
  refine List.eq_nil_iff_forall_not_mem.mpr (fun p hp => ?_)
  obtain ⟨q0, q1, q2, q3, q4, q5, q6, q7⟩ := prN_mem.mp hp
  rw [q0] at q2 q5 q7
  have a := d_cov n h2 _ q2 _ q5 q7
  rw [q3, q6] at a
  have b := gd_le (S := S) q1
  have c := gd_le (S := T) q4
  omega
def el (L : List PP) (i : Nat) : PP := L.getD i (0, 0, 0, 0, 0)
theorem el_lt {L : List PP} {i : Nat} (h : i < L.length) : el L i = L[i] := by
  unfold el; rw [List.getD_eq_getElem?_getD, List.getElem?_eq_getElem h]; rfl
theorem el_mem {L : List PP} {i : Nat} (h : i < L.length) : el L i ∈ L := by rw [el_lt h]; exact List.getElem_mem h
theorem el_ap {L M : List PP} {i : Nat} (h : i < L.length) : el (L ++ M) i = el L i := by
  rw [el_lt h, el_lt (by rw [List.length_append]; omega), List.getElem_append_left h]
theorem el_last {L : List PP} {p : PP} : el (L ++ [p]) L.length = p := by
  rw [el_lt (by rw [List.length_append]; show L.length < L.length + 1; omega)]
  simp
def lst (L : List PP) (q : PP) : Nat → Nat
  | 0 => 0
  | i + 1 => if el L i = q then i else lst L q i
theorem lst_has {L : List PP} {q : PP} {e j : Nat} (hj : j < e) (h : el L j = q) : lst L q e < e ∧ el L (lst L q e) = q := by
  induction e with
  | zero => omega
  | succ e ih =>
    rw [lst]
    by_cases he : el L e = q
    · rw [if_pos he]; exact ⟨by omega, he⟩
    · rw [if_neg he]
      have : j ≠ e := fun r => he (r ▸ h)
      obtain ⟨a, b⟩ := ih (by omega)
      exact ⟨by omega, b⟩
theorem lst_lt {L : List PP} {q : PP} (h : q ∈ L) : lst L q L.length < L.length ∧ el L (lst L q L.length) = q := by
  obtain ⟨j, hj, he⟩ := List.mem_iff_getElem.mp h
  exact lst_has hj (by rw [el_lt hj]; exact he)
theorem lst_48 {L : List PP} {q : PP} : ∀ e, lst L q e ≤ e
  | 0 => Nat.le_refl _
  | e + 1 => by
    rw [lst]
    by_cases he : el L e = q
    · rw [if_pos he]; omega
    · rw [if_neg he]; have := lst_48 (L := L) (q := q) e; omega
/-- the masks of the faces of a pair; the pair that its face lies over -/
def fA (S : SS) (p : PP) (i : Nat) : Nat := fmx S p.2.1 p.1 p.2.2.1 i
def fB (T : SS) (p : PP) (i : Nat) : Nat := fmx T p.2.2.2.1 p.1 p.2.2.2.2 i
def fX (S : SS) (p : PP) (i : Nat) : Nat := fcx S p.2.1 p.1 p.2.2.1 i
def fY (T : SS) (p : PP) (i : Nat) : Nat := fcx T p.2.2.2.1 p.1 p.2.2.2.2 i
def fK (S T : SS) (p : PP) (i : Nat) : Nat := fA S p i ||| fB T p i
def fQ (S T : SS) (p : PP) (i : Nat) : PP := (popN (fK S T p i), fX S p i, gatN (fA S p i) (fK S T p i), fY T p i, gatN (fB T p i) (fK S T p i))
theorem d_gA : ∀ A, A < 8 → ∀ B, B < 8 → gatN A (A ||| B) ||| gatN B (A ||| B) = 2 ^ popN (A ||| B) - 1 ∧ popN (gatN A (A ||| B)) = popN A ∧ gatN A (A ||| B) < 2 ^ popN (A ||| B) := by decide +kernel
theorem d_gB : ∀ A, A < 8 → ∀ B, B < 8 → popN (gatN B (A ||| B)) = popN B ∧ gatN B (A ||| B) < 2 ^ popN (A ||| B) := by decide +kernel
theorem f_ok {S T : SS} {p : PP} {i : Nat} (hS : VS S) (hT : VS T) (h : okP S T p) (h1 : 1 ≤ p.1) (h4 : p.1 ≤ 4) (hi : i ≤ p.1) : okP S T (fQ S T p i) ∧ fK S T p i < 2 ^ (p.1 - 1) ∧ vsx S (fX S p i) (p.1 - 1) (fA S p i) ∧ vsx T (fY T p i) (p.1 - 1) (fB T p i) ∧ fA S p i < 8 ∧ fB T p i < 8 ∧ fK S T p i < 8 ∧ popN (fK S T p i) < p.1 := by
  obtain ⟨q1, q2, q3, q4, q5, q6, q7⟩ := h
  have a := face_v hS ⟨q1, by omega, q2, q3⟩ h1 hi
  have b := face_v hT ⟨q4, by omega, q5, q6⟩ h1 hi
  have h8 : 2 ^ (p.1 - 1) ≤ 8 := two_le (b := 3) (by omega)
  have a8 : fA S p i < 8 := Nat.lt_of_lt_of_le a.2.2.1 h8
  have b8 : fB T p i < 8 := Nat.lt_of_lt_of_le b.2.2.1 h8
  have hk : fK S T p i < 2 ^ (p.1 - 1) := Nat.or_lt_two_pow a.2.2.1 b.2.2.1
  obtain ⟨g1, g2, g3⟩ := d_gA _ a8 _ b8
  obtain ⟨g4, g5⟩ := d_gB _ a8 _ b8
  have hpk := pop_le (p.1 - 1) (by omega) _ hk
  exact ⟨⟨a.1, g3, by show popN (gatN (fA S p i) (fA S p i ||| fB T p i)) = _; rw [g2]; exact a.2.2.2, b.1, g5, by show popN (gatN (fB T p i) (fA S p i ||| fB T p i)) = _; rw [g4]; exact b.2.2.2, g1⟩, hk, a, b, a8, b8, by omega, by omega⟩
def cutS (S : SS) (m : Nat) : SS := (m, S.2)
theorem cut_app (S : SS) (m : Nat) : appS (cutS S m) (sd S m) (sf S m) (sm S m) = cutS S (m + 1) := by
  have e1 : (fun c => if c = m then sd S m else sd S c) = S.2.1 := by
    funext c; by_cases h : c = m
    · rw [if_pos h, h]; rfl
    · rw [if_neg h]; rfl
  have e2 : (fun (c k : Nat) => if c = m then sf S m k else sf S c k) = S.2.2.1 := by
    funext c k; by_cases h : c = m
    · rw [if_pos h, h]; rfl
    · rw [if_neg h]; rfl
  have e3 : (fun (c k : Nat) => if c = m then sm S m k else sm S c k) = S.2.2.2 := by
    funext c k; by_cases h : c = m
    · rw [if_pos h, h]; rfl
    · rw [if_neg h]; rfl
  show (m + 1, (fun c => if c = m then sd S m else sd S c), (fun (c k : Nat) => if c = m then sf S m k else sf S c k), (fun (c k : Nat) => if c = m then sm S m k else sm S c k)) = _
  rw [e1, e2, e3]; rfl
def psS (S T : SS) (L : List PP) : SS := (L.length, (fun c => (el L c).1), (fun c k => lst L (fQ S T (el L c) k) L.length), (fun c k => fK S T (el L c) k))
theorem ps_V {S T : SS} {L : List PP} (hS : VS S) (hT : VS T) (hL : L = prL S T 5) (h48 : L.length ≤ 48) : VS (psS S T L) := by
  refine ⟨h48, fun c hc => ?_⟩
  have hc : c < L.length := hc
  have hmem : ∀ q, q ∈ L ↔ q ∈ prL S T 5 := fun q => by rw [hL]
  obtain ⟨m1, m2⟩ := prL_mem.mp ((hmem _).mp (el_mem hc))
  refine ⟨by show (el L c).1 ≤ 4; omega, fun h1 k hk => ?_⟩
  have h1 : 1 ≤ (el L c).1 := h1
  have hk : k ≤ (el L c).1 := hk
  obtain ⟨f1, f2, f3, f4, f5, f6, f7, f8⟩ := f_ok hS hT m2 h1 (by omega) hk
  have hin : fQ S T (el L c) k ∈ L := (hmem _).mpr (prL_mem.mpr ⟨by show popN _ < 5; omega, f1⟩)
  obtain ⟨l1, l2⟩ := lst_lt hin
  refine ⟨l1, f2, ?_⟩
  show popN (fK S T (el L c) k) = (el L (lst L (fQ S T (el L c) k) L.length)).1
  rw [l2]; rfl
theorem cut_V {S : SS} {m : Nat} (hd : ∀ c, c < m → sd S c ≤ 4) : ∀ c, c < sn (cutS S m) → sd (cutS S m) c ≤ 4 := hd
