/-! the boundary matrix -/
def cidF (S : SS) (d i : Nat) : Nat → Nat
  | 0 => 0
  | c + 1 => if sd S c = d ∧ cntN S d c = i then c else cidF S d i c
def cid (S : SS) (d i : Nat) : Nat := cidF S d i (sn S)
theorem cnt_mono (S : SS) (d : Nat) {a b : Nat} (h : a ≤ b) : cntN S d a ≤ cntN S d b := by
  induction b with
  | zero => have : a = 0 := by omega
            subst this; exact Nat.le_refl _
  | succ b ih =>
    by_cases hb : a = b + 1
    · subst hb; exact Nat.le_refl _
    · have := ih (by omega)
      rw [cntN]; omega
theorem cnt_lt {S : SS} {d a b : Nat} (h : a < b) (ha : sd S a = d) : cntN S d a < cntN S d b := by
  have := cnt_mono S d (show a + 1 ≤ b by omega)
  rw [cntN, if_pos ha] at this
  omega
theorem cid_is {S : SS} {d c : Nat} : ∀ e, c < e → sd S c = d → cidF S d (cntN S d c) e = c
  | 0, h, _ => by omega
  | e + 1, h, hd => by
    rw [cidF]
    by_cases hc : c = e
    · subst hc; rw [if_pos ⟨hd, rfl⟩]
    · rw [if_neg (fun q => by
        have := cnt_lt (S := S) (d := d) (show c < e by omega) hd
        omega)]
      exact cid_is e (by omega) hd
theorem cid_ok {S : SS} {d i : Nat} : ∀ e, i < cntN S d e → cidF S d i e < e ∧ sd S (cidF S d i e) = d ∧ cntN S d (cidF S d i e) = i
  | 0, h => by rw [cntN] at h; omega
  | e + 1, h => by
    rw [cidF]
    by_cases hc : sd S e = d ∧ cntN S d e = i
    · rw [if_pos hc]; exact ⟨by omega, hc.1, hc.2⟩
    · rw [if_neg hc]
      have : i < cntN S d e := by
        rw [cntN] at h
        by_cases hd : sd S e = d
        · rw [if_pos hd] at h
          have : cntN S d e ≠ i := fun q => hc ⟨hd, q⟩
          omega
        · rw [if_neg hd] at h; omega
      obtain ⟨a, b, c⟩ := cid_ok e this
      exact ⟨by omega, b, c⟩
def bdM (S : SS) (n : Nat) : MX := fun r c => sumN (fun k => if sf S (cid S n c) k = cid S (n - 1) r then sg k else 0) (n + 1)
/-- where a number stands among those of a list -/
def fndF (π : Nat → Nat) (v m : Nat) : Nat → Nat
  | 0 => m
  | i + 1 => if π i = v then i else fndF π v m i
theorem fnd_ok {π : Nat → Nat} {v m : Nat} : ∀ e, e ≤ m → (∀ a b, a < m → b < m → π a = π b → a = b) → ∀ i, i < e → (i = fndF π v m e ↔ π i = v)
  | 0, _, _, i, hi => by omega
  | e + 1, he, hinj, i, hi => by
    rw [fndF]
    by_cases h : π e = v
    · rw [if_pos h]
      exact ⟨fun q => by rw [q]; exact h, fun q => hinj i e (by omega) (by omega) (by rw [q, h])⟩
    · rw [if_neg h]
      by_cases hie : i = e
      · subst hie
        refine ⟨fun q => ?_, fun q => absurd q h⟩
        exfalso
        have : ∀ e, e ≤ i → i < m → fndF π v m e ≠ i := by
          intro e
          induction e with
          | zero => intro _ hm; rw [fndF]; omega
          | succ e ih =>
            intro h1 h2
            rw [fndF]
            by_cases hh : π e = v
            · rw [if_pos hh]; omega
            · rw [if_neg hh]; exact ih (by omega) h2
        exact this i (Nat.le_refl _) (by omega) q.symm
      · exact fnd_ok e (by omega) hinj i (by omega)
