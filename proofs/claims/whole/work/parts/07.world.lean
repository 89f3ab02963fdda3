
/-! ===== values, the store, the shape of the heap ===== -/
abbrev Sto : Type := Nat → Nat → Int
abbrev Vl : Type := Int ⊕ (Int ⊕ Nat)
abbrev vI (z : Int) : Vl := Sum.inl z
abbrev vL (z : Int) : Vl := Sum.inr (Sum.inl z)
abbrev vR (p : Nat) : Vl := Sum.inr (Sum.inr p)
def r32 (z : Int) : Prop := -2147483648 ≤ z ∧ z < 2147483648
def r64 (z : Int) : Prop := -9223372036854775808 ≤ z ∧ z < 9223372036854775808
def w32 (z : Int) : Int := (z + 2147483648) % 4294967296 - 2147483648
def w64 (z : Int) : Int := (z + 9223372036854775808) % 18446744073709551616 - 9223372036854775808
def w8 (z : Int) : Int := (z + 128) % 256 - 128
def w16 (z : Int) : Int := (z + 32768) % 65536 - 32768
def okV : Vl → Prop
  | .inl z => r32 z
  | .inr (.inl z) => r64 z
  | .inr (.inr _) => True
def okL : List Vl → Prop
  | [] => True
  | v :: t => okV v ∧ okL t
def okE : List (Nat × Vl) → Prop
  | [] => True
  | q :: t => okV q.2 ∧ okE t
def sr_rv (ad : Nat → Nat) : Vl → Value
  | .inl z => .int (Int32.ofInt z)
  | .inr (.inl z) => .long (Int64.ofInt z)
  | .inr (.inr p) => .ref (ad p)
def sr_kdL : List Nat := [21, 4, 1, 20, 3, 1, 14, 1, 1, 1, 1, 1, 1, 1, 1, 1, 16, 1, 1, 1, 1, 1, 1, 1, 11, 1, 18, 1, 1, 5, 19, 1, 19, 1, 19, 1, 17, 1, 17, 1, 17, 1, 17, 1, 14, 1, 1, 1, 1, 1, 1, 1, 1, 1, 16, 1, 1, 1, 1, 1, 1, 1, 15, 12, 13, 1, 10, 1, 2, 22, 1, 1, 1, 1, 1, 1, 1, 1, 1, 1, 1, 1, 1, 1, 1, 1, 1, 1, 1, 1]
def sr_alL : List Nat := [0, 3, 3, 0, 36, 144, 0, 8, 8, 8, 8, 8, 8, 8, 8, 20, 0, 8, 8, 8, 8, 8, 8, 8, 0, 640, 0, 8, 8, 4, 0, 41, 0, 39, 0, 20, 0, 60, 0, 60, 0, 60, 0, 60, 0, 8, 8, 8, 8, 8, 8, 8, 8, 20, 0, 8, 8, 8, 8, 8, 8, 8, 0, 0, 0, 40, 0, 10, 32, 0, 4, 4, 240, 60, 126, 3, 36, 24, 20, 40, 8, 8, 8, 8, 640, 8, 8, 16, 40, 40]
def sr_rfL : List (List Nat) := [[1, 2, 3, 6, 16, 24, 26, 62, 64, 66, 29], [30, 32, 34], [], [0, 4, 5], [], [], [0, 7, 8, 9, 10, 11, 0, 12, 13, 14, 15], [], [], [], [], [], [], [], [], [], [3, 17, 18, 19, 20, 21, 22, 23], [], [], [], [], [], [], [], [25], [], [27, 28], [], [], [36, 38, 40, 42], [31], [], [33], [], [35], [], [0, 0, 37], [], [0, 0, 39], [], [0, 0, 41], [], [0, 0, 43], [], [0, 45, 46, 47, 48, 49, 0, 50, 51, 52, 53], [], [], [], [], [], [], [], [], [], [3, 55, 56, 57, 58, 59, 60, 61], [], [], [], [], [], [], [], [3, 6, 44, 54, 0, 0, 0, 0, 0, 63], [], [3, 6, 44, 54, 26, 0, 65], [], [3, 6, 44, 54, 67, 0, 68], [], [], [70, 71, 72, 73, 0, 74, 75, 0, 0, 76, 0, 77, 78, 0, 0, 79, 80, 81, 82, 83, 84, 85, 86, 0, 0, 0, 0, 0, 87, 88, 0, 89], [], [], [], [], [], [], [], [], [], [], [], [], [], [], [], [], [], [], [], []]
def sr_fkL : List (List Nat) := [[2, 2, 2, 2, 2, 0, 2, 0, 0, 0], [2], [0, 0, 0], [2, 2, 2, 2, 2, 1, 2], [0, 2, 2, 2, 2, 2, 0, 2, 2, 2, 2, 0], [2, 2, 2, 2, 0, 0, 0, 0, 0, 2], [2, 2, 2, 2, 2, 2, 2, 2, 0, 0, 0, 0, 1], [0, 0, 2], [2, 2, 0], [2, 0], [0, 2, 2], [2, 2, 2, 2, 2, 2, 2, 2, 2, 2, 2, 0, 3], [2, 2, 2, 2, 0, 2, 2, 0, 0, 2, 0, 2, 2, 0, 0, 2, 2, 2, 2, 2, 2, 2, 2, 0, 0, 0, 0, 0, 2, 2, 0, 2]]
def NP : Nat := 90
def kd (i : Nat) : Nat := sr_kdL.getD i 0
def al (i : Nat) : Nat := sr_alL.getD i 0
def rfn (i k : Nat) : Nat := (sr_rfL.getD i []).getD k 0
def fk (c k : Nat) : Nat := (sr_fkL.getD c []).getD k 9
def nf (c : Nat) : Nat := (sr_fkL.getD c []).length
def sty (i j : Nat) : Nat := if kd i < 10 then (if kd i = 1 then 0 else if kd i = 2 then 1 else if kd i = 3 then 3 else 2) else fk (kd i - 10) j
def okT (t : Nat) (z : Int) : Prop := if t = 1 then r64 z else if t = 3 then (z = 0 ∨ z = 1) else r32 z
def okS (σ : Sto) : Prop := ∀ i j, okT (sty i j) (σ i j)
def up (σ : Sto) (c j : Nat) (z : Int) : Sto := fun a b => if a = c ∧ b = j then z else σ a b
def upR (σ : Sto) (c : Nat) (f : Nat → Int) : Sto := fun a b => if a = c then f b else σ a b
def inb (z : Int) (n : Nat) : Prop := 0 ≤ z ∧ z < (n : Int)
def sr_arrC (ad : Nat → Nat) (σ : Sto) (i : Nat) : (Nat → Int32) ⊕ (Nat → Int64) ⊕ (Nat → UInt32) ⊕ (Nat → UInt64) ⊕ (Nat → Option Nat) :=
  if kd i = 2 then .inr (.inl (fun j => Int64.ofInt (σ i j))) else if kd i = 4 ∨ kd i = 5 then .inr (.inr (.inr (.inr (fun j => some (ad (rfn i j)))))) else .inl (fun j => Int32.ofInt (σ i j))
def sr_fV (ad : Nat → Nat) (σ : Sto) (i k : Nat) : Value :=
  if fk (kd i - 10) k = 1 then .long (Int64.ofInt (σ i k)) else if fk (kd i - 10) k = 2 then .ref (ad (rfn i k)) else .int (Int32.ofInt (σ i k))
def sr_objC (ad : Nat → Nat) (σ : Sto) (i : Nat) : List Value := (List.range (nf (kd i - 10))).map (fun k => sr_fV ad σ i k)
def sr_cE (ad : Nat → Nat) (ca : Nat → ClassId) (σ : Sto) (i : Nat) : va_E := if kd i < 10 then .inl (ca i, al i, sr_arrC ad σ i) else .inr (kd i - 10, sr_objC ad σ i)
def rW (ad : Nat → Nat) (ca : Nat → ClassId) (σ : Sto) : va_W := (List.range NP).map (fun i => (ad i, sr_cE ad ca σ i))
def sr_aty (k : Nat) : FieldType := if k = 1 then .int else if k = 2 then .long else if k = 3 then .boolean else if k = 4 then .object "SmokeRings$Text" else .object "SmokeRings$Sheet"
def sr_arrP : List Nat := (List.range NP).filter (fun i => decide (kd i < 10))
def tyW (ca : Nat → ClassId) : List (ClassId × FieldType) := sr_arrP.map (fun i => (ca i, sr_aty (kd i)))
def sr_D (A : Nat → Prop) (ad : Nat → Nat) : Prop := (∀ i j, i < NP → j < NP → ad i = ad j → i = j) ∧ ∀ i, i < NP → A (ad i)
def sr_A (ad : Nat → Nat) (sz : Nat) : Nat → Prop := fun q => (∃ i, i < NP ∧ q = ad i) ∨ sz ≤ q
/-! ===== numbers ===== -/
theorem w32_bmod (z : Int) : w32 z = z.bmod 4294967296 := by
  unfold w32
  rw [Int.bmod_def]
  split <;> omega
theorem w64_bmod (z : Int) : w64 z = z.bmod 18446744073709551616 := by
  unfold w64
  rw [Int.bmod_def]
  split <;> omega
theorem w8_bmod (z : Int) : w8 z = z.bmod 256 := by
  unfold w8
  rw [Int.bmod_def]
  split <;> omega
theorem w16_bmod (z : Int) : w16 z = z.bmod 65536 := by
  unfold w16
  rw [Int.bmod_def]
  split <;> omega
theorem w32_r (z : Int) : r32 (w32 z) := by unfold r32 w32; omega
theorem w64_r (z : Int) : r64 (w64 z) := by unfold r64 w64; omega
theorem w32_id {z : Int} (h : r32 z) : w32 z = z := by unfold r32 at h; unfold w32; omega
theorem w64_id {z : Int} (h : r64 z) : w64 z = z := by unfold r64 at h; unfold w64; omega
theorem of32 {z : Int} (h : r32 z) : (Int32.ofInt z).toInt = z := by
  rw [Int32.toInt_ofInt, show Int32.size = 4294967296 from rfl, ← w32_bmod]
  exact w32_id h
theorem of64 {z : Int} (h : r64 z) : (Int64.ofInt z).toInt = z := by
  rw [Int64.toInt_ofInt, show Int64.size = 18446744073709551616 from rfl, ← w64_bmod]
  exact w64_id h
theorem ofw32 (z : Int) : Int32.ofInt (w32 z) = Int32.ofInt z := by
  apply Int32.toInt_inj.mp
  rw [Int32.toInt_ofInt, Int32.toInt_ofInt, w32_bmod]
  exact Int.bmod_bmod
theorem ofw64 (z : Int) : Int64.ofInt (w64 z) = Int64.ofInt z := by
  apply Int64.toInt_inj.mp
  rw [Int64.toInt_ofInt, Int64.toInt_ofInt, w64_bmod]
  exact Int.bmod_bmod
theorem le32 {x y : Int} (hx : r32 x) (hy : r32 y) : Int32.ofInt x ≤ Int32.ofInt y ↔ x ≤ y := by
  rw [Int32.le_iff_toInt_le, of32 hx, of32 hy]
theorem lt32 {x y : Int} (hx : r32 x) (hy : r32 y) : Int32.ofInt x < Int32.ofInt y ↔ x < y := by
  rw [Int32.lt_iff_toInt_lt, of32 hx, of32 hy]
theorem eq32 {x y : Int} (hx : r32 x) (hy : r32 y) : Int32.ofInt x = Int32.ofInt y ↔ x = y := by
  rw [← Int32.toInt_inj, of32 hx, of32 hy]
theorem lt64 {x y : Int} (hx : r64 x) (hy : r64 y) : Int64.ofInt x < Int64.ofInt y ↔ x < y := by
  rw [Int64.lt_iff_toInt_lt, of64 hx, of64 hy]
theorem eq64 {x y : Int} (hx : r64 x) (hy : r64 y) : Int64.ofInt x = Int64.ofInt y ↔ x = y := by
  rw [← Int64.toInt_inj, of64 hx, of64 hy]
theorem r32_0 : r32 0 := by unfold r32; omega
theorem r32_64 {z : Int} (h : r32 z) : r64 z := by unfold r32 at h; unfold r64; omega
theorem toInt_r32 (x : Int32) : r32 x.toInt := by
  have h1 := Int32.le_toInt x
  have h2 := Int32.toInt_lt x
  unfold r32; omega
theorem toInt_r64 (x : Int64) : r64 x.toInt := by
  have h1 := Int64.le_toInt x
  have h2 := Int64.toInt_lt x
  unfold r64; omega
theorem clamp32 {z : Int} (h : r32 z) : (Int32.ofInt z).toNatClampNeg = z.toNat := by
  show (Int32.ofInt z).toInt.toNat = z.toNat
  rw [of32 h]
theorem vpin {z : Int} {n : Nat} (h : r32 z) (hi : inb z n) : vp_in (Int32.ofInt z) n := by
  unfold vp_in
  rw [clamp32 h]
  unfold inb at hi
  intro q
  rcases q with q | q
  · have h2 : Int32.ofInt z < Int32.ofInt 0 := q
    rw [lt32 h r32_0] at h2
    omega
  · omega
/-! ===== the shape ===== -/
theorem kd_lt {i k : Nat} (h : kd i = k) (hk : k ≠ 0) : i < NP := by
  rcases Nat.lt_or_ge i NP with q | q
  · exact q
  · exfalso
    apply hk
    rw [← h]
    unfold kd
    rw [List.getD_eq_getElem?_getD, List.getElem?_eq_none (by exact q)]
    rfl
theorem rW_get {ad : Nat → Nat} {ca : Nat → ClassId} {σ : Sto} {i : Nat} (h : i < NP) : (rW ad ca σ)[i]? = some (ad i, sr_cE ad ca σ i) := by
  unfold rW
  rw [List.getElem?_map, List.getElem?_range h]
  rfl
theorem rW_out {ad : Nat → Nat} {ca : Nat → ClassId} {σ : Sto} {i : Nat} (h : ¬ i < NP) : (rW ad ca σ)[i]? = none := by
  apply List.getElem?_eq_none
  unfold rW
  rw [List.length_map, List.length_range]
  omega
theorem rW_len {ad : Nat → Nat} {ca : Nat → ClassId} {σ : Sto} : (rW ad ca σ).length = NP := by
  unfold rW
  rw [List.length_map, List.length_range]
theorem sr_cE_row {ad : Nat → Nat} {ca : Nat → ClassId} {σ σ' : Sto} {i : Nat} (h : σ' i = σ i) : sr_cE ad ca σ' i = sr_cE ad ca σ i := by
  simp only [sr_cE, sr_arrC, sr_objC, sr_fV, h]
theorem rW_set {ad : Nat → Nat} {ca : Nat → ClassId} {σ σ' : Sto} {i : Nat} {e : va_E} (hi : i < NP) (h : ∀ j, j ≠ i → σ' j = σ j) (he : e = sr_cE ad ca σ' i) : (rW ad ca σ).set i (ad i, e) = rW ad ca σ' := by
  apply List.ext_getElem?
  intro j
  rw [List.getElem?_set]
  by_cases hj : i = j
  · subst hj
    rw [if_pos rfl, if_pos (by rw [rW_len]; exact hi), rW_get hi, he]
  · rw [if_neg hj]
    by_cases hj2 : j < NP
    · rw [rW_get hj2, rW_get hj2, sr_cE_row (h j (fun q => hj q.symm))]
    · rw [rW_out hj2, rW_out hj2]
theorem tyW_get {ca : Nat → ClassId} {i : Nat} (h : i < NP) (ha : kd i < 10) : ∃ t : Nat, (tyW ca)[t]? = some (ca i, sr_aty (kd i)) := by
  have hm : i ∈ sr_arrP := List.mem_filter.mpr ⟨List.mem_range.mpr h, by simpa using ha⟩
  have hm2 : (ca i, sr_aty (kd i)) ∈ tyW ca := List.mem_map.mpr ⟨i, hm, rfl⟩
  obtain ⟨t, ht⟩ := List.getElem?_of_mem hm2
  exact ⟨t, ht⟩
theorem sr_D.va {A : Nat → Prop} {ad : Nat → Nat} {ca : Nat → ClassId} (h : sr_D A ad) (σ : Sto) : va_D A (rW ad ca σ) := by
  have hg : ∀ (k : Nat) (q : Nat × va_E), (rW ad ca σ)[k]? = some q → k < NP ∧ q.1 = ad k := by
    intro k q hk
    by_cases hkN : k < NP
    · rw [rW_get hkN] at hk
      cases hk
      exact ⟨hkN, rfl⟩
    · rw [rW_out hkN] at hk
      cases hk
  constructor
  · intro i j p q hi hj hpq
    obtain ⟨h1, h2⟩ := hg i p hi
    obtain ⟨h3, h4⟩ := hg j q hj
    exact h.1 i j h1 h3 (by rw [← h2, ← h4, hpq])
  · intro k q hk
    obtain ⟨h1, h2⟩ := hg k q hk
    rw [h2]
    exact h.2 k h1
theorem cE_int {ad : Nat → Nat} {ca : Nat → ClassId} {σ : Sto} {i : Nat} (h : kd i = 1) : sr_cE ad ca σ i = .inl (ca i, al i, .inl (fun j => Int32.ofInt (σ i j))) := by
  simp [sr_cE, sr_arrC, h]
theorem cE_bool {ad : Nat → Nat} {ca : Nat → ClassId} {σ : Sto} {i : Nat} (h : kd i = 3) : sr_cE ad ca σ i = .inl (ca i, al i, .inl (fun j => Int32.ofInt (σ i j))) := by
  simp [sr_cE, sr_arrC, h]
theorem cE_long {ad : Nat → Nat} {ca : Nat → ClassId} {σ : Sto} {i : Nat} (h : kd i = 2) : sr_cE ad ca σ i = .inl (ca i, al i, .inr (.inl (fun j => Int64.ofInt (σ i j)))) := by
  simp [sr_cE, sr_arrC, h]
theorem cE_ref {ad : Nat → Nat} {ca : Nat → ClassId} {σ : Sto} {i : Nat} (h : kd i = 4 ∨ kd i = 5) : sr_cE ad ca σ i = .inl (ca i, al i, .inr (.inr (.inr (.inr (fun j => some (ad (rfn i j))))))) := by
  rcases h with h | h <;> simp [sr_cE, sr_arrC, h]
theorem cE_obj {ad : Nat → Nat} {ca : Nat → ClassId} {σ : Sto} {i ci : Nat} (h : kd i = 10 + ci) : sr_cE ad ca σ i = .inr (ci, sr_objC ad σ i) := by
  have h1 : ¬ kd i < 10 := by omega
  have h2 : kd i - 10 = ci := by omega
  simp [sr_cE, h1, h2]
theorem objC_get {ad : Nat → Nat} {σ : Sto} {i ci k : Nat} (h : kd i = 10 + ci) (hk : k < nf ci) : (sr_objC ad σ i)[k]? = some (sr_fV ad σ i k) := by
  have h2 : kd i - 10 = ci := by omega
  unfold sr_objC
  rw [h2, List.getElem?_map, List.getElem?_range hk]
  rfl
theorem objC_len {ad : Nat → Nat} {σ : Sto} {i ci : Nat} (h : kd i = 10 + ci) : (sr_objC ad σ i).length = nf ci := by
  have h2 : kd i - 10 = ci := by omega
  unfold sr_objC
  rw [h2, List.length_map, List.length_range]
theorem fV_int {ad : Nat → Nat} {σ : Sto} {i ci k : Nat} (h : kd i = 10 + ci) (hf : fk ci k = 0 ∨ fk ci k = 3) : sr_fV ad σ i k = .int (Int32.ofInt (σ i k)) := by
  have h2 : kd i - 10 = ci := by omega
  rcases hf with hf | hf <;> simp [sr_fV, h2, hf]
theorem fV_long {ad : Nat → Nat} {σ : Sto} {i ci k : Nat} (h : kd i = 10 + ci) (hf : fk ci k = 1) : sr_fV ad σ i k = .long (Int64.ofInt (σ i k)) := by
  have h2 : kd i - 10 = ci := by omega
  simp [sr_fV, h2, hf]
theorem fV_ref {ad : Nat → Nat} {σ : Sto} {i ci k : Nat} (h : kd i = 10 + ci) (hf : fk ci k = 2) : sr_fV ad σ i k = .ref (ad (rfn i k)) := by
  have h2 : kd i - 10 = ci := by omega
  simp [sr_fV, h2, hf]
theorem sty_obj {i ci j : Nat} (h : kd i = 10 + ci) : sty i j = fk ci j := by
  have h1 : ¬ kd i < 10 := by omega
  have h2 : kd i - 10 = ci := by omega
  simp [sty, h1, h2]
theorem sty_int {i j : Nat} (h : kd i = 1) : sty i j = 0 := by simp [sty, h]
theorem sty_long {i j : Nat} (h : kd i = 2) : sty i j = 1 := by simp [sty, h]
theorem sty_bool {i j : Nat} (h : kd i = 3) : sty i j = 3 := by simp [sty, h]
theorem okT_32 {t : Nat} {z : Int} (h : okT t z) (ht : t ≠ 1) : r32 z := by
  unfold okT at h
  rw [if_neg ht] at h
  split at h
  · unfold r32; omega
  · exact h
theorem okT_64 {t : Nat} {z : Int} (h : okT t z) (ht : t = 1) : r64 z := by
  unfold okT at h
  rw [if_pos ht] at h
  exact h
theorem okS_up {σ : Sto} {c j : Nat} {z : Int} (h : okS σ) (hz : okT (sty c j) z) : okS (up σ c j z) := by
  intro a b
  unfold up
  split
  · next q => rw [q.1, q.2]; exact hz
  · exact h a b
theorem okS_upR {σ : Sto} {c : Nat} {f : Nat → Int} (h : okS σ) (hz : ∀ j, okT (sty c j) (f j)) : okS (upR σ c f) := by
  intro a b
  unfold upR
  split
  · next q => rw [q]; exact hz b
  · exact h a b
theorem up_ne {σ : Sto} {c j : Nat} {z : Int} : ∀ a, a ≠ c → up σ c j z a = σ a := by
  intro a h
  funext b
  unfold up
  rw [if_neg (fun q => h q.1)]
theorem upR_ne {σ : Sto} {c : Nat} {f : Nat → Int} : ∀ a, a ≠ c → upR σ c f a = σ a := by
  intro a h
  funext b
  unfold upR
  rw [if_neg h]
theorem upd32 {σ : Sto} {c : Nat} {n : Nat} {z : Int} : upd (fun j => Int32.ofInt (σ c j)) n (Int32.ofInt z) = fun j => Int32.ofInt (up σ c n z c j) := by
  funext j
  unfold upd up
  by_cases h : j = n
  · simp [h]
  · simp [h]
theorem upd64 {σ : Sto} {c : Nat} {n : Nat} {z : Int} : vp_updL (fun j => Int64.ofInt (σ c j)) n (Int64.ofInt z) = fun j => Int64.ofInt (up σ c n z c j) := by
  funext j
  unfold vp_updL up
  by_cases h : j = n
  · simp [h]
  · simp [h]
theorem objC_set {ad : Nat → Nat} {σ : Sto} {o ci k : Nat} {z : Int} {v : Value} (h : kd o = 10 + ci) (hk : k < nf ci) (hv : v = sr_fV ad (up σ o k z) o k) : (sr_objC ad σ o).set k v = sr_objC ad (up σ o k z) o := by
  apply List.ext_getElem?
  intro j
  rw [List.getElem?_set]
  by_cases hj : k = j
  · subst hj
    rw [if_pos rfl, if_pos (by rw [objC_len h]; exact hk), objC_get h hk, hv]
  · rw [if_neg hj]
    by_cases hj2 : j < nf ci
    · rw [objC_get h hj2, objC_get h hj2]
      have e : up σ o k z o j = σ o j := by
        unfold up
        rw [if_neg (fun q => hj q.2.symm)]
      simp only [sr_fV, e]
    · rw [List.getElem?_eq_none (by rw [objC_len h]; omega), List.getElem?_eq_none (by rw [objC_len h]; omega)]
