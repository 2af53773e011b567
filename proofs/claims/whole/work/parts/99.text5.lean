/-! ===== text: the drafts, part by part ===== -/
def dc_0 (μ ν : Mem) : Prop := (2 ≤ ν 61 8 ∧ ν 61 8 ≤ 20) ∧ μ 27 9 = ν 61 8
def fp_0 (a j : Nat) : Prop := a = 27 ∧ j = 9
def gp_0 (a j : Nat) : Prop := a = 61 ∧ j = 8
def dc_1 (μ ν : Mem) : Prop := ((0 ≤ ν 68 0 ∧ ν 68 0 ≤ 5) ∧ μ 27 10 = ν 68 0) ∧ ∀ i : Int, 0 ≤ i → i < 7 * ν 68 0 → μ 32 i.toNat = ν 68 (1 + i.toNat) ∧ 0 ≤ ν 68 (1 + i.toNat) ∧ (i % 7 = 0 → ν 68 (1 + i.toNat) ≤ 4) ∧ (i % 7 = 1 → ν 68 (1 + i.toNat) ≤ 2) ∧ (i % 7 = 2 → 1 ≤ ν 68 (1 + i.toNat) ∧ ν 68 (1 + i.toNat) ≤ 9) ∧ (i % 7 = 3 → ν 68 (1 + i.toNat) ≤ 30) ∧ (i % 7 = 6 → ν 68 (1 + i.toNat) ≤ 20)
def fp_1 (a j : Nat) : Prop := a = 27 ∧ j = 10 ∨ a = 32
def gp_1 (a j : Nat) : Prop := a = 68 ∧ j ≤ 35
def dc_2 (μ ν : Mem) : Prop := μ 27 11 = 0 ∧ ν 68 168 = 0
def fp_2 (a j : Nat) : Prop := a = 27 ∧ j = 11
def gp_2 (a j : Nat) : Prop := a = 68 ∧ j = 168
def dc_3 (μ ν : Mem) : Prop := ∀ i : Int, 0 ≤ i → i < 21 → μ 28 i.toNat = ν 70 i.toNat ∧ (ν 70 i.toNat = -4 ∨ 0 ≤ ν 70 i.toNat ∧ ν 70 i.toNat ≤ 2)
def fp_3 (a j : Nat) : Prop := a = 28
def gp_3 (a j : Nat) : Prop := a = 70
def dc_4 (μ ν : Mem) : Prop := ∀ i : Int, 0 ≤ i → i < 21 → μ 29 i.toNat = ν 71 i.toNat ∧ (ν 71 i.toNat = -4 ∨ 0 ≤ ν 71 i.toNat ∧ ν 71 i.toNat ≤ 9)
def fp_4 (a j : Nat) : Prop := a = 29
def gp_4 (a j : Nat) : Prop := a = 71
def dc_5 (μ ν : Mem) : Prop := ∃ b : Nat, μ 27 7 = (b : Int) ∧ b < 2097152 ∧ ∀ i : Nat, i < 21 → (ν 69 i = 0 ∨ ν 69 i = 1) ∧ b.testBit i = decide (ν 69 i = 1)
def fp_5 (a j : Nat) : Prop := a = 27 ∧ j = 7
def gp_5 (a j : Nat) : Prop := a = 69
def dc_6 (μ ν : Mem) : Prop := ∀ i : Int, 0 ≤ i → i < 63 → μ 30 i.toNat = ν 72 i.toNat ∧ 0 ≤ ν 72 i.toNat ∧ ν 72 i.toNat ≤ 9
def fp_6 (a j : Nat) : Prop := a = 30
def gp_6 (a j : Nat) : Prop := a = 72
def dc_7 (μ ν : Mem) : Prop := ∀ i : Int, 0 ≤ i → i < 63 → μ 31 i.toNat = ν 68 (36 + i.toNat) ∧ 0 ≤ ν 68 (36 + i.toNat) ∧ ν 68 (36 + i.toNat) ≤ 99
def fp_7 (a j : Nat) : Prop := a = 31
def gp_7 (a j : Nat) : Prop := a = 68 ∧ 36 ≤ j ∧ j < 99
def dc_8 (μ ν : Mem) : Prop := ∀ i : Int, 1 ≤ i → i < 8 → μ 33 i.toNat = ν 68 (160 + i.toNat) ∧ 0 ≤ ν 68 (160 + i.toNat) ∧ ν 68 (160 + i.toNat) ≤ 60
def fp_8 (a j : Nat) : Prop := a = 33
def gp_8 (a j : Nat) : Prop := a = 68 ∧ 161 ≤ j ∧ j < 168
def dc_9 (μ ν : Mem) : Prop := ∃ f : Nat, μ 27 8 = (f : Int) ∧ f < 2305843009213693952 ∧ ∀ i : Nat, i < 61 → (ν 68 (99 + i) = 0 ∨ ν 68 (99 + i) = 1) ∧ f.testBit i = decide (ν 68 (99 + i) = 1)
def fp_9 (a j : Nat) : Prop := a = 27 ∧ j = 8
def gp_9 (a j : Nat) : Prop := a = 68 ∧ 99 ≤ j ∧ j < 160
def dc_10 (μ ν : Mem) : Prop := μ 25 8 = ν 61 14 ∧ (ν 61 14 = 0 ∨ ν 61 14 = 1)
def fp_10 (a j : Nat) : Prop := a = 25 ∧ j = 8
def gp_10 (a j : Nat) : Prop := a = 61 ∧ j = 14
def dc_11 (μ ν : Mem) : Prop := μ 25 9 = ν 61 15
def fp_11 (a j : Nat) : Prop := a = 25 ∧ j = 9
def gp_11 (a j : Nat) : Prop := a = 61 ∧ j = 15
def dc_12 (μ ν : Mem) : Prop := ∃ b : Nat, μ 25 10 = (b : Int) ∧ b < 9223372036854775808 ∧ ∀ i : Nat, i < 63 → (ν 73 i = 0 ∨ ν 73 i = 1) ∧ b.testBit i = decide (ν 73 i = 1)
def fp_12 (a j : Nat) : Prop := a = 25 ∧ j = 10
def gp_12 (a j : Nat) : Prop := a = 73
def dc_13 (μ ν : Mem) : Prop := (ν 61 16 = -4 ∧ μ 25 11 = 0) ∨ (μ 25 11 = ν 61 16 ∧ 0 ≤ ν 61 16 ∧ ν 61 16 ≤ 20)
def fp_13 (a j : Nat) : Prop := a = 25 ∧ j = 11
def gp_13 (a j : Nat) : Prop := a = 61 ∧ j = 16
def dc_14 (μ ν : Mem) : Prop := ∀ c : Int, 0 ≤ c → c < ν 68 0 → ν 68 (1 + (7 * c + 4).toNat) ≤ μ 25 11 ∧ ν 68 (1 + (7 * c + 5).toNat) ≤ μ 25 11 ∧ ν 68 (1 + (7 * c + 4).toNat) ≠ ν 68 (1 + (7 * c + 5).toNat)
def fp_14 (a j : Nat) : Prop := a = 25 ∧ j = 11
def gp_14 (a j : Nat) : Prop := a = 68 ∧ j ≤ 35
def dc_15 (μ ν : Mem) : Prop := ∀ k : Nat, k < 63 → ν 73 k = 1 → ((k / 3 : Nat) : Int) ≤ μ 25 11
def fp_15 (a j : Nat) : Prop := a = 25 ∧ j = 11
def gp_15 (a j : Nat) : Prop := a = 73
theorem dc_0.keep {μ ν μ' ν' : Mem} (h : ∀ a j, fp_0 a j → μ' a j = μ a j) (g : ∀ a j, gp_0 a j → ν' a j = ν a j) (H : dc_0 μ ν) : dc_0 μ' ν' := by
  unfold dc_0 at H ⊢
  rw [h 27 9 ⟨rfl, rfl⟩, g 61 8 ⟨rfl, rfl⟩]; exact H
theorem dc_1.keep {μ ν μ' ν' : Mem} (h : ∀ a j, fp_1 a j → μ' a j = μ a j) (g : ∀ a j, gp_1 a j → ν' a j = ν a j) (H : dc_1 μ ν) : dc_1 μ' ν' := by
  unfold dc_1 at H ⊢
  have h5 := H.1.1.2
  rw [h 27 10 (Or.inl ⟨rfl, rfl⟩), g 68 0 ⟨rfl, by omega⟩]
  refine ⟨H.1, fun i i1 i2 => ?_⟩
  rw [h 32 _ (Or.inr rfl), g 68 (1 + i.toNat) ⟨rfl, by omega⟩]; exact H.2 i i1 i2
theorem dc_2.keep {μ ν μ' ν' : Mem} (h : ∀ a j, fp_2 a j → μ' a j = μ a j) (g : ∀ a j, gp_2 a j → ν' a j = ν a j) (H : dc_2 μ ν) : dc_2 μ' ν' := by
  unfold dc_2 at H ⊢
  rw [h 27 11 ⟨rfl, rfl⟩, g 68 168 ⟨rfl, rfl⟩]; exact H
theorem dc_3.keep {μ ν μ' ν' : Mem} (h : ∀ a j, fp_3 a j → μ' a j = μ a j) (g : ∀ a j, gp_3 a j → ν' a j = ν a j) (H : dc_3 μ ν) : dc_3 μ' ν' := by
  unfold dc_3 at H ⊢
  intro i i1 i2
  rw [h 28 _ rfl, g 70 _ rfl]; exact H i i1 i2
theorem dc_4.keep {μ ν μ' ν' : Mem} (h : ∀ a j, fp_4 a j → μ' a j = μ a j) (g : ∀ a j, gp_4 a j → ν' a j = ν a j) (H : dc_4 μ ν) : dc_4 μ' ν' := by
  unfold dc_4 at H ⊢
  intro i i1 i2
  rw [h 29 _ rfl, g 71 _ rfl]; exact H i i1 i2
theorem dc_5.keep {μ ν μ' ν' : Mem} (h : ∀ a j, fp_5 a j → μ' a j = μ a j) (g : ∀ a j, gp_5 a j → ν' a j = ν a j) (H : dc_5 μ ν) : dc_5 μ' ν' := by
  unfold dc_5 at H ⊢
  obtain ⟨b, b1, b2, b3⟩ := H
  refine ⟨b, by rw [h 27 7 ⟨rfl, rfl⟩]; exact b1, b2, fun i i1 => ?_⟩
  rw [g 69 _ rfl]; exact b3 i i1
theorem dc_6.keep {μ ν μ' ν' : Mem} (h : ∀ a j, fp_6 a j → μ' a j = μ a j) (g : ∀ a j, gp_6 a j → ν' a j = ν a j) (H : dc_6 μ ν) : dc_6 μ' ν' := by
  unfold dc_6 at H ⊢
  intro i i1 i2
  rw [h 30 _ rfl, g 72 _ rfl]; exact H i i1 i2
theorem dc_7.keep {μ ν μ' ν' : Mem} (h : ∀ a j, fp_7 a j → μ' a j = μ a j) (g : ∀ a j, gp_7 a j → ν' a j = ν a j) (H : dc_7 μ ν) : dc_7 μ' ν' := by
  unfold dc_7 at H ⊢
  intro i i1 i2
  rw [h 31 _ rfl, g 68 (36 + i.toNat) ⟨rfl, by omega, by omega⟩]; exact H i i1 i2
theorem dc_8.keep {μ ν μ' ν' : Mem} (h : ∀ a j, fp_8 a j → μ' a j = μ a j) (g : ∀ a j, gp_8 a j → ν' a j = ν a j) (H : dc_8 μ ν) : dc_8 μ' ν' := by
  unfold dc_8 at H ⊢
  intro i i1 i2
  rw [h 33 _ rfl, g 68 (160 + i.toNat) ⟨rfl, by omega, by omega⟩]; exact H i i1 i2
theorem dc_9.keep {μ ν μ' ν' : Mem} (h : ∀ a j, fp_9 a j → μ' a j = μ a j) (g : ∀ a j, gp_9 a j → ν' a j = ν a j) (H : dc_9 μ ν) : dc_9 μ' ν' := by
  unfold dc_9 at H ⊢
  obtain ⟨b, b1, b2, b3⟩ := H
  refine ⟨b, by rw [h 27 8 ⟨rfl, rfl⟩]; exact b1, b2, fun i i1 => ?_⟩
  rw [g 68 (99 + i) ⟨rfl, by omega, by omega⟩]; exact b3 i i1
theorem dc_10.keep {μ ν μ' ν' : Mem} (h : ∀ a j, fp_10 a j → μ' a j = μ a j) (g : ∀ a j, gp_10 a j → ν' a j = ν a j) (H : dc_10 μ ν) : dc_10 μ' ν' := by
  unfold dc_10 at H ⊢
  rw [h 25 8 ⟨rfl, rfl⟩, g 61 14 ⟨rfl, rfl⟩]; exact H
theorem dc_11.keep {μ ν μ' ν' : Mem} (h : ∀ a j, fp_11 a j → μ' a j = μ a j) (g : ∀ a j, gp_11 a j → ν' a j = ν a j) (H : dc_11 μ ν) : dc_11 μ' ν' := by
  unfold dc_11 at H ⊢
  rw [h 25 9 ⟨rfl, rfl⟩, g 61 15 ⟨rfl, rfl⟩]; exact H
theorem dc_12.keep {μ ν μ' ν' : Mem} (h : ∀ a j, fp_12 a j → μ' a j = μ a j) (g : ∀ a j, gp_12 a j → ν' a j = ν a j) (H : dc_12 μ ν) : dc_12 μ' ν' := by
  unfold dc_12 at H ⊢
  obtain ⟨b, b1, b2, b3⟩ := H
  refine ⟨b, by rw [h 25 10 ⟨rfl, rfl⟩]; exact b1, b2, fun i i1 => ?_⟩
  rw [g 73 _ rfl]; exact b3 i i1
theorem dc_13.keep {μ ν μ' ν' : Mem} (h : ∀ a j, fp_13 a j → μ' a j = μ a j) (g : ∀ a j, gp_13 a j → ν' a j = ν a j) (H : dc_13 μ ν) : dc_13 μ' ν' := by
  unfold dc_13 at H ⊢
  rw [h 25 11 ⟨rfl, rfl⟩, g 61 16 ⟨rfl, rfl⟩]; exact H
theorem dc_14.keep {μ ν μ' ν' : Mem} (h5 : ν 68 0 ≤ 5) (h : ∀ a j, fp_14 a j → μ' a j = μ a j) (g : ∀ a j, gp_14 a j → ν' a j = ν a j) (H : dc_14 μ ν) : dc_14 μ' ν' := by
  unfold dc_14 at H ⊢
  rw [h 25 11 ⟨rfl, rfl⟩, g 68 0 ⟨rfl, by omega⟩]
  intro c c1 c2
  rw [g 68 (1 + (7 * c + 4).toNat) ⟨rfl, by omega⟩, g 68 (1 + (7 * c + 5).toNat) ⟨rfl, by omega⟩]; exact H c c1 c2
theorem dc_15.keep {μ ν μ' ν' : Mem} (h : ∀ a j, fp_15 a j → μ' a j = μ a j) (g : ∀ a j, gp_15 a j → ν' a j = ν a j) (H : dc_15 μ ν) : dc_15 μ' ν' := by
  unfold dc_15 at H ⊢
  intro k k1 k2
  rw [g 73 k rfl] at k2
  rw [h 25 11 ⟨rfl, rfl⟩]; exact H k k1 k2
def DD (μ ν : Mem) : Prop := dc_0 μ ν ∧ dc_1 μ ν ∧ dc_2 μ ν ∧ dc_3 μ ν ∧ dc_4 μ ν ∧ dc_5 μ ν ∧ dc_6 μ ν ∧ dc_7 μ ν ∧ dc_8 μ ν ∧ dc_9 μ ν ∧ dc_10 μ ν ∧ dc_11 μ ν ∧ dc_12 μ ν ∧ dc_13 μ ν ∧ dc_14 μ ν ∧ dc_15 μ ν
theorem DD.d0 {μ ν : Mem} (H : DD μ ν) : dc_0 μ ν := H.1
theorem DD.d1 {μ ν : Mem} (H : DD μ ν) : dc_1 μ ν := H.2.1
theorem DD.d2 {μ ν : Mem} (H : DD μ ν) : dc_2 μ ν := H.2.2.1
theorem DD.d3 {μ ν : Mem} (H : DD μ ν) : dc_3 μ ν := H.2.2.2.1
theorem DD.d4 {μ ν : Mem} (H : DD μ ν) : dc_4 μ ν := H.2.2.2.2.1
theorem DD.d5 {μ ν : Mem} (H : DD μ ν) : dc_5 μ ν := H.2.2.2.2.2.1
theorem DD.d6 {μ ν : Mem} (H : DD μ ν) : dc_6 μ ν := H.2.2.2.2.2.2.1
theorem DD.d7 {μ ν : Mem} (H : DD μ ν) : dc_7 μ ν := H.2.2.2.2.2.2.2.1
theorem DD.d8 {μ ν : Mem} (H : DD μ ν) : dc_8 μ ν := H.2.2.2.2.2.2.2.2.1
theorem DD.d9 {μ ν : Mem} (H : DD μ ν) : dc_9 μ ν := H.2.2.2.2.2.2.2.2.2.1
theorem DD.d10 {μ ν : Mem} (H : DD μ ν) : dc_10 μ ν := H.2.2.2.2.2.2.2.2.2.2.1
theorem DD.d11 {μ ν : Mem} (H : DD μ ν) : dc_11 μ ν := H.2.2.2.2.2.2.2.2.2.2.2.1
theorem DD.d12 {μ ν : Mem} (H : DD μ ν) : dc_12 μ ν := H.2.2.2.2.2.2.2.2.2.2.2.2.1
theorem DD.d13 {μ ν : Mem} (H : DD μ ν) : dc_13 μ ν := H.2.2.2.2.2.2.2.2.2.2.2.2.2.1
theorem DD.d14 {μ ν : Mem} (H : DD μ ν) : dc_14 μ ν := H.2.2.2.2.2.2.2.2.2.2.2.2.2.2.1
theorem DD.d15 {μ ν : Mem} (H : DD μ ν) : dc_15 μ ν := H.2.2.2.2.2.2.2.2.2.2.2.2.2.2.2
def Kp (P Q : Nat → Nat → Prop) (f g : Nat → Nat → Prop) : Prop := (∀ a j, f a j → ¬ P a j) ∧ (∀ a j, g a j → ¬ Q a j)
theorem dc_0.off {P Q : Nat → Nat → Prop} {μ ν μ' ν' : Mem} (hc : Off P μ μ') (hm : Off Q ν ν') (hk : Kp P Q fp_0 gp_0) (H : dc_0 μ ν) : dc_0 μ' ν' := dc_0.keep (fun a j q => hc a j (hk.1 a j q)) (fun a j q => hm a j (hk.2 a j q)) H
theorem dc_1.off {P Q : Nat → Nat → Prop} {μ ν μ' ν' : Mem} (hc : Off P μ μ') (hm : Off Q ν ν') (hk : Kp P Q fp_1 gp_1) (H : dc_1 μ ν) : dc_1 μ' ν' := dc_1.keep (fun a j q => hc a j (hk.1 a j q)) (fun a j q => hm a j (hk.2 a j q)) H
theorem dc_2.off {P Q : Nat → Nat → Prop} {μ ν μ' ν' : Mem} (hc : Off P μ μ') (hm : Off Q ν ν') (hk : Kp P Q fp_2 gp_2) (H : dc_2 μ ν) : dc_2 μ' ν' := dc_2.keep (fun a j q => hc a j (hk.1 a j q)) (fun a j q => hm a j (hk.2 a j q)) H
theorem dc_3.off {P Q : Nat → Nat → Prop} {μ ν μ' ν' : Mem} (hc : Off P μ μ') (hm : Off Q ν ν') (hk : Kp P Q fp_3 gp_3) (H : dc_3 μ ν) : dc_3 μ' ν' := dc_3.keep (fun a j q => hc a j (hk.1 a j q)) (fun a j q => hm a j (hk.2 a j q)) H
theorem dc_4.off {P Q : Nat → Nat → Prop} {μ ν μ' ν' : Mem} (hc : Off P μ μ') (hm : Off Q ν ν') (hk : Kp P Q fp_4 gp_4) (H : dc_4 μ ν) : dc_4 μ' ν' := dc_4.keep (fun a j q => hc a j (hk.1 a j q)) (fun a j q => hm a j (hk.2 a j q)) H
theorem dc_5.off {P Q : Nat → Nat → Prop} {μ ν μ' ν' : Mem} (hc : Off P μ μ') (hm : Off Q ν ν') (hk : Kp P Q fp_5 gp_5) (H : dc_5 μ ν) : dc_5 μ' ν' := dc_5.keep (fun a j q => hc a j (hk.1 a j q)) (fun a j q => hm a j (hk.2 a j q)) H
theorem dc_6.off {P Q : Nat → Nat → Prop} {μ ν μ' ν' : Mem} (hc : Off P μ μ') (hm : Off Q ν ν') (hk : Kp P Q fp_6 gp_6) (H : dc_6 μ ν) : dc_6 μ' ν' := dc_6.keep (fun a j q => hc a j (hk.1 a j q)) (fun a j q => hm a j (hk.2 a j q)) H
theorem dc_7.off {P Q : Nat → Nat → Prop} {μ ν μ' ν' : Mem} (hc : Off P μ μ') (hm : Off Q ν ν') (hk : Kp P Q fp_7 gp_7) (H : dc_7 μ ν) : dc_7 μ' ν' := dc_7.keep (fun a j q => hc a j (hk.1 a j q)) (fun a j q => hm a j (hk.2 a j q)) H
theorem dc_8.off {P Q : Nat → Nat → Prop} {μ ν μ' ν' : Mem} (hc : Off P μ μ') (hm : Off Q ν ν') (hk : Kp P Q fp_8 gp_8) (H : dc_8 μ ν) : dc_8 μ' ν' := dc_8.keep (fun a j q => hc a j (hk.1 a j q)) (fun a j q => hm a j (hk.2 a j q)) H
theorem dc_9.off {P Q : Nat → Nat → Prop} {μ ν μ' ν' : Mem} (hc : Off P μ μ') (hm : Off Q ν ν') (hk : Kp P Q fp_9 gp_9) (H : dc_9 μ ν) : dc_9 μ' ν' := dc_9.keep (fun a j q => hc a j (hk.1 a j q)) (fun a j q => hm a j (hk.2 a j q)) H
theorem dc_10.off {P Q : Nat → Nat → Prop} {μ ν μ' ν' : Mem} (hc : Off P μ μ') (hm : Off Q ν ν') (hk : Kp P Q fp_10 gp_10) (H : dc_10 μ ν) : dc_10 μ' ν' := dc_10.keep (fun a j q => hc a j (hk.1 a j q)) (fun a j q => hm a j (hk.2 a j q)) H
theorem dc_11.off {P Q : Nat → Nat → Prop} {μ ν μ' ν' : Mem} (hc : Off P μ μ') (hm : Off Q ν ν') (hk : Kp P Q fp_11 gp_11) (H : dc_11 μ ν) : dc_11 μ' ν' := dc_11.keep (fun a j q => hc a j (hk.1 a j q)) (fun a j q => hm a j (hk.2 a j q)) H
theorem dc_12.off {P Q : Nat → Nat → Prop} {μ ν μ' ν' : Mem} (hc : Off P μ μ') (hm : Off Q ν ν') (hk : Kp P Q fp_12 gp_12) (H : dc_12 μ ν) : dc_12 μ' ν' := dc_12.keep (fun a j q => hc a j (hk.1 a j q)) (fun a j q => hm a j (hk.2 a j q)) H
theorem dc_13.off {P Q : Nat → Nat → Prop} {μ ν μ' ν' : Mem} (hc : Off P μ μ') (hm : Off Q ν ν') (hk : Kp P Q fp_13 gp_13) (H : dc_13 μ ν) : dc_13 μ' ν' := dc_13.keep (fun a j q => hc a j (hk.1 a j q)) (fun a j q => hm a j (hk.2 a j q)) H
theorem dc_14.off {P Q : Nat → Nat → Prop} {μ ν μ' ν' : Mem} (h5 : ν 68 0 ≤ 5) (hc : Off P μ μ') (hm : Off Q ν ν') (hk : Kp P Q fp_14 gp_14) (H : dc_14 μ ν) : dc_14 μ' ν' := dc_14.keep h5 (fun a j q => hc a j (hk.1 a j q)) (fun a j q => hm a j (hk.2 a j q)) H
theorem dc_15.off {P Q : Nat → Nat → Prop} {μ ν μ' ν' : Mem} (hc : Off P μ μ') (hm : Off Q ν ν') (hk : Kp P Q fp_15 gp_15) (H : dc_15 μ ν) : dc_15 μ' ν' := dc_15.keep (fun a j q => hc a j (hk.1 a j q)) (fun a j q => hm a j (hk.2 a j q)) H
