/-! ===== text: lines ===== -/
def P_lst (a j : Nat) : Prop := a = 25 ∧ 3 ≤ j ∧ j ≤ 7 ∨ a = 25 ∧ j = 8 ∨ a = 27 ∧ j = 9
def Q_lst (a j : Nat) : Prop := a = 61 ∧ 19 ≤ j ∧ j ≤ 24 ∨ a = 61 ∧ (j = 8 ∨ j = 14)
theorem DD.ulst {μ ν μ' ν' : Mem} (hc : Off P_lst μ μ') (hm : Off Q_lst ν ν') (n0 : dc_0 μ' ν') (n10 : dc_10 μ' ν') (H : DD μ ν) : DD μ' ν' := ⟨n0, dc_1.off hc hm ⟨fun a j q => by unfold fp_1 at q; unfold P_lst; omega, fun a j q => by unfold gp_1 at q; unfold Q_lst; omega⟩ H.d1, dc_2.off hc hm ⟨fun a j q => by unfold fp_2 at q; unfold P_lst; omega, fun a j q => by unfold gp_2 at q; unfold Q_lst; omega⟩ H.d2, dc_3.off hc hm ⟨fun a j q => by unfold fp_3 at q; unfold P_lst; omega, fun a j q => by unfold gp_3 at q; unfold Q_lst; omega⟩ H.d3, dc_4.off hc hm ⟨fun a j q => by unfold fp_4 at q; unfold P_lst; omega, fun a j q => by unfold gp_4 at q; unfold Q_lst; omega⟩ H.d4, dc_5.off hc hm ⟨fun a j q => by unfold fp_5 at q; unfold P_lst; omega, fun a j q => by unfold gp_5 at q; unfold Q_lst; omega⟩ H.d5, dc_6.off hc hm ⟨fun a j q => by unfold fp_6 at q; unfold P_lst; omega, fun a j q => by unfold gp_6 at q; unfold Q_lst; omega⟩ H.d6, dc_7.off hc hm ⟨fun a j q => by unfold fp_7 at q; unfold P_lst; omega, fun a j q => by unfold gp_7 at q; unfold Q_lst; omega⟩ H.d7, dc_8.off hc hm ⟨fun a j q => by unfold fp_8 at q; unfold P_lst; omega, fun a j q => by unfold gp_8 at q; unfold Q_lst; omega⟩ H.d8, dc_9.off hc hm ⟨fun a j q => by unfold fp_9 at q; unfold P_lst; omega, fun a j q => by unfold gp_9 at q; unfold Q_lst; omega⟩ H.d9, n10, dc_11.off hc hm ⟨fun a j q => by unfold fp_11 at q; unfold P_lst; omega, fun a j q => by unfold gp_11 at q; unfold Q_lst; omega⟩ H.d11, dc_12.off hc hm ⟨fun a j q => by unfold fp_12 at q; unfold P_lst; omega, fun a j q => by unfold gp_12 at q; unfold Q_lst; omega⟩ H.d12, dc_13.off hc hm ⟨fun a j q => by unfold fp_13 at q; unfold P_lst; omega, fun a j q => by unfold gp_13 at q; unfold Q_lst; omega⟩ H.d13, dc_14.off H.d1.1.1.2 hc hm ⟨fun a j q => by unfold fp_14 at q; unfold P_lst; omega, fun a j q => by unfold gp_14 at q; unfold Q_lst; omega⟩ H.d14, dc_15.off hc hm ⟨fun a j q => by unfold fp_15 at q; unfold P_lst; omega, fun a j q => by unfold gp_15 at q; unfold Q_lst; omega⟩ H.d15⟩
def P_bog (a j : Nat) : Prop := a = 27 ∧ j = 7
def Q_bog (a j : Nat) : Prop := a = 69
theorem DD.ubog {μ ν μ' ν' : Mem} (hc : Off P_bog μ μ') (hm : Off Q_bog ν ν') (n5 : dc_5 μ' ν') (H : DD μ ν) : DD μ' ν' := ⟨dc_0.off hc hm ⟨fun a j q => by unfold fp_0 at q; unfold P_bog; omega, fun a j q => by unfold gp_0 at q; unfold Q_bog; omega⟩ H.d0, dc_1.off hc hm ⟨fun a j q => by unfold fp_1 at q; unfold P_bog; omega, fun a j q => by unfold gp_1 at q; unfold Q_bog; omega⟩ H.d1, dc_2.off hc hm ⟨fun a j q => by unfold fp_2 at q; unfold P_bog; omega, fun a j q => by unfold gp_2 at q; unfold Q_bog; omega⟩ H.d2, dc_3.off hc hm ⟨fun a j q => by unfold fp_3 at q; unfold P_bog; omega, fun a j q => by unfold gp_3 at q; unfold Q_bog; omega⟩ H.d3, dc_4.off hc hm ⟨fun a j q => by unfold fp_4 at q; unfold P_bog; omega, fun a j q => by unfold gp_4 at q; unfold Q_bog; omega⟩ H.d4, n5, dc_6.off hc hm ⟨fun a j q => by unfold fp_6 at q; unfold P_bog; omega, fun a j q => by unfold gp_6 at q; unfold Q_bog; omega⟩ H.d6, dc_7.off hc hm ⟨fun a j q => by unfold fp_7 at q; unfold P_bog; omega, fun a j q => by unfold gp_7 at q; unfold Q_bog; omega⟩ H.d7, dc_8.off hc hm ⟨fun a j q => by unfold fp_8 at q; unfold P_bog; omega, fun a j q => by unfold gp_8 at q; unfold Q_bog; omega⟩ H.d8, dc_9.off hc hm ⟨fun a j q => by unfold fp_9 at q; unfold P_bog; omega, fun a j q => by unfold gp_9 at q; unfold Q_bog; omega⟩ H.d9, dc_10.off hc hm ⟨fun a j q => by unfold fp_10 at q; unfold P_bog; omega, fun a j q => by unfold gp_10 at q; unfold Q_bog; omega⟩ H.d10, dc_11.off hc hm ⟨fun a j q => by unfold fp_11 at q; unfold P_bog; omega, fun a j q => by unfold gp_11 at q; unfold Q_bog; omega⟩ H.d11, dc_12.off hc hm ⟨fun a j q => by unfold fp_12 at q; unfold P_bog; omega, fun a j q => by unfold gp_12 at q; unfold Q_bog; omega⟩ H.d12, dc_13.off hc hm ⟨fun a j q => by unfold fp_13 at q; unfold P_bog; omega, fun a j q => by unfold gp_13 at q; unfold Q_bog; omega⟩ H.d13, dc_14.off H.d1.1.1.2 hc hm ⟨fun a j q => by unfold fp_14 at q; unfold P_bog; omega, fun a j q => by unfold gp_14 at q; unfold Q_bog; omega⟩ H.d14, dc_15.off hc hm ⟨fun a j q => by unfold fp_15 at q; unfold P_bog; omega, fun a j q => by unfold gp_15 at q; unfold Q_bog; omega⟩ H.d15⟩
def P_hil (a j : Nat) : Prop := a = 28
def Q_hil (a j : Nat) : Prop := a = 70
theorem DD.uhil {μ ν μ' ν' : Mem} (hc : Off P_hil μ μ') (hm : Off Q_hil ν ν') (n3 : dc_3 μ' ν') (H : DD μ ν) : DD μ' ν' := ⟨dc_0.off hc hm ⟨fun a j q => by unfold fp_0 at q; unfold P_hil; omega, fun a j q => by unfold gp_0 at q; unfold Q_hil; omega⟩ H.d0, dc_1.off hc hm ⟨fun a j q => by unfold fp_1 at q; unfold P_hil; omega, fun a j q => by unfold gp_1 at q; unfold Q_hil; omega⟩ H.d1, dc_2.off hc hm ⟨fun a j q => by unfold fp_2 at q; unfold P_hil; omega, fun a j q => by unfold gp_2 at q; unfold Q_hil; omega⟩ H.d2, n3, dc_4.off hc hm ⟨fun a j q => by unfold fp_4 at q; unfold P_hil; omega, fun a j q => by unfold gp_4 at q; unfold Q_hil; omega⟩ H.d4, dc_5.off hc hm ⟨fun a j q => by unfold fp_5 at q; unfold P_hil; omega, fun a j q => by unfold gp_5 at q; unfold Q_hil; omega⟩ H.d5, dc_6.off hc hm ⟨fun a j q => by unfold fp_6 at q; unfold P_hil; omega, fun a j q => by unfold gp_6 at q; unfold Q_hil; omega⟩ H.d6, dc_7.off hc hm ⟨fun a j q => by unfold fp_7 at q; unfold P_hil; omega, fun a j q => by unfold gp_7 at q; unfold Q_hil; omega⟩ H.d7, dc_8.off hc hm ⟨fun a j q => by unfold fp_8 at q; unfold P_hil; omega, fun a j q => by unfold gp_8 at q; unfold Q_hil; omega⟩ H.d8, dc_9.off hc hm ⟨fun a j q => by unfold fp_9 at q; unfold P_hil; omega, fun a j q => by unfold gp_9 at q; unfold Q_hil; omega⟩ H.d9, dc_10.off hc hm ⟨fun a j q => by unfold fp_10 at q; unfold P_hil; omega, fun a j q => by unfold gp_10 at q; unfold Q_hil; omega⟩ H.d10, dc_11.off hc hm ⟨fun a j q => by unfold fp_11 at q; unfold P_hil; omega, fun a j q => by unfold gp_11 at q; unfold Q_hil; omega⟩ H.d11, dc_12.off hc hm ⟨fun a j q => by unfold fp_12 at q; unfold P_hil; omega, fun a j q => by unfold gp_12 at q; unfold Q_hil; omega⟩ H.d12, dc_13.off hc hm ⟨fun a j q => by unfold fp_13 at q; unfold P_hil; omega, fun a j q => by unfold gp_13 at q; unfold Q_hil; omega⟩ H.d13, dc_14.off H.d1.1.1.2 hc hm ⟨fun a j q => by unfold fp_14 at q; unfold P_hil; omega, fun a j q => by unfold gp_14 at q; unfold Q_hil; omega⟩ H.d14, dc_15.off hc hm ⟨fun a j q => by unfold fp_15 at q; unfold P_hil; omega, fun a j q => by unfold gp_15 at q; unfold Q_hil; omega⟩ H.d15⟩
def P_smi (a j : Nat) : Prop := a = 29
def Q_smi (a j : Nat) : Prop := a = 71
theorem DD.usmi {μ ν μ' ν' : Mem} (hc : Off P_smi μ μ') (hm : Off Q_smi ν ν') (n4 : dc_4 μ' ν') (H : DD μ ν) : DD μ' ν' := ⟨dc_0.off hc hm ⟨fun a j q => by unfold fp_0 at q; unfold P_smi; omega, fun a j q => by unfold gp_0 at q; unfold Q_smi; omega⟩ H.d0, dc_1.off hc hm ⟨fun a j q => by unfold fp_1 at q; unfold P_smi; omega, fun a j q => by unfold gp_1 at q; unfold Q_smi; omega⟩ H.d1, dc_2.off hc hm ⟨fun a j q => by unfold fp_2 at q; unfold P_smi; omega, fun a j q => by unfold gp_2 at q; unfold Q_smi; omega⟩ H.d2, dc_3.off hc hm ⟨fun a j q => by unfold fp_3 at q; unfold P_smi; omega, fun a j q => by unfold gp_3 at q; unfold Q_smi; omega⟩ H.d3, n4, dc_5.off hc hm ⟨fun a j q => by unfold fp_5 at q; unfold P_smi; omega, fun a j q => by unfold gp_5 at q; unfold Q_smi; omega⟩ H.d5, dc_6.off hc hm ⟨fun a j q => by unfold fp_6 at q; unfold P_smi; omega, fun a j q => by unfold gp_6 at q; unfold Q_smi; omega⟩ H.d6, dc_7.off hc hm ⟨fun a j q => by unfold fp_7 at q; unfold P_smi; omega, fun a j q => by unfold gp_7 at q; unfold Q_smi; omega⟩ H.d7, dc_8.off hc hm ⟨fun a j q => by unfold fp_8 at q; unfold P_smi; omega, fun a j q => by unfold gp_8 at q; unfold Q_smi; omega⟩ H.d8, dc_9.off hc hm ⟨fun a j q => by unfold fp_9 at q; unfold P_smi; omega, fun a j q => by unfold gp_9 at q; unfold Q_smi; omega⟩ H.d9, dc_10.off hc hm ⟨fun a j q => by unfold fp_10 at q; unfold P_smi; omega, fun a j q => by unfold gp_10 at q; unfold Q_smi; omega⟩ H.d10, dc_11.off hc hm ⟨fun a j q => by unfold fp_11 at q; unfold P_smi; omega, fun a j q => by unfold gp_11 at q; unfold Q_smi; omega⟩ H.d11, dc_12.off hc hm ⟨fun a j q => by unfold fp_12 at q; unfold P_smi; omega, fun a j q => by unfold gp_12 at q; unfold Q_smi; omega⟩ H.d12, dc_13.off hc hm ⟨fun a j q => by unfold fp_13 at q; unfold P_smi; omega, fun a j q => by unfold gp_13 at q; unfold Q_smi; omega⟩ H.d13, dc_14.off H.d1.1.1.2 hc hm ⟨fun a j q => by unfold fp_14 at q; unfold P_smi; omega, fun a j q => by unfold gp_14 at q; unfold Q_smi; omega⟩ H.d14, dc_15.off hc hm ⟨fun a j q => by unfold fp_15 at q; unfold P_smi; omega, fun a j q => by unfold gp_15 at q; unfold Q_smi; omega⟩ H.d15⟩
def P_tol (a j : Nat) : Prop := a = 30
def Q_tol (a j : Nat) : Prop := a = 72
theorem DD.utol {μ ν μ' ν' : Mem} (hc : Off P_tol μ μ') (hm : Off Q_tol ν ν') (n6 : dc_6 μ' ν') (H : DD μ ν) : DD μ' ν' := ⟨dc_0.off hc hm ⟨fun a j q => by unfold fp_0 at q; unfold P_tol; omega, fun a j q => by unfold gp_0 at q; unfold Q_tol; omega⟩ H.d0, dc_1.off hc hm ⟨fun a j q => by unfold fp_1 at q; unfold P_tol; omega, fun a j q => by unfold gp_1 at q; unfold Q_tol; omega⟩ H.d1, dc_2.off hc hm ⟨fun a j q => by unfold fp_2 at q; unfold P_tol; omega, fun a j q => by unfold gp_2 at q; unfold Q_tol; omega⟩ H.d2, dc_3.off hc hm ⟨fun a j q => by unfold fp_3 at q; unfold P_tol; omega, fun a j q => by unfold gp_3 at q; unfold Q_tol; omega⟩ H.d3, dc_4.off hc hm ⟨fun a j q => by unfold fp_4 at q; unfold P_tol; omega, fun a j q => by unfold gp_4 at q; unfold Q_tol; omega⟩ H.d4, dc_5.off hc hm ⟨fun a j q => by unfold fp_5 at q; unfold P_tol; omega, fun a j q => by unfold gp_5 at q; unfold Q_tol; omega⟩ H.d5, n6, dc_7.off hc hm ⟨fun a j q => by unfold fp_7 at q; unfold P_tol; omega, fun a j q => by unfold gp_7 at q; unfold Q_tol; omega⟩ H.d7, dc_8.off hc hm ⟨fun a j q => by unfold fp_8 at q; unfold P_tol; omega, fun a j q => by unfold gp_8 at q; unfold Q_tol; omega⟩ H.d8, dc_9.off hc hm ⟨fun a j q => by unfold fp_9 at q; unfold P_tol; omega, fun a j q => by unfold gp_9 at q; unfold Q_tol; omega⟩ H.d9, dc_10.off hc hm ⟨fun a j q => by unfold fp_10 at q; unfold P_tol; omega, fun a j q => by unfold gp_10 at q; unfold Q_tol; omega⟩ H.d10, dc_11.off hc hm ⟨fun a j q => by unfold fp_11 at q; unfold P_tol; omega, fun a j q => by unfold gp_11 at q; unfold Q_tol; omega⟩ H.d11, dc_12.off hc hm ⟨fun a j q => by unfold fp_12 at q; unfold P_tol; omega, fun a j q => by unfold gp_12 at q; unfold Q_tol; omega⟩ H.d12, dc_13.off hc hm ⟨fun a j q => by unfold fp_13 at q; unfold P_tol; omega, fun a j q => by unfold gp_13 at q; unfold Q_tol; omega⟩ H.d13, dc_14.off H.d1.1.1.2 hc hm ⟨fun a j q => by unfold fp_14 at q; unfold P_tol; omega, fun a j q => by unfold gp_14 at q; unfold Q_tol; omega⟩ H.d14, dc_15.off hc hm ⟨fun a j q => by unfold fp_15 at q; unfold P_tol; omega, fun a j q => by unfold gp_15 at q; unfold Q_tol; omega⟩ H.d15⟩
def P_rut (a j : Nat) : Prop := a = 31 ∨ a = 25 ∧ j = 10
def Q_rut (a j : Nat) : Prop := a = 68 ∧ 36 ≤ j ∧ j < 99 ∨ a = 73
theorem DD.urut {μ ν μ' ν' : Mem} (hc : Off P_rut μ μ') (hm : Off Q_rut ν ν') (n7 : dc_7 μ' ν') (n12 : dc_12 μ' ν') (n15 : dc_15 μ' ν') (H : DD μ ν) : DD μ' ν' := ⟨dc_0.off hc hm ⟨fun a j q => by unfold fp_0 at q; unfold P_rut; omega, fun a j q => by unfold gp_0 at q; unfold Q_rut; omega⟩ H.d0, dc_1.off hc hm ⟨fun a j q => by unfold fp_1 at q; unfold P_rut; omega, fun a j q => by unfold gp_1 at q; unfold Q_rut; omega⟩ H.d1, dc_2.off hc hm ⟨fun a j q => by unfold fp_2 at q; unfold P_rut; omega, fun a j q => by unfold gp_2 at q; unfold Q_rut; omega⟩ H.d2, dc_3.off hc hm ⟨fun a j q => by unfold fp_3 at q; unfold P_rut; omega, fun a j q => by unfold gp_3 at q; unfold Q_rut; omega⟩ H.d3, dc_4.off hc hm ⟨fun a j q => by unfold fp_4 at q; unfold P_rut; omega, fun a j q => by unfold gp_4 at q; unfold Q_rut; omega⟩ H.d4, dc_5.off hc hm ⟨fun a j q => by unfold fp_5 at q; unfold P_rut; omega, fun a j q => by unfold gp_5 at q; unfold Q_rut; omega⟩ H.d5, dc_6.off hc hm ⟨fun a j q => by unfold fp_6 at q; unfold P_rut; omega, fun a j q => by unfold gp_6 at q; unfold Q_rut; omega⟩ H.d6, n7, dc_8.off hc hm ⟨fun a j q => by unfold fp_8 at q; unfold P_rut; omega, fun a j q => by unfold gp_8 at q; unfold Q_rut; omega⟩ H.d8, dc_9.off hc hm ⟨fun a j q => by unfold fp_9 at q; unfold P_rut; omega, fun a j q => by unfold gp_9 at q; unfold Q_rut; omega⟩ H.d9, dc_10.off hc hm ⟨fun a j q => by unfold fp_10 at q; unfold P_rut; omega, fun a j q => by unfold gp_10 at q; unfold Q_rut; omega⟩ H.d10, dc_11.off hc hm ⟨fun a j q => by unfold fp_11 at q; unfold P_rut; omega, fun a j q => by unfold gp_11 at q; unfold Q_rut; omega⟩ H.d11, n12, dc_13.off hc hm ⟨fun a j q => by unfold fp_13 at q; unfold P_rut; omega, fun a j q => by unfold gp_13 at q; unfold Q_rut; omega⟩ H.d13, dc_14.off H.d1.1.1.2 hc hm ⟨fun a j q => by unfold fp_14 at q; unfold P_rut; omega, fun a j q => by unfold gp_14 at q; unfold Q_rut; omega⟩ H.d14, n15⟩
def P_fro (a j : Nat) : Prop := a = 27 ∧ j = 8
def Q_fro (a j : Nat) : Prop := a = 68 ∧ 99 ≤ j ∧ j < 160
theorem DD.ufro {μ ν μ' ν' : Mem} (hc : Off P_fro μ μ') (hm : Off Q_fro ν ν') (n9 : dc_9 μ' ν') (H : DD μ ν) : DD μ' ν' := ⟨dc_0.off hc hm ⟨fun a j q => by unfold fp_0 at q; unfold P_fro; omega, fun a j q => by unfold gp_0 at q; unfold Q_fro; omega⟩ H.d0, dc_1.off hc hm ⟨fun a j q => by unfold fp_1 at q; unfold P_fro; omega, fun a j q => by unfold gp_1 at q; unfold Q_fro; omega⟩ H.d1, dc_2.off hc hm ⟨fun a j q => by unfold fp_2 at q; unfold P_fro; omega, fun a j q => by unfold gp_2 at q; unfold Q_fro; omega⟩ H.d2, dc_3.off hc hm ⟨fun a j q => by unfold fp_3 at q; unfold P_fro; omega, fun a j q => by unfold gp_3 at q; unfold Q_fro; omega⟩ H.d3, dc_4.off hc hm ⟨fun a j q => by unfold fp_4 at q; unfold P_fro; omega, fun a j q => by unfold gp_4 at q; unfold Q_fro; omega⟩ H.d4, dc_5.off hc hm ⟨fun a j q => by unfold fp_5 at q; unfold P_fro; omega, fun a j q => by unfold gp_5 at q; unfold Q_fro; omega⟩ H.d5, dc_6.off hc hm ⟨fun a j q => by unfold fp_6 at q; unfold P_fro; omega, fun a j q => by unfold gp_6 at q; unfold Q_fro; omega⟩ H.d6, dc_7.off hc hm ⟨fun a j q => by unfold fp_7 at q; unfold P_fro; omega, fun a j q => by unfold gp_7 at q; unfold Q_fro; omega⟩ H.d7, dc_8.off hc hm ⟨fun a j q => by unfold fp_8 at q; unfold P_fro; omega, fun a j q => by unfold gp_8 at q; unfold Q_fro; omega⟩ H.d8, n9, dc_10.off hc hm ⟨fun a j q => by unfold fp_10 at q; unfold P_fro; omega, fun a j q => by unfold gp_10 at q; unfold Q_fro; omega⟩ H.d10, dc_11.off hc hm ⟨fun a j q => by unfold fp_11 at q; unfold P_fro; omega, fun a j q => by unfold gp_11 at q; unfold Q_fro; omega⟩ H.d11, dc_12.off hc hm ⟨fun a j q => by unfold fp_12 at q; unfold P_fro; omega, fun a j q => by unfold gp_12 at q; unfold Q_fro; omega⟩ H.d12, dc_13.off hc hm ⟨fun a j q => by unfold fp_13 at q; unfold P_fro; omega, fun a j q => by unfold gp_13 at q; unfold Q_fro; omega⟩ H.d13, dc_14.off H.d1.1.1.2 hc hm ⟨fun a j q => by unfold fp_14 at q; unfold P_fro; omega, fun a j q => by unfold gp_14 at q; unfold Q_fro; omega⟩ H.d14, dc_15.off hc hm ⟨fun a j q => by unfold fp_15 at q; unfold P_fro; omega, fun a j q => by unfold gp_15 at q; unfold Q_fro; omega⟩ H.d15⟩
def P_cst (a j : Nat) : Prop := a = 25 ∧ 3 ≤ j ∧ j ≤ 7 ∨ a = 33 ∨ a = 25 ∧ j = 9
def Q_cst (a j : Nat) : Prop := a = 61 ∧ 19 ≤ j ∧ j ≤ 24 ∨ a = 61 ∧ j = 15 ∨ a = 68 ∧ 161 ≤ j ∧ j < 168
theorem DD.ucst {μ ν μ' ν' : Mem} (hc : Off P_cst μ μ') (hm : Off Q_cst ν ν') (n8 : dc_8 μ' ν') (n11 : dc_11 μ' ν') (H : DD μ ν) : DD μ' ν' := ⟨dc_0.off hc hm ⟨fun a j q => by unfold fp_0 at q; unfold P_cst; omega, fun a j q => by unfold gp_0 at q; unfold Q_cst; omega⟩ H.d0, dc_1.off hc hm ⟨fun a j q => by unfold fp_1 at q; unfold P_cst; omega, fun a j q => by unfold gp_1 at q; unfold Q_cst; omega⟩ H.d1, dc_2.off hc hm ⟨fun a j q => by unfold fp_2 at q; unfold P_cst; omega, fun a j q => by unfold gp_2 at q; unfold Q_cst; omega⟩ H.d2, dc_3.off hc hm ⟨fun a j q => by unfold fp_3 at q; unfold P_cst; omega, fun a j q => by unfold gp_3 at q; unfold Q_cst; omega⟩ H.d3, dc_4.off hc hm ⟨fun a j q => by unfold fp_4 at q; unfold P_cst; omega, fun a j q => by unfold gp_4 at q; unfold Q_cst; omega⟩ H.d4, dc_5.off hc hm ⟨fun a j q => by unfold fp_5 at q; unfold P_cst; omega, fun a j q => by unfold gp_5 at q; unfold Q_cst; omega⟩ H.d5, dc_6.off hc hm ⟨fun a j q => by unfold fp_6 at q; unfold P_cst; omega, fun a j q => by unfold gp_6 at q; unfold Q_cst; omega⟩ H.d6, dc_7.off hc hm ⟨fun a j q => by unfold fp_7 at q; unfold P_cst; omega, fun a j q => by unfold gp_7 at q; unfold Q_cst; omega⟩ H.d7, n8, dc_9.off hc hm ⟨fun a j q => by unfold fp_9 at q; unfold P_cst; omega, fun a j q => by unfold gp_9 at q; unfold Q_cst; omega⟩ H.d9, dc_10.off hc hm ⟨fun a j q => by unfold fp_10 at q; unfold P_cst; omega, fun a j q => by unfold gp_10 at q; unfold Q_cst; omega⟩ H.d10, n11, dc_12.off hc hm ⟨fun a j q => by unfold fp_12 at q; unfold P_cst; omega, fun a j q => by unfold gp_12 at q; unfold Q_cst; omega⟩ H.d12, dc_13.off hc hm ⟨fun a j q => by unfold fp_13 at q; unfold P_cst; omega, fun a j q => by unfold gp_13 at q; unfold Q_cst; omega⟩ H.d13, dc_14.off H.d1.1.1.2 hc hm ⟨fun a j q => by unfold fp_14 at q; unfold P_cst; omega, fun a j q => by unfold gp_14 at q; unfold Q_cst; omega⟩ H.d14, dc_15.off hc hm ⟨fun a j q => by unfold fp_15 at q; unfold P_cst; omega, fun a j q => by unfold gp_15 at q; unfold Q_cst; omega⟩ H.d15⟩
theorem takeWidth_eq (μ : Mem) : rea_takeWidth μ = rea_takeNumber 0 2 μ := bse (rea_takeNumber 0 2 μ)
theorem fr_had {B : Int → Int} {n : Int} {μ ν : Mem} {a b i j : Nat} {v w : Int} (ha : 27 ≤ a) (hb : 68 ≤ b ∧ b ≤ 73) (H : Had B n μ ν) : Had B n (mset μ a i v) (mset ν b j w) := H.fr (FrC.rf.set (by omega)) (FrM.rf.set (by omega))
theorem fr_rdy {B : Int → Int} {n : Int} {μ ν : Mem} {a b i j : Nat} {v w : Int} (ha : 27 ≤ a) (hb : 68 ≤ b ∧ b ≤ 73) (H : Rdy B n μ ν) : Rdy B n (mset μ a i v) (mset ν b j w) := H.fr (FrC.rf.set (by omega)) (FrM.rf.set (by omega))
theorem Sk_set {ν : Mem} {b j : Nat} {w : Int} (h : 0 < ν 61 23) (hb : 68 ≤ b ∧ b ≤ 73) : Sk ν (signR (mset ν b j w)) := Sk.tr (FrM.rf.set (by omega)) (Off.rf.set (Or.inr hb)) (Sk.sign (by rw [mset_ne (by omega)]; exact h))
theorem sick4 {ν : Mem} : 0 < sickM ν 4 61 23 := by rw [sickM_23]; omega
theorem put_st {a k : Nat} {x v : Int} {μ : Mem} (h : 0 ≤ x ∧ x < (k : Int)) (f : Mem → Option (Int × Mem)) : (ww_put a k x v μ).bind f = f (mset μ a x.toNat v) := by rw [put_in h, Option.bind_some]
/-! yards -/
theorem rl0 (ν : Mem) : mod_readLineOf 0 ν = (mod_readNumber 2 20 (mset ν 61 14 1)).bind fun u5 => some (mset u5.2 61 8 u5.1) := by
  rw [mod_readLineOf.eq_1, if_neg (by omega), if_neg (by omega), if_neg (by omega), if_neg (by omega), if_neg (by omega), if_neg (by omega), bse, mod_readOther.eq_1, if_neg (by omega), if_neg (by omega), bnd.eq_1]
  rfl
theorem L_last {B : Int → Int} {n : Int} {μ ν : Mem} (H : Rdy B n μ ν) (hD : DD μ ν) (h8 : μ 25 8 = 0) : Out B n μ ν (rea_takeLast μ) ((mod_readLineOf 0 ν).bind signR) := by
  have H1 : Rdy B n μ (mset ν 61 14 1) := H.fr FrC.rf (FrM.rf.set (by omega))
  obtain ⟨u, μ1, w, ν1, k1, k2, k3, k4, k5, k6⟩ := L_rnum 2 20 H1
  have o1 : Off Mrf ν (mset ν 61 14 1) := Off.rf.set (by unfold Mrf; omega)
  rw [rea_takeLast.eq_1, if_pos h8, k1, Option.bind_some, rl0, k2, Option.bind_some, Option.bind_some]
  dsimp only
  rcases k6 with ⟨q1, q2, q3⟩ | ⟨q1, q2, q3⟩
  · rw [if_pos (by omega), bnd.eq_1, bnd.eq_1]
    refine Out.tr (((k3.my.yrd).set (by unfold Mrd; omega)).set (by unfold Mrd; omega)) ((o1.tr k4.mz.zrf).set (by unfold Mrf; omega)) (by rw [mset_ne (by omega), mset_ne (by omega)]; exact k5) (Out_sign (q3.fr ((FrC.rf.set (by omega)).set (by omega)) (FrM.rf.set (by omega))) ?_)
    refine DD.ulst (((k3.mono (fun a j z => Or.inl z)).set (Or.inr (Or.inr ⟨rfl, rfl⟩))).set (Or.inr (Or.inl ⟨rfl, rfl⟩))) ((((Off.rf.set (by unfold Q_lst; omega) : Off Q_lst ν (mset ν 61 14 1))).tr (k4.mono (fun a j z => Or.inl z))).set (by unfold Q_lst; omega)) ?_ ?_ hD
    · unfold dc_0
      rw [mset_same, mset_ne (by omega), mset_same, q2]
      omega
    · unfold dc_10
      rw [mset_same, mset_ne (by omega), k4 61 14 (by unfold M61; omega), mset_same]
      omega
  · rw [if_neg (by omega)]
    refine Out.tr k3.my.yrd (o1.tr k4.mz.zrf) k5 (Out_bad q3 ?_)
    exact Sk.tr (FrM.rf.set (by omega)) (Off.rf.set (by unfold Mrf; omega)) (Sk.sign (by rw [mset_ne (by omega)]; exact q3.1))
theorem S_last {B : Int → Int} {n : Int} {μ ν : Mem} (H : Rdy B n μ ν) (h : 0 < ν 61 23) (h8 : μ 25 8 = 0) : Out B n μ ν (rea_takeLast μ) (some ν) := by
  obtain ⟨μ1, k1, k2, k3, k4⟩ := num_sick 2 20 H h
  rw [rea_takeLast.eq_1, if_pos h8, k1, Option.bind_some]
  dsimp only
  rw [if_neg (by omega)]
  exact Out_fail k2.my k3 k4
/-! bog -/
theorem n_bog {μ ν : Mem} {y : Int} (hy : 0 ≤ y ∧ y ≤ 20) (H : dc_5 μ ν) : dc_5 (mset μ 27 7 (iOr (μ 27 7) (iShl 1 y))) (mset ν 69 y.toNat 1) := by
  obtain ⟨b, b1, b2, b3⟩ := H
  obtain ⟨k, rfl⟩ : ∃ k : Nat, y = (k : Int) := ⟨y.toNat, by omega⟩
  obtain ⟨g, g1, g2, g3⟩ := iSet (b := b) (i := k) (by omega) (by omega)
  refine ⟨g, by rw [mset_same, b1, g1], ?_, fun i hi => ?_⟩
  · rw [g2]; exact Nat.or_lt_two_pow (n := 21) b2 (Nat.pow_lt_pow_right (by omega) (by omega))
  · rw [Int.toNat_natCast, g3, mset_ap]
    by_cases z : i = k
    · subst z; simp
    · rw [if_neg (by omega), decide_eq_false z, Bool.or_false]; exact b3 i hi
theorem c_bog {μ ν : Mem} {y : Int} (hy : 0 ≤ y ∧ y ≤ 20) (H : dc_5 μ ν) : roa_isBog 27 μ y = some (if ν 69 y.toNat = 1 then 1 else 0) ∧ (ν 69 y.toNat = 0 ∨ ν 69 y.toNat = 1) := by
  obtain ⟨b, b1, b2, b3⟩ := H
  obtain ⟨k, rfl⟩ : ∃ k : Nat, y = (k : Int) := ⟨y.toNat, by omega⟩
  have b4 := b3 k (by omega)
  rw [Int.toNat_natCast]
  refine ⟨?_, b4.1⟩
  unfold roa_isBog
  rw [b1, iBit (by omega) (by omega), b4.2]
  by_cases z : ν 69 k = 1 <;> simp [z]
theorem s64 {y s : Int} {ν : Mem} (h : 0 < ν 61 23) (hy : 0 ≤ y ∧ y < 21) : mod_readLineOf_64 y s ν = some (mset ν 69 y.toNat 1) := by
  rw [mod_readLineOf_64.eq_1, needs_sick h, Option.bind_some, zN_1, stx_ok (by omega), Option.bind_some, mnext_sick (by rw [mset_ne (by omega)]; exact h), Option.bind_some]
theorem r64 {y : Int} {ν : Mem} (h : ν 61 23 = 0) : mod_readLineOf_64 y 0 ν = mod_readLineOf_64 y 1 (sickM ν 4) := by
  rw [mod_readLineOf_64.eq_1, mod_readLineOf_64.eq_1, needs0 h, needs1]; rfl
theorem rl1 (ν : Mem) : mod_readLineOf 1 ν = (mod_lookedYard ν).bind fun u1 => (ld u1.2 69 21 u1.1).bind fun v2 => if v2 = 0 then (mod_readLineOf_64 u1.1 1 u1.2) else (mod_readLineOf_64 u1.1 0 u1.2) := by
  rw [mod_readLineOf.eq_1, if_pos rfl]
theorem L_bog {B : Int → Int} {n : Int} {μ ν : Mem} (H : Rdy B n μ ν) (hD : DD μ ν) : Out B n μ ν (rea_takeBog μ) ((mod_readLineOf 1 ν).bind signR) := by
  obtain ⟨u, μ1, w, ν1, k1, k2, k3, k4, k5, k6⟩ := L_yard H hD
  refine Out.tr k3.yrd k4.zrf k5 ?_
  rw [rea_takeBog.eq_1, k1, Option.bind_some, rl1, k2, Option.bind_some]
  dsimp only
  rcases k6 with ⟨q1, q2, q3, q4, q5, q6⟩ | ⟨q1, q2, q3⟩
  · obtain ⟨c1, c2⟩ := c_bog q1 q4.d5
    rw [if_pos q1.1, c1, q2, ld_ok (by omega)]
    by_cases z : ν1 69 u.toNat = 1
    · rw [tT z, Option.bind_some, if_neg (by omega), r64 q3.2.2.2.1, s64 sick4 (by omega), Option.bind_some]
      exact Out_refuse q3 (by omega) (Sk_set sick4 (by omega))
    · rw [tF z, Option.bind_some, if_pos (by omega), show roa_setBog 27 u μ1 = some (mset μ1 27 7 (iOr (μ1 27 7) (iShl 1 u))) from rfl, Option.bind_some]
      obtain ⟨ν2, x1, x2, x3⟩ := L_next (fr_had (a := 27) (i := 7) (v := iOr (μ1 27 7) (iShl 1 u)) (b := 69) (j := u.toNat) (w := 1) (by omega) (by omega) q3)
      rw [mod_readLineOf_64.eq_1, needs1, Option.bind_some, zN_1, stx_ok (by omega), Option.bind_some, x1, Option.bind_some, Option.bind_some]
      refine Out.tr (Off.rf.set (by unfold Mrd; omega)) ((Off.rf.set (by unfold Mrf; omega)).tr x2.mz.zrf) (by rw [mset_ne (by omega)]; exact Int.le_refl _) (Out_sign x3 ?_)
      exact (DD.ubog (Off.rf.set ⟨rfl, rfl⟩) (Off.rf.set rfl) (n_bog q1 q4.d5) q4).tok Off.rf x2
  · rw [if_neg (by omega), q2, ld_ok (by omega), Option.bind_some]
    refine Out_bad q3 ?_
    by_cases z : ν1 69 (0 : Int).toNat = 0
    · rw [if_pos z, s64 q3.1 (by omega), Option.bind_some]; exact Sk_set q3.1 (by omega)
    · rw [if_neg z, s64 q3.1 (by omega), Option.bind_some]; exact Sk_set q3.1 (by omega)
theorem S_bog {B : Int → Int} {n : Int} {μ ν : Mem} (H : Rdy B n μ ν) (h : 0 < ν 61 23) : Out B n μ ν (rea_takeBog μ) (some ν) := by
  obtain ⟨μ1, k1, k2, k3, k4⟩ := yard_sick H h
  rw [rea_takeBog.eq_1, k1, Option.bind_some]
  dsimp only
  rw [if_neg (by omega)]
  exact Out_fail k2 k3 k4
/-! hill -/
theorem s104 {y s : Int} {ν : Mem} (h : 0 < ν 61 23) (hy : 0 ≤ y ∧ y < 21) : mod_readLineOf_104 y s ν = some (mset ν 70 y.toNat 0) := by
  rw [mod_readLineOf_104.eq_1, needs_sick h, Option.bind_some, mnext_sick h, Option.bind_some, readNumber_sick h, Option.bind_some, stx_ok (by omega), Option.bind_some]
theorem r104 {y : Int} {ν : Mem} (h : ν 61 23 = 0) : mod_readLineOf_104 y 0 ν = mod_readLineOf_104 y 1 (sickM ν 4) := by
  rw [mod_readLineOf_104.eq_1, mod_readLineOf_104.eq_1, needs0 h, needs1]; rfl
theorem rl2 (ν : Mem) : mod_readLineOf 2 ν = (mod_lookedYard ν).bind fun u1 => (ld u1.2 70 21 u1.1).bind fun v2 => if v2 = (-4) then (mod_readLineOf_104 u1.1 1 u1.2) else (mod_readLineOf_104 u1.1 0 u1.2) := by
  rw [mod_readLineOf.eq_1, if_neg (by omega), if_pos rfl]
theorem L_hill {B : Int → Int} {n : Int} {μ ν : Mem} (H : Rdy B n μ ν) (hD : DD μ ν) : Out B n μ ν (rea_takeHill μ) ((mod_readLineOf 2 ν).bind signR) := by
  obtain ⟨u, μ1, w, ν1, k1, k2, k3, k4, k5, k6⟩ := L_yard H hD
  refine Out.tr k3.yrd k4.zrf k5 ?_
  rw [rea_takeHill.eq_1, k1, Option.bind_some, rl2, k2, Option.bind_some]
  dsimp only
  rcases k6 with ⟨q1, q2, q3, q4, q5, q6⟩ | ⟨q1, q2, q3⟩
  · have c1 : roa_hillAt 27 μ1 u = some (μ1 28 u.toNat) := hillAt_in (by omega)
    have c2 := (q4.d3 u q1.1 (by omega)).1
    rw [if_pos q1.1, c1, Option.bind_some, q2, ld_ok (by omega), Option.bind_some, c2]
    by_cases z : ν1 70 u.toNat = -4
    · obtain ⟨ν2, x1, x2, x3⟩ := L_next q3
      have D2 := q4.tok Off.rf x2
      obtain ⟨v, μ3, t, ν3, y1, y2, y3, y4, y5, y6⟩ := L_rnum 0 2 x3
      have D3 : (0 ≤ v ∧ v ≤ 2) → DD μ3 ν3 := fun _ => D2.tok y3 y4
      rw [if_pos z, if_pos z, takeWidth_eq, y1, Option.bind_some, mod_readLineOf_104.eq_1, needs1, Option.bind_some, x1, Option.bind_some, y2, Option.bind_some]
      dsimp only
      rw [stx_ok (by omega), Option.bind_some, Option.bind_some]
      rcases y6 with ⟨p1, p2, p3⟩ | ⟨p1, p2, p3⟩
      · have hs : roa_setHill 27 u v μ3 = some (mset μ3 28 u.toNat v) := by
          rw [roa_setHill.eq_1, put_in (by omega), Option.bind_some]
        rw [if_pos p1.1, hs, Option.bind_some, p2]
        refine Out.tr (y3.my.yrd.set (by unfold Mrd; omega)) ((x2.mz.zrf.tr y4.mz.zrf).set (by unfold Mrf; omega)) (by rw [mset_ne (by omega)]; exact y5) (Out_sign (fr_rdy (by omega) (by omega) p3) ?_)
        refine DD.uhil (Off.rf.set rfl) (Off.rf.set rfl) ?_ (D3 p1)
        intro i i1 i2
        rw [mset_ap, mset_ap]
        by_cases e : i = u
        · rw [if_pos ⟨rfl, by rw [e]⟩, if_pos ⟨rfl, by rw [e]⟩]; omega
        · rw [if_neg (by omega), if_neg (by omega)]; exact (D3 p1).d3 i i1 i2
      · rw [if_neg (by omega)]
        exact Out.tr y3.my.yrd (x2.mz.zrf.tr y4.mz.zrf) y5 (Out_bad p3 (Sk_set p3.1 (by omega)))
    · rw [if_neg z, if_neg z, r104 q3.2.2.2.1, s104 sick4 (by omega), Option.bind_some]
      exact Out_refuse q3 (by omega) (Sk_set sick4 (by omega))
  · rw [if_neg (by omega), q2, ld_ok (by omega), Option.bind_some]
    refine Out_bad q3 ?_
    by_cases z : ν1 70 (0 : Int).toNat = -4
    · rw [if_pos z, s104 q3.1 (by omega), Option.bind_some]; exact Sk_set q3.1 (by omega)
    · rw [if_neg z, s104 q3.1 (by omega), Option.bind_some]; exact Sk_set q3.1 (by omega)
theorem S_hill {B : Int → Int} {n : Int} {μ ν : Mem} (H : Rdy B n μ ν) (h : 0 < ν 61 23) : Out B n μ ν (rea_takeHill μ) (some ν) := by
  obtain ⟨μ1, k1, k2, k3, k4⟩ := yard_sick H h
  rw [rea_takeHill.eq_1, k1, Option.bind_some]
  dsimp only
  rw [if_neg (by omega)]
  exact Out_fail k2 k3 k4
/-! smith -/
theorem s149 {y s : Int} {ν : Mem} (h : 0 < ν 61 23) (hy : 0 ≤ y ∧ y < 21) : mod_readLineOf_149 y s ν = some (mset ν 71 y.toNat 0) := by
  rw [mod_readLineOf_149.eq_1, needs_sick h, Option.bind_some, mnext_sick h, Option.bind_some, readNumber_sick h, Option.bind_some, stx_ok (by omega), Option.bind_some]
theorem r149 {y : Int} {ν : Mem} (h : ν 61 23 = 0) : mod_readLineOf_149 y 0 ν = mod_readLineOf_149 y 1 (sickM ν 4) := by
  rw [mod_readLineOf_149.eq_1, mod_readLineOf_149.eq_1, needs0 h, needs1]; rfl
theorem rl3 (ν : Mem) : mod_readLineOf 3 ν = (mod_lookedYard ν).bind fun u1 => (ld u1.2 71 21 u1.1).bind fun v2 => if v2 = (-4) then (mod_readLineOf_149 u1.1 1 u1.2) else (mod_readLineOf_149 u1.1 0 u1.2) := by
  rw [mod_readLineOf.eq_1, if_neg (by omega), if_neg (by omega), if_pos rfl]
theorem L_smith {B : Int → Int} {n : Int} {μ ν : Mem} (H : Rdy B n μ ν) (hD : DD μ ν) : Out B n μ ν (rea_takeSmith μ) ((mod_readLineOf 3 ν).bind signR) := by
  obtain ⟨u, μ1, w, ν1, k1, k2, k3, k4, k5, k6⟩ := L_yard H hD
  refine Out.tr k3.yrd k4.zrf k5 ?_
  rw [rea_takeSmith.eq_1, k1, Option.bind_some, rl3, k2, Option.bind_some]
  dsimp only
  rcases k6 with ⟨q1, q2, q3, q4, q5, q6⟩ | ⟨q1, q2, q3⟩
  · have c1 : roa_smithAt 27 μ1 u = some (μ1 29 u.toNat) := smithAt_in (by omega)
    have c2 := (q4.d4 u q1.1 (by omega)).1
    rw [if_pos q1.1, c1, Option.bind_some, q2, ld_ok (by omega), Option.bind_some, c2]
    by_cases z : ν1 71 u.toNat = -4
    · obtain ⟨ν2, x1, x2, x3⟩ := L_next q3
      have D2 := q4.tok Off.rf x2
      obtain ⟨v, μ3, t, ν3, y1, y2, y3, y4, y5, y6⟩ := L_rnum 0 9 x3
      have D3 : (0 ≤ v ∧ v ≤ 9) → DD μ3 ν3 := fun _ => D2.tok y3 y4
      rw [if_pos z, if_pos z, y1, Option.bind_some, mod_readLineOf_149.eq_1, needs1, Option.bind_some, x1, Option.bind_some, y2, Option.bind_some]
      dsimp only
      rw [stx_ok (by omega), Option.bind_some, Option.bind_some]
      rcases y6 with ⟨p1, p2, p3⟩ | ⟨p1, p2, p3⟩
      · have hs : roa_setSmith 27 u v μ3 = some (mset μ3 29 u.toNat v) := by
          rw [roa_setSmith.eq_1, put_in (by omega), Option.bind_some]
        rw [if_pos p1.1, hs, Option.bind_some, p2]
        refine Out.tr (y3.my.yrd.set (by unfold Mrd; omega)) ((x2.mz.zrf.tr y4.mz.zrf).set (by unfold Mrf; omega)) (by rw [mset_ne (by omega)]; exact y5) (Out_sign (fr_rdy (by omega) (by omega) p3) ?_)
        refine DD.usmi (Off.rf.set rfl) (Off.rf.set rfl) ?_ (D3 p1)
        intro i i1 i2
        rw [mset_ap, mset_ap]
        by_cases e : i = u
        · rw [if_pos ⟨rfl, by rw [e]⟩, if_pos ⟨rfl, by rw [e]⟩]; omega
        · rw [if_neg (by omega), if_neg (by omega)]; exact (D3 p1).d4 i i1 i2
      · rw [if_neg (by omega)]
        exact Out.tr y3.my.yrd (x2.mz.zrf.tr y4.mz.zrf) y5 (Out_bad p3 (Sk_set p3.1 (by omega)))
    · rw [if_neg z, if_neg z, r149 q3.2.2.2.1, s149 sick4 (by omega), Option.bind_some]
      exact Out_refuse q3 (by omega) (Sk_set sick4 (by omega))
  · rw [if_neg (by omega), q2, ld_ok (by omega), Option.bind_some]
    refine Out_bad q3 ?_
    by_cases z : ν1 71 (0 : Int).toNat = -4
    · rw [if_pos z, s149 q3.1 (by omega), Option.bind_some]; exact Sk_set q3.1 (by omega)
    · rw [if_neg z, s149 q3.1 (by omega), Option.bind_some]; exact Sk_set q3.1 (by omega)
theorem S_smith {B : Int → Int} {n : Int} {μ ν : Mem} (H : Rdy B n μ ν) (h : 0 < ν 61 23) : Out B n μ ν (rea_takeSmith μ) (some ν) := by
  obtain ⟨μ1, k1, k2, k3, k4⟩ := yard_sick H h
  rw [rea_takeSmith.eq_1, k1, Option.bind_some]
  dsimp only
  rw [if_neg (by omega)]
  exact Out_fail k2 k3 k4
