/-! ===== the law's rows against its bytes ===== -/
set_option maxRecDepth 100000 in
theorem ckl_0 : (List.range 100).all (fun i => chkA i_L_law (0 + i) ((mT i_L_law).getD (0 + i) ai0)) = true := by decide +kernel
set_option maxRecDepth 100000 in
theorem ckl_100 : (List.range 100).all (fun i => chkA i_L_law (100 + i) ((mT i_L_law).getD (100 + i) ai0)) = true := by decide +kernel
set_option maxRecDepth 100000 in
theorem ckl_200 : (List.range 100).all (fun i => chkA i_L_law (200 + i) ((mT i_L_law).getD (200 + i) ai0)) = true := by decide +kernel
set_option maxRecDepth 100000 in
theorem ckl_300 : (List.range 100).all (fun i => chkA i_L_law (300 + i) ((mT i_L_law).getD (300 + i) ai0)) = true := by decide +kernel
set_option maxRecDepth 100000 in
theorem ckl_400 : (List.range 100).all (fun i => chkA i_L_law (400 + i) ((mT i_L_law).getD (400 + i) ai0)) = true := by decide +kernel
set_option maxRecDepth 100000 in
theorem ckl_500 : (List.range 100).all (fun i => chkA i_L_law (500 + i) ((mT i_L_law).getD (500 + i) ai0)) = true := by decide +kernel
set_option maxRecDepth 100000 in
theorem ckl_600 : (List.range 100).all (fun i => chkA i_L_law (600 + i) ((mT i_L_law).getD (600 + i) ai0)) = true := by decide +kernel
set_option maxRecDepth 100000 in
theorem ckl_700 : (List.range 100).all (fun i => chkA i_L_law (700 + i) ((mT i_L_law).getD (700 + i) ai0)) = true := by decide +kernel
set_option maxRecDepth 100000 in
theorem ckl_800 : (List.range 100).all (fun i => chkA i_L_law (800 + i) ((mT i_L_law).getD (800 + i) ai0)) = true := by decide +kernel
set_option maxRecDepth 100000 in
theorem ckl_900 : (List.range 100).all (fun i => chkA i_L_law (900 + i) ((mT i_L_law).getD (900 + i) ai0)) = true := by decide +kernel
set_option maxRecDepth 100000 in
theorem ckl_1000 : (List.range 100).all (fun i => chkA i_L_law (1000 + i) ((mT i_L_law).getD (1000 + i) ai0)) = true := by decide +kernel
set_option maxRecDepth 100000 in
theorem ckl_1100 : (List.range 100).all (fun i => chkA i_L_law (1100 + i) ((mT i_L_law).getD (1100 + i) ai0)) = true := by decide +kernel
set_option maxRecDepth 100000 in
theorem ckl_1200 : (List.range 5).all (fun i => chkA i_L_law (1200 + i) ((mT i_L_law).getD (1200 + i) ai0)) = true := by decide +kernel
set_option maxRecDepth 100000 in
theorem len_L_law : (mT i_L_law).length = 1205 := by decide +kernel
theorem ckl_use {n k : Nat} (h : (List.range n).all (fun i => chkA i_L_law (k + i) ((mT i_L_law).getD (k + i) ai0)) = true) {pos : Nat} (h1 : k ≤ pos) (h2 : pos < k + n) : chkA i_L_law pos ((mT i_L_law).getD pos ai0) = true := by
  have h3 := List.all_eq_true.mp h (pos - k) (List.mem_range.mpr (by omega))
  rw [show k + (pos - k) = pos by omega] at h3
  exact h3
theorem ck_L_law : chkM i_L_law = true := by
  unfold chkM
  refine List.all_eq_true.mpr fun pos hp => ?_
  have hp := List.mem_range.mp hp
  rw [len_L_law] at hp
  by_cases h0 : pos < 100
  · exact ckl_use ckl_0 (by omega) (by omega)
  by_cases h100 : pos < 200
  · exact ckl_use ckl_100 (by omega) (by omega)
  by_cases h200 : pos < 300
  · exact ckl_use ckl_200 (by omega) (by omega)
  by_cases h300 : pos < 400
  · exact ckl_use ckl_300 (by omega) (by omega)
  by_cases h400 : pos < 500
  · exact ckl_use ckl_400 (by omega) (by omega)
  by_cases h500 : pos < 600
  · exact ckl_use ckl_500 (by omega) (by omega)
  by_cases h600 : pos < 700
  · exact ckl_use ckl_600 (by omega) (by omega)
  by_cases h700 : pos < 800
  · exact ckl_use ckl_700 (by omega) (by omega)
  by_cases h800 : pos < 900
  · exact ckl_use ckl_800 (by omega) (by omega)
  by_cases h900 : pos < 1000
  · exact ckl_use ckl_900 (by omega) (by omega)
  by_cases h1000 : pos < 1100
  · exact ckl_use ckl_1000 (by omega) (by omega)
  by_cases h1100 : pos < 1200
  · exact ckl_use ckl_1100 (by omega) (by omega)
  exact ckl_use ckl_1200 (by omega) (by omega)
