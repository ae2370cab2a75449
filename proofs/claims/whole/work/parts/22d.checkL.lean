theorem ckL_26 : tbLaw_26.all (fun e => chkE code 11 e.1 e.2) = true := by decide +kernel
theorem ckL_27 : tbLaw_27.all (fun e => chkE code 11 e.1 e.2) = true := by decide +kernel
theorem ckL_28 : tbLaw_28.all (fun e => chkE code 11 e.1 e.2) = true := by decide +kernel
theorem ckL_29 : tbLaw_29.all (fun e => chkE code 11 e.1 e.2) = true := by decide +kernel
theorem ckL_30 : tbLaw_30.all (fun e => chkE code 11 e.1 e.2) = true := by decide +kernel
theorem ckL_31 : tbLaw_31.all (fun e => chkE code 11 e.1 e.2) = true := by decide +kernel
theorem ckL_32 : tbLaw_32.all (fun e => chkE code 11 e.1 e.2) = true := by decide +kernel
theorem ckL_33 : tbLaw_33.all (fun e => chkE code 11 e.1 e.2) = true := by decide +kernel
theorem ckL_34 : tbLaw_34.all (fun e => chkE code 11 e.1 e.2) = true := by decide +kernel
theorem ckL_35 : tbLaw_35.all (fun e => chkE code 11 e.1 e.2) = true := by decide +kernel
theorem ckL_36 : tbLaw_36.all (fun e => chkE code 11 e.1 e.2) = true := by decide +kernel
theorem ckL_37 : tbLaw_37.all (fun e => chkE code 11 e.1 e.2) = true := by decide +kernel
theorem ckL_38 : tbLaw_38.all (fun e => chkE code 11 e.1 e.2) = true := by decide +kernel
theorem ckLaw : tbAll code 11 tbLaw = true := by
  unfold tbAll tbLaw
  simp only [List.all_cons, List.all_nil, Bool.and_true, Bool.and_eq_true]
  exact ⟨ckL_0, ckL_1, ckL_2, ckL_3, ckL_4, ckL_5, ckL_6, ckL_7, ckL_8, ckL_9, ckL_10, ckL_11, ckL_12, ckL_13, ckL_14, ckL_15, ckL_16, ckL_17, ckL_18, ckL_19, ckL_20, ckL_21, ckL_22, ckL_23, ckL_24, ckL_25, ckL_26, ckL_27, ckL_28, ckL_29, ckL_30, ckL_31, ckL_32, ckL_33, ckL_34, ckL_35, ckL_36, ckL_37, ckL_38⟩
