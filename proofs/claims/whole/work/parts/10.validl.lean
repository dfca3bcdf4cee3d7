theorem v_236_0 : (List.range 50).all (fun j => match pg236 (0 + j) with
  | none => true
  | some r => vOK 236 (0 + j) r) = true := by decide +kernel
theorem v_236_50 : (List.range 50).all (fun j => match pg236 (50 + j) with
  | none => true
  | some r => vOK 236 (50 + j) r) = true := by decide +kernel
theorem v_236_100 : (List.range 50).all (fun j => match pg236 (100 + j) with
  | none => true
  | some r => vOK 236 (100 + j) r) = true := by decide +kernel
theorem v_236_150 : (List.range 50).all (fun j => match pg236 (150 + j) with
  | none => true
  | some r => vOK 236 (150 + j) r) = true := by decide +kernel
theorem v_236_200 : (List.range 50).all (fun j => match pg236 (200 + j) with
  | none => true
  | some r => vOK 236 (200 + j) r) = true := by decide +kernel
theorem v_236_250 : (List.range 50).all (fun j => match pg236 (250 + j) with
  | none => true
  | some r => vOK 236 (250 + j) r) = true := by decide +kernel
theorem v_236_300 : (List.range 50).all (fun j => match pg236 (300 + j) with
  | none => true
  | some r => vOK 236 (300 + j) r) = true := by decide +kernel
theorem v_236_350 : (List.range 50).all (fun j => match pg236 (350 + j) with
  | none => true
  | some r => vOK 236 (350 + j) r) = true := by decide +kernel
theorem v_236_400 : (List.range 50).all (fun j => match pg236 (400 + j) with
  | none => true
  | some r => vOK 236 (400 + j) r) = true := by decide +kernel
theorem v_236_450 : (List.range 50).all (fun j => match pg236 (450 + j) with
  | none => true
  | some r => vOK 236 (450 + j) r) = true := by decide +kernel
theorem v_236_500 : (List.range 50).all (fun j => match pg236 (500 + j) with
  | none => true
  | some r => vOK 236 (500 + j) r) = true := by decide +kernel
theorem v_236_550 : (List.range 50).all (fun j => match pg236 (550 + j) with
  | none => true
  | some r => vOK 236 (550 + j) r) = true := by decide +kernel
theorem v_236_600 : (List.range 50).all (fun j => match pg236 (600 + j) with
  | none => true
  | some r => vOK 236 (600 + j) r) = true := by decide +kernel
theorem v_236_650 : (List.range 50).all (fun j => match pg236 (650 + j) with
  | none => true
  | some r => vOK 236 (650 + j) r) = true := by decide +kernel
theorem v_236_700 : (List.range 50).all (fun j => match pg236 (700 + j) with
  | none => true
  | some r => vOK 236 (700 + j) r) = true := by decide +kernel
theorem v_236_750 : (List.range 50).all (fun j => match pg236 (750 + j) with
  | none => true
  | some r => vOK 236 (750 + j) r) = true := by decide +kernel
theorem v_236_800 : (List.range 50).all (fun j => match pg236 (800 + j) with
  | none => true
  | some r => vOK 236 (800 + j) r) = true := by decide +kernel
theorem v_236_850 : (List.range 50).all (fun j => match pg236 (850 + j) with
  | none => true
  | some r => vOK 236 (850 + j) r) = true := by decide +kernel
theorem v_236_900 : (List.range 50).all (fun j => match pg236 (900 + j) with
  | none => true
  | some r => vOK 236 (900 + j) r) = true := by decide +kernel
theorem v_236_950 : (List.range 50).all (fun j => match pg236 (950 + j) with
  | none => true
  | some r => vOK 236 (950 + j) r) = true := by decide +kernel
theorem v_236_1000 : (List.range 50).all (fun j => match pg236 (1000 + j) with
  | none => true
  | some r => vOK 236 (1000 + j) r) = true := by decide +kernel
theorem v_236_1050 : (List.range 50).all (fun j => match pg236 (1050 + j) with
  | none => true
  | some r => vOK 236 (1050 + j) r) = true := by decide +kernel
theorem v_236_1100 : (List.range 50).all (fun j => match pg236 (1100 + j) with
  | none => true
  | some r => vOK 236 (1100 + j) r) = true := by decide +kernel
theorem v_236_1150 : (List.range 50).all (fun j => match pg236 (1150 + j) with
  | none => true
  | some r => vOK 236 (1150 + j) r) = true := by decide +kernel
theorem v_236_1200 : (List.range 50).all (fun j => match pg236 (1200 + j) with
  | none => true
  | some r => vOK 236 (1200 + j) r) = true := by decide +kernel
theorem v_236_1250 : (List.range 50).all (fun j => match pg236 (1250 + j) with
  | none => true
  | some r => vOK 236 (1250 + j) r) = true := by decide +kernel
theorem v_236_1300 : (List.range 50).all (fun j => match pg236 (1300 + j) with
  | none => true
  | some r => vOK 236 (1300 + j) r) = true := by decide +kernel
theorem v_236_1350 : (List.range 50).all (fun j => match pg236 (1350 + j) with
  | none => true
  | some r => vOK 236 (1350 + j) r) = true := by decide +kernel
theorem v_236_1400 : (List.range 50).all (fun j => match pg236 (1400 + j) with
  | none => true
  | some r => vOK 236 (1400 + j) r) = true := by decide +kernel
