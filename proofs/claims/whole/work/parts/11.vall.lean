/-! every row that the machine of rows fetches is held against the code -/
theorem tr_ble {c x pc : Nat} {A B : Nat → Option Row} {row : Row} {P : Prop} (hA : A pc = some row → P) (hB : B pc = some row → P) : (cond (Nat.ble c x) A B) pc = some row → P := by
  cases Nat.ble c x
  · exact hB
  · exact hA
theorem tr_beq {k x pc : Nat} {A : Nat → Option Row} {row : Row} {P : Nat → Prop} (hA : A pc = some row → P k) : (cond (Nat.beq x k) A (fun _ => none)) pc = some row → P x := by
  intro h
  cases e : Nat.beq x k with
  | false => rw [e] at h; cases h
  | true => rw [e] at h; rw [Nat.eq_of_beq_eq_true e]; exact hA h
theorem tr_all {N mi : Nat} {f : Nat → Option Row} (h : (List.range N).all (fun x => match f x with
  | none => true
  | some r => vOK mi x r) = true) (hN : ∀ x, Nat.ble N x = true → f x = none) {pc : Nat} {row : Row} (hf : f pc = some row) : vOK mi pc row = true := by
  by_cases hp : pc < N
  · have h1 := List.all_eq_true.mp h pc (List.mem_range.mpr hp)
    rw [hf] at h1
    exact h1
  · rw [hN pc (Nat.ble_eq_true_of_le (by omega))] at hf
    cases hf
theorem tr_cut {s K mi : Nat} {f : Nat → Option Row} (h : (List.range K).all (fun j => match f (s + j) with
  | none => true
  | some r => vOK mi (s + j) r) = true) {pc : Nat} {row : Row} (h1 : s ≤ pc) (h2 : pc < s + K) (hf : f pc = some row) : vOK mi pc row = true := by
  have h3 := List.all_eq_true.mp h (pc - s) (List.mem_range.mpr (by omega))
  have e : s + (pc - s) = pc := by omega
  simp only [e, hf] at h3
  exact h3
theorem vp_0 {pc : Nat} {row : Row} : pg0 pc = some row → vOK 0 pc row = true := tr_all v_0 (fun x h => by unfold pg0; rw [h]; rfl)
theorem vp_1 {pc : Nat} {row : Row} : pg1 pc = some row → vOK 1 pc row = true := tr_all v_1 (fun x h => by unfold pg1; rw [h]; rfl)
theorem vp_2 {pc : Nat} {row : Row} : pg2 pc = some row → vOK 2 pc row = true := tr_all v_2 (fun x h => by unfold pg2; rw [h]; rfl)
theorem vp_3 {pc : Nat} {row : Row} : pg3 pc = some row → vOK 3 pc row = true := tr_all v_3 (fun x h => by unfold pg3; rw [h]; rfl)
theorem vp_4 {pc : Nat} {row : Row} : pg4 pc = some row → vOK 4 pc row = true := tr_all v_4 (fun x h => by unfold pg4; rw [h]; rfl)
theorem vp_5 {pc : Nat} {row : Row} : pg5 pc = some row → vOK 5 pc row = true := tr_all v_5 (fun x h => by unfold pg5; rw [h]; rfl)
theorem vp_6 {pc : Nat} {row : Row} : pg6 pc = some row → vOK 6 pc row = true := tr_all v_6 (fun x h => by unfold pg6; rw [h]; rfl)
theorem vp_7 {pc : Nat} {row : Row} : pg7 pc = some row → vOK 7 pc row = true := tr_all v_7 (fun x h => by unfold pg7; rw [h]; rfl)
theorem vp_8 {pc : Nat} {row : Row} : pg8 pc = some row → vOK 8 pc row = true := tr_all v_8 (fun x h => by unfold pg8; rw [h]; rfl)
theorem vp_9 {pc : Nat} {row : Row} : pg9 pc = some row → vOK 9 pc row = true := tr_all v_9 (fun x h => by unfold pg9; rw [h]; rfl)
theorem vp_10 {pc : Nat} {row : Row} : pg10 pc = some row → vOK 10 pc row = true := tr_all v_10 (fun x h => by unfold pg10; rw [h]; rfl)
theorem vp_11 {pc : Nat} {row : Row} : pg11 pc = some row → vOK 11 pc row = true := tr_all v_11 (fun x h => by unfold pg11; rw [h]; rfl)
theorem vp_12 {pc : Nat} {row : Row} : pg12 pc = some row → vOK 12 pc row = true := tr_all v_12 (fun x h => by unfold pg12; rw [h]; rfl)
theorem vp_13 {pc : Nat} {row : Row} : pg13 pc = some row → vOK 13 pc row = true := tr_all v_13 (fun x h => by unfold pg13; rw [h]; rfl)
theorem vp_14 {pc : Nat} {row : Row} : pg14 pc = some row → vOK 14 pc row = true := tr_all v_14 (fun x h => by unfold pg14; rw [h]; rfl)
theorem vp_15 {pc : Nat} {row : Row} : pg15 pc = some row → vOK 15 pc row = true := tr_all v_15 (fun x h => by unfold pg15; rw [h]; rfl)
theorem vp_16 {pc : Nat} {row : Row} : pg16 pc = some row → vOK 16 pc row = true := tr_all v_16 (fun x h => by unfold pg16; rw [h]; rfl)
theorem vp_17 {pc : Nat} {row : Row} : pg17 pc = some row → vOK 17 pc row = true := tr_all v_17 (fun x h => by unfold pg17; rw [h]; rfl)
theorem vp_18 {pc : Nat} {row : Row} : pg18 pc = some row → vOK 18 pc row = true := tr_all v_18 (fun x h => by unfold pg18; rw [h]; rfl)
theorem vp_19 {pc : Nat} {row : Row} : pg19 pc = some row → vOK 19 pc row = true := tr_all v_19 (fun x h => by unfold pg19; rw [h]; rfl)
theorem vp_20 {pc : Nat} {row : Row} : pg20 pc = some row → vOK 20 pc row = true := tr_all v_20 (fun x h => by unfold pg20; rw [h]; rfl)
theorem vp_21 {pc : Nat} {row : Row} : pg21 pc = some row → vOK 21 pc row = true := tr_all v_21 (fun x h => by unfold pg21; rw [h]; rfl)
theorem vp_22 {pc : Nat} {row : Row} : pg22 pc = some row → vOK 22 pc row = true := tr_all v_22 (fun x h => by unfold pg22; rw [h]; rfl)
theorem vp_23 {pc : Nat} {row : Row} : pg23 pc = some row → vOK 23 pc row = true := tr_all v_23 (fun x h => by unfold pg23; rw [h]; rfl)
theorem vp_24 {pc : Nat} {row : Row} : pg24 pc = some row → vOK 24 pc row = true := tr_all v_24 (fun x h => by unfold pg24; rw [h]; rfl)
theorem vp_25 {pc : Nat} {row : Row} : pg25 pc = some row → vOK 25 pc row = true := tr_all v_25 (fun x h => by unfold pg25; rw [h]; rfl)
theorem vp_26 {pc : Nat} {row : Row} : pg26 pc = some row → vOK 26 pc row = true := tr_all v_26 (fun x h => by unfold pg26; rw [h]; rfl)
theorem vp_27 {pc : Nat} {row : Row} : pg27 pc = some row → vOK 27 pc row = true := tr_all v_27 (fun x h => by unfold pg27; rw [h]; rfl)
theorem vp_28 {pc : Nat} {row : Row} : pg28 pc = some row → vOK 28 pc row = true := tr_all v_28 (fun x h => by unfold pg28; rw [h]; rfl)
theorem vp_29 {pc : Nat} {row : Row} : pg29 pc = some row → vOK 29 pc row = true := tr_all v_29 (fun x h => by unfold pg29; rw [h]; rfl)
theorem vp_30 {pc : Nat} {row : Row} : pg30 pc = some row → vOK 30 pc row = true := tr_all v_30 (fun x h => by unfold pg30; rw [h]; rfl)
theorem vp_31 {pc : Nat} {row : Row} : pg31 pc = some row → vOK 31 pc row = true := tr_all v_31 (fun x h => by unfold pg31; rw [h]; rfl)
theorem vp_32 {pc : Nat} {row : Row} : pg32 pc = some row → vOK 32 pc row = true := tr_all v_32 (fun x h => by unfold pg32; rw [h]; rfl)
theorem vp_33 {pc : Nat} {row : Row} : pg33 pc = some row → vOK 33 pc row = true := tr_all v_33 (fun x h => by unfold pg33; rw [h]; rfl)
theorem vp_34 {pc : Nat} {row : Row} : pg34 pc = some row → vOK 34 pc row = true := tr_all v_34 (fun x h => by unfold pg34; rw [h]; rfl)
theorem vp_35 {pc : Nat} {row : Row} : pg35 pc = some row → vOK 35 pc row = true := tr_all v_35 (fun x h => by unfold pg35; rw [h]; rfl)
theorem vp_36 {pc : Nat} {row : Row} : pg36 pc = some row → vOK 36 pc row = true := tr_all v_36 (fun x h => by unfold pg36; rw [h]; rfl)
theorem vp_37 {pc : Nat} {row : Row} : pg37 pc = some row → vOK 37 pc row = true := tr_all v_37 (fun x h => by unfold pg37; rw [h]; rfl)
theorem vp_38 {pc : Nat} {row : Row} : pg38 pc = some row → vOK 38 pc row = true := tr_all v_38 (fun x h => by unfold pg38; rw [h]; rfl)
theorem vp_39 {pc : Nat} {row : Row} : pg39 pc = some row → vOK 39 pc row = true := tr_all v_39 (fun x h => by unfold pg39; rw [h]; rfl)
theorem vp_40 {pc : Nat} {row : Row} : pg40 pc = some row → vOK 40 pc row = true := tr_all v_40 (fun x h => by unfold pg40; rw [h]; rfl)
theorem vp_42 {pc : Nat} {row : Row} : pg42 pc = some row → vOK 42 pc row = true := tr_all v_42 (fun x h => by unfold pg42; rw [h]; rfl)
theorem vp_43 {pc : Nat} {row : Row} : pg43 pc = some row → vOK 43 pc row = true := tr_all v_43 (fun x h => by unfold pg43; rw [h]; rfl)
theorem vp_44 {pc : Nat} {row : Row} : pg44 pc = some row → vOK 44 pc row = true := tr_all v_44 (fun x h => by unfold pg44; rw [h]; rfl)
theorem vp_45 {pc : Nat} {row : Row} : pg45 pc = some row → vOK 45 pc row = true := tr_all v_45 (fun x h => by unfold pg45; rw [h]; rfl)
theorem vp_46 {pc : Nat} {row : Row} : pg46 pc = some row → vOK 46 pc row = true := tr_all v_46 (fun x h => by unfold pg46; rw [h]; rfl)
theorem vp_47 {pc : Nat} {row : Row} : pg47 pc = some row → vOK 47 pc row = true := tr_all v_47 (fun x h => by unfold pg47; rw [h]; rfl)
theorem vp_48 {pc : Nat} {row : Row} : pg48 pc = some row → vOK 48 pc row = true := tr_all v_48 (fun x h => by unfold pg48; rw [h]; rfl)
theorem vp_49 {pc : Nat} {row : Row} : pg49 pc = some row → vOK 49 pc row = true := tr_all v_49 (fun x h => by unfold pg49; rw [h]; rfl)
theorem vp_50 {pc : Nat} {row : Row} : pg50 pc = some row → vOK 50 pc row = true := tr_all v_50 (fun x h => by unfold pg50; rw [h]; rfl)
theorem vp_51 {pc : Nat} {row : Row} : pg51 pc = some row → vOK 51 pc row = true := tr_all v_51 (fun x h => by unfold pg51; rw [h]; rfl)
theorem vp_52 {pc : Nat} {row : Row} : pg52 pc = some row → vOK 52 pc row = true := tr_all v_52 (fun x h => by unfold pg52; rw [h]; rfl)
theorem vp_53 {pc : Nat} {row : Row} : pg53 pc = some row → vOK 53 pc row = true := tr_all v_53 (fun x h => by unfold pg53; rw [h]; rfl)
theorem vp_54 {pc : Nat} {row : Row} : pg54 pc = some row → vOK 54 pc row = true := tr_all v_54 (fun x h => by unfold pg54; rw [h]; rfl)
theorem vp_55 {pc : Nat} {row : Row} : pg55 pc = some row → vOK 55 pc row = true := tr_all v_55 (fun x h => by unfold pg55; rw [h]; rfl)
theorem vp_56 {pc : Nat} {row : Row} : pg56 pc = some row → vOK 56 pc row = true := tr_all v_56 (fun x h => by unfold pg56; rw [h]; rfl)
theorem vp_57 {pc : Nat} {row : Row} : pg57 pc = some row → vOK 57 pc row = true := tr_all v_57 (fun x h => by unfold pg57; rw [h]; rfl)
theorem vp_58 {pc : Nat} {row : Row} : pg58 pc = some row → vOK 58 pc row = true := tr_all v_58 (fun x h => by unfold pg58; rw [h]; rfl)
theorem vp_59 {pc : Nat} {row : Row} : pg59 pc = some row → vOK 59 pc row = true := tr_all v_59 (fun x h => by unfold pg59; rw [h]; rfl)
theorem vp_60 {pc : Nat} {row : Row} : pg60 pc = some row → vOK 60 pc row = true := tr_all v_60 (fun x h => by unfold pg60; rw [h]; rfl)
theorem vp_61 {pc : Nat} {row : Row} : pg61 pc = some row → vOK 61 pc row = true := tr_all v_61 (fun x h => by unfold pg61; rw [h]; rfl)
theorem vp_62 {pc : Nat} {row : Row} : pg62 pc = some row → vOK 62 pc row = true := tr_all v_62 (fun x h => by unfold pg62; rw [h]; rfl)
theorem vp_63 {pc : Nat} {row : Row} : pg63 pc = some row → vOK 63 pc row = true := tr_all v_63 (fun x h => by unfold pg63; rw [h]; rfl)
theorem vp_64 {pc : Nat} {row : Row} : pg64 pc = some row → vOK 64 pc row = true := tr_all v_64 (fun x h => by unfold pg64; rw [h]; rfl)
theorem vp_65 {pc : Nat} {row : Row} : pg65 pc = some row → vOK 65 pc row = true := tr_all v_65 (fun x h => by unfold pg65; rw [h]; rfl)
theorem vp_66 {pc : Nat} {row : Row} : pg66 pc = some row → vOK 66 pc row = true := tr_all v_66 (fun x h => by unfold pg66; rw [h]; rfl)
theorem vp_67 {pc : Nat} {row : Row} : pg67 pc = some row → vOK 67 pc row = true := tr_all v_67 (fun x h => by unfold pg67; rw [h]; rfl)
theorem vp_68 {pc : Nat} {row : Row} : pg68 pc = some row → vOK 68 pc row = true := tr_all v_68 (fun x h => by unfold pg68; rw [h]; rfl)
theorem vp_69 {pc : Nat} {row : Row} : pg69 pc = some row → vOK 69 pc row = true := tr_all v_69 (fun x h => by unfold pg69; rw [h]; rfl)
theorem vp_70 {pc : Nat} {row : Row} : pg70 pc = some row → vOK 70 pc row = true := tr_all v_70 (fun x h => by unfold pg70; rw [h]; rfl)
theorem vp_71 {pc : Nat} {row : Row} : pg71 pc = some row → vOK 71 pc row = true := tr_all v_71 (fun x h => by unfold pg71; rw [h]; rfl)
theorem vp_72 {pc : Nat} {row : Row} : pg72 pc = some row → vOK 72 pc row = true := tr_all v_72 (fun x h => by unfold pg72; rw [h]; rfl)
theorem vp_73 {pc : Nat} {row : Row} : pg73 pc = some row → vOK 73 pc row = true := tr_all v_73 (fun x h => by unfold pg73; rw [h]; rfl)
theorem vp_74 {pc : Nat} {row : Row} : pg74 pc = some row → vOK 74 pc row = true := tr_all v_74 (fun x h => by unfold pg74; rw [h]; rfl)
theorem vp_75 {pc : Nat} {row : Row} : pg75 pc = some row → vOK 75 pc row = true := tr_all v_75 (fun x h => by unfold pg75; rw [h]; rfl)
theorem vp_76 {pc : Nat} {row : Row} : pg76 pc = some row → vOK 76 pc row = true := tr_all v_76 (fun x h => by unfold pg76; rw [h]; rfl)
theorem vp_77 {pc : Nat} {row : Row} : pg77 pc = some row → vOK 77 pc row = true := tr_all v_77 (fun x h => by unfold pg77; rw [h]; rfl)
theorem vp_78 {pc : Nat} {row : Row} : pg78 pc = some row → vOK 78 pc row = true := tr_all v_78 (fun x h => by unfold pg78; rw [h]; rfl)
theorem vp_79 {pc : Nat} {row : Row} : pg79 pc = some row → vOK 79 pc row = true := tr_all v_79 (fun x h => by unfold pg79; rw [h]; rfl)
theorem vp_80 {pc : Nat} {row : Row} : pg80 pc = some row → vOK 80 pc row = true := tr_all v_80 (fun x h => by unfold pg80; rw [h]; rfl)
theorem vp_81 {pc : Nat} {row : Row} : pg81 pc = some row → vOK 81 pc row = true := tr_all v_81 (fun x h => by unfold pg81; rw [h]; rfl)
theorem vp_82 {pc : Nat} {row : Row} : pg82 pc = some row → vOK 82 pc row = true := tr_all v_82 (fun x h => by unfold pg82; rw [h]; rfl)
theorem vp_83 {pc : Nat} {row : Row} : pg83 pc = some row → vOK 83 pc row = true := tr_all v_83 (fun x h => by unfold pg83; rw [h]; rfl)
theorem vp_84 {pc : Nat} {row : Row} : pg84 pc = some row → vOK 84 pc row = true := tr_all v_84 (fun x h => by unfold pg84; rw [h]; rfl)
theorem vp_85 {pc : Nat} {row : Row} : pg85 pc = some row → vOK 85 pc row = true := tr_all v_85 (fun x h => by unfold pg85; rw [h]; rfl)
theorem vp_86 {pc : Nat} {row : Row} : pg86 pc = some row → vOK 86 pc row = true := tr_all v_86 (fun x h => by unfold pg86; rw [h]; rfl)
theorem vp_87 {pc : Nat} {row : Row} : pg87 pc = some row → vOK 87 pc row = true := tr_all v_87 (fun x h => by unfold pg87; rw [h]; rfl)
theorem vp_88 {pc : Nat} {row : Row} : pg88 pc = some row → vOK 88 pc row = true := tr_all v_88 (fun x h => by unfold pg88; rw [h]; rfl)
theorem vp_89 {pc : Nat} {row : Row} : pg89 pc = some row → vOK 89 pc row = true := tr_all v_89 (fun x h => by unfold pg89; rw [h]; rfl)
theorem vp_90 {pc : Nat} {row : Row} : pg90 pc = some row → vOK 90 pc row = true := tr_all v_90 (fun x h => by unfold pg90; rw [h]; rfl)
theorem vp_91 {pc : Nat} {row : Row} : pg91 pc = some row → vOK 91 pc row = true := tr_all v_91 (fun x h => by unfold pg91; rw [h]; rfl)
theorem vp_92 {pc : Nat} {row : Row} : pg92 pc = some row → vOK 92 pc row = true := tr_all v_92 (fun x h => by unfold pg92; rw [h]; rfl)
theorem vp_93 {pc : Nat} {row : Row} : pg93 pc = some row → vOK 93 pc row = true := tr_all v_93 (fun x h => by unfold pg93; rw [h]; rfl)
theorem vp_94 {pc : Nat} {row : Row} : pg94 pc = some row → vOK 94 pc row = true := tr_all v_94 (fun x h => by unfold pg94; rw [h]; rfl)
theorem vp_95 {pc : Nat} {row : Row} : pg95 pc = some row → vOK 95 pc row = true := tr_all v_95 (fun x h => by unfold pg95; rw [h]; rfl)
theorem vp_96 {pc : Nat} {row : Row} : pg96 pc = some row → vOK 96 pc row = true := tr_all v_96 (fun x h => by unfold pg96; rw [h]; rfl)
theorem vp_97 {pc : Nat} {row : Row} : pg97 pc = some row → vOK 97 pc row = true := tr_all v_97 (fun x h => by unfold pg97; rw [h]; rfl)
theorem vp_98 {pc : Nat} {row : Row} : pg98 pc = some row → vOK 98 pc row = true := tr_all v_98 (fun x h => by unfold pg98; rw [h]; rfl)
theorem vp_99 {pc : Nat} {row : Row} : pg99 pc = some row → vOK 99 pc row = true := tr_all v_99 (fun x h => by unfold pg99; rw [h]; rfl)
theorem vp_100 {pc : Nat} {row : Row} : pg100 pc = some row → vOK 100 pc row = true := tr_all v_100 (fun x h => by unfold pg100; rw [h]; rfl)
theorem vp_101 {pc : Nat} {row : Row} : pg101 pc = some row → vOK 101 pc row = true := tr_all v_101 (fun x h => by unfold pg101; rw [h]; rfl)
theorem vp_102 {pc : Nat} {row : Row} : pg102 pc = some row → vOK 102 pc row = true := tr_all v_102 (fun x h => by unfold pg102; rw [h]; rfl)
theorem vp_103 {pc : Nat} {row : Row} : pg103 pc = some row → vOK 103 pc row = true := tr_all v_103 (fun x h => by unfold pg103; rw [h]; rfl)
theorem vp_104 {pc : Nat} {row : Row} : pg104 pc = some row → vOK 104 pc row = true := tr_all v_104 (fun x h => by unfold pg104; rw [h]; rfl)
theorem vp_105 {pc : Nat} {row : Row} : pg105 pc = some row → vOK 105 pc row = true := tr_all v_105 (fun x h => by unfold pg105; rw [h]; rfl)
theorem vp_106 {pc : Nat} {row : Row} : pg106 pc = some row → vOK 106 pc row = true := tr_all v_106 (fun x h => by unfold pg106; rw [h]; rfl)
theorem vp_107 {pc : Nat} {row : Row} : pg107 pc = some row → vOK 107 pc row = true := tr_all v_107 (fun x h => by unfold pg107; rw [h]; rfl)
theorem vp_108 {pc : Nat} {row : Row} : pg108 pc = some row → vOK 108 pc row = true := tr_all v_108 (fun x h => by unfold pg108; rw [h]; rfl)
theorem vp_109 {pc : Nat} {row : Row} : pg109 pc = some row → vOK 109 pc row = true := tr_all v_109 (fun x h => by unfold pg109; rw [h]; rfl)
theorem vp_110 {pc : Nat} {row : Row} : pg110 pc = some row → vOK 110 pc row = true := tr_all v_110 (fun x h => by unfold pg110; rw [h]; rfl)
theorem vp_111 {pc : Nat} {row : Row} : pg111 pc = some row → vOK 111 pc row = true := tr_all v_111 (fun x h => by unfold pg111; rw [h]; rfl)
theorem vp_112 {pc : Nat} {row : Row} : pg112 pc = some row → vOK 112 pc row = true := tr_all v_112 (fun x h => by unfold pg112; rw [h]; rfl)
theorem vp_113 {pc : Nat} {row : Row} : pg113 pc = some row → vOK 113 pc row = true := tr_all v_113 (fun x h => by unfold pg113; rw [h]; rfl)
theorem vp_114 {pc : Nat} {row : Row} : pg114 pc = some row → vOK 114 pc row = true := tr_all v_114 (fun x h => by unfold pg114; rw [h]; rfl)
theorem vp_115 {pc : Nat} {row : Row} : pg115 pc = some row → vOK 115 pc row = true := tr_all v_115 (fun x h => by unfold pg115; rw [h]; rfl)
theorem vp_116 {pc : Nat} {row : Row} : pg116 pc = some row → vOK 116 pc row = true := tr_all v_116 (fun x h => by unfold pg116; rw [h]; rfl)
theorem vp_117 {pc : Nat} {row : Row} : pg117 pc = some row → vOK 117 pc row = true := tr_all v_117 (fun x h => by unfold pg117; rw [h]; rfl)
theorem vp_118 {pc : Nat} {row : Row} : pg118 pc = some row → vOK 118 pc row = true := tr_all v_118 (fun x h => by unfold pg118; rw [h]; rfl)
theorem vp_119 {pc : Nat} {row : Row} : pg119 pc = some row → vOK 119 pc row = true := tr_all v_119 (fun x h => by unfold pg119; rw [h]; rfl)
theorem vp_120 {pc : Nat} {row : Row} : pg120 pc = some row → vOK 120 pc row = true := tr_all v_120 (fun x h => by unfold pg120; rw [h]; rfl)
theorem vp_121 {pc : Nat} {row : Row} : pg121 pc = some row → vOK 121 pc row = true := tr_all v_121 (fun x h => by unfold pg121; rw [h]; rfl)
theorem vp_122 {pc : Nat} {row : Row} : pg122 pc = some row → vOK 122 pc row = true := tr_all v_122 (fun x h => by unfold pg122; rw [h]; rfl)
theorem vp_123 {pc : Nat} {row : Row} : pg123 pc = some row → vOK 123 pc row = true := tr_all v_123 (fun x h => by unfold pg123; rw [h]; rfl)
theorem vp_124 {pc : Nat} {row : Row} : pg124 pc = some row → vOK 124 pc row = true := tr_all v_124 (fun x h => by unfold pg124; rw [h]; rfl)
theorem vp_125 {pc : Nat} {row : Row} : pg125 pc = some row → vOK 125 pc row = true := tr_all v_125 (fun x h => by unfold pg125; rw [h]; rfl)
theorem vp_126 {pc : Nat} {row : Row} : pg126 pc = some row → vOK 126 pc row = true := tr_all v_126 (fun x h => by unfold pg126; rw [h]; rfl)
theorem vp_127 {pc : Nat} {row : Row} : pg127 pc = some row → vOK 127 pc row = true := tr_all v_127 (fun x h => by unfold pg127; rw [h]; rfl)
theorem vp_128 {pc : Nat} {row : Row} : pg128 pc = some row → vOK 128 pc row = true := tr_all v_128 (fun x h => by unfold pg128; rw [h]; rfl)
theorem vp_129 {pc : Nat} {row : Row} : pg129 pc = some row → vOK 129 pc row = true := tr_all v_129 (fun x h => by unfold pg129; rw [h]; rfl)
theorem vp_130 {pc : Nat} {row : Row} : pg130 pc = some row → vOK 130 pc row = true := tr_all v_130 (fun x h => by unfold pg130; rw [h]; rfl)
theorem vp_131 {pc : Nat} {row : Row} : pg131 pc = some row → vOK 131 pc row = true := tr_all v_131 (fun x h => by unfold pg131; rw [h]; rfl)
theorem vp_132 {pc : Nat} {row : Row} : pg132 pc = some row → vOK 132 pc row = true := tr_all v_132 (fun x h => by unfold pg132; rw [h]; rfl)
theorem vp_133 {pc : Nat} {row : Row} : pg133 pc = some row → vOK 133 pc row = true := tr_all v_133 (fun x h => by unfold pg133; rw [h]; rfl)
theorem vp_134 {pc : Nat} {row : Row} : pg134 pc = some row → vOK 134 pc row = true := tr_all v_134 (fun x h => by unfold pg134; rw [h]; rfl)
theorem vp_135 {pc : Nat} {row : Row} : pg135 pc = some row → vOK 135 pc row = true := tr_all v_135 (fun x h => by unfold pg135; rw [h]; rfl)
theorem vp_136 {pc : Nat} {row : Row} : pg136 pc = some row → vOK 136 pc row = true := tr_all v_136 (fun x h => by unfold pg136; rw [h]; rfl)
theorem vp_137 {pc : Nat} {row : Row} : pg137 pc = some row → vOK 137 pc row = true := tr_all v_137 (fun x h => by unfold pg137; rw [h]; rfl)
theorem vp_138 {pc : Nat} {row : Row} : pg138 pc = some row → vOK 138 pc row = true := tr_all v_138 (fun x h => by unfold pg138; rw [h]; rfl)
theorem vp_139 {pc : Nat} {row : Row} : pg139 pc = some row → vOK 139 pc row = true := tr_all v_139 (fun x h => by unfold pg139; rw [h]; rfl)
theorem vp_140 {pc : Nat} {row : Row} : pg140 pc = some row → vOK 140 pc row = true := tr_all v_140 (fun x h => by unfold pg140; rw [h]; rfl)
theorem vp_141 {pc : Nat} {row : Row} : pg141 pc = some row → vOK 141 pc row = true := tr_all v_141 (fun x h => by unfold pg141; rw [h]; rfl)
theorem vp_142 {pc : Nat} {row : Row} : pg142 pc = some row → vOK 142 pc row = true := tr_all v_142 (fun x h => by unfold pg142; rw [h]; rfl)
theorem vp_143 {pc : Nat} {row : Row} : pg143 pc = some row → vOK 143 pc row = true := tr_all v_143 (fun x h => by unfold pg143; rw [h]; rfl)
theorem vp_144 {pc : Nat} {row : Row} : pg144 pc = some row → vOK 144 pc row = true := tr_all v_144 (fun x h => by unfold pg144; rw [h]; rfl)
theorem vp_145 {pc : Nat} {row : Row} : pg145 pc = some row → vOK 145 pc row = true := tr_all v_145 (fun x h => by unfold pg145; rw [h]; rfl)
theorem vp_146 {pc : Nat} {row : Row} : pg146 pc = some row → vOK 146 pc row = true := tr_all v_146 (fun x h => by unfold pg146; rw [h]; rfl)
theorem vp_147 {pc : Nat} {row : Row} : pg147 pc = some row → vOK 147 pc row = true := tr_all v_147 (fun x h => by unfold pg147; rw [h]; rfl)
theorem vp_148 {pc : Nat} {row : Row} : pg148 pc = some row → vOK 148 pc row = true := tr_all v_148 (fun x h => by unfold pg148; rw [h]; rfl)
theorem vp_149 {pc : Nat} {row : Row} : pg149 pc = some row → vOK 149 pc row = true := tr_all v_149 (fun x h => by unfold pg149; rw [h]; rfl)
theorem vp_150 {pc : Nat} {row : Row} : pg150 pc = some row → vOK 150 pc row = true := tr_all v_150 (fun x h => by unfold pg150; rw [h]; rfl)
theorem vp_151 {pc : Nat} {row : Row} : pg151 pc = some row → vOK 151 pc row = true := tr_all v_151 (fun x h => by unfold pg151; rw [h]; rfl)
theorem vp_152 {pc : Nat} {row : Row} : pg152 pc = some row → vOK 152 pc row = true := tr_all v_152 (fun x h => by unfold pg152; rw [h]; rfl)
theorem vp_153 {pc : Nat} {row : Row} : pg153 pc = some row → vOK 153 pc row = true := tr_all v_153 (fun x h => by unfold pg153; rw [h]; rfl)
theorem vp_154 {pc : Nat} {row : Row} : pg154 pc = some row → vOK 154 pc row = true := tr_all v_154 (fun x h => by unfold pg154; rw [h]; rfl)
theorem vp_155 {pc : Nat} {row : Row} : pg155 pc = some row → vOK 155 pc row = true := tr_all v_155 (fun x h => by unfold pg155; rw [h]; rfl)
theorem vp_156 {pc : Nat} {row : Row} : pg156 pc = some row → vOK 156 pc row = true := tr_all v_156 (fun x h => by unfold pg156; rw [h]; rfl)
theorem vp_157 {pc : Nat} {row : Row} : pg157 pc = some row → vOK 157 pc row = true := tr_all v_157 (fun x h => by unfold pg157; rw [h]; rfl)
theorem vp_158 {pc : Nat} {row : Row} : pg158 pc = some row → vOK 158 pc row = true := tr_all v_158 (fun x h => by unfold pg158; rw [h]; rfl)
theorem vp_159 {pc : Nat} {row : Row} : pg159 pc = some row → vOK 159 pc row = true := tr_all v_159 (fun x h => by unfold pg159; rw [h]; rfl)
theorem vp_160 {pc : Nat} {row : Row} : pg160 pc = some row → vOK 160 pc row = true := tr_all v_160 (fun x h => by unfold pg160; rw [h]; rfl)
theorem vp_161 {pc : Nat} {row : Row} : pg161 pc = some row → vOK 161 pc row = true := tr_all v_161 (fun x h => by unfold pg161; rw [h]; rfl)
theorem vp_162 {pc : Nat} {row : Row} : pg162 pc = some row → vOK 162 pc row = true := tr_all v_162 (fun x h => by unfold pg162; rw [h]; rfl)
theorem vp_163 {pc : Nat} {row : Row} : pg163 pc = some row → vOK 163 pc row = true := tr_all v_163 (fun x h => by unfold pg163; rw [h]; rfl)
theorem vp_164 {pc : Nat} {row : Row} : pg164 pc = some row → vOK 164 pc row = true := tr_all v_164 (fun x h => by unfold pg164; rw [h]; rfl)
theorem vp_165 {pc : Nat} {row : Row} : pg165 pc = some row → vOK 165 pc row = true := tr_all v_165 (fun x h => by unfold pg165; rw [h]; rfl)
theorem vp_166 {pc : Nat} {row : Row} : pg166 pc = some row → vOK 166 pc row = true := tr_all v_166 (fun x h => by unfold pg166; rw [h]; rfl)
theorem vp_167 {pc : Nat} {row : Row} : pg167 pc = some row → vOK 167 pc row = true := tr_all v_167 (fun x h => by unfold pg167; rw [h]; rfl)
theorem vp_168 {pc : Nat} {row : Row} : pg168 pc = some row → vOK 168 pc row = true := tr_all v_168 (fun x h => by unfold pg168; rw [h]; rfl)
theorem vp_169 {pc : Nat} {row : Row} : pg169 pc = some row → vOK 169 pc row = true := tr_all v_169 (fun x h => by unfold pg169; rw [h]; rfl)
theorem vp_170 {pc : Nat} {row : Row} : pg170 pc = some row → vOK 170 pc row = true := tr_all v_170 (fun x h => by unfold pg170; rw [h]; rfl)
theorem vp_171 {pc : Nat} {row : Row} : pg171 pc = some row → vOK 171 pc row = true := tr_all v_171 (fun x h => by unfold pg171; rw [h]; rfl)
theorem vp_172 {pc : Nat} {row : Row} : pg172 pc = some row → vOK 172 pc row = true := tr_all v_172 (fun x h => by unfold pg172; rw [h]; rfl)
theorem vp_173 {pc : Nat} {row : Row} : pg173 pc = some row → vOK 173 pc row = true := tr_all v_173 (fun x h => by unfold pg173; rw [h]; rfl)
theorem vp_174 {pc : Nat} {row : Row} : pg174 pc = some row → vOK 174 pc row = true := tr_all v_174 (fun x h => by unfold pg174; rw [h]; rfl)
theorem vp_175 {pc : Nat} {row : Row} : pg175 pc = some row → vOK 175 pc row = true := tr_all v_175 (fun x h => by unfold pg175; rw [h]; rfl)
theorem vp_176 {pc : Nat} {row : Row} : pg176 pc = some row → vOK 176 pc row = true := tr_all v_176 (fun x h => by unfold pg176; rw [h]; rfl)
theorem vp_177 {pc : Nat} {row : Row} : pg177 pc = some row → vOK 177 pc row = true := tr_all v_177 (fun x h => by unfold pg177; rw [h]; rfl)
theorem vp_178 {pc : Nat} {row : Row} : pg178 pc = some row → vOK 178 pc row = true := tr_all v_178 (fun x h => by unfold pg178; rw [h]; rfl)
theorem vp_179 {pc : Nat} {row : Row} : pg179 pc = some row → vOK 179 pc row = true := tr_all v_179 (fun x h => by unfold pg179; rw [h]; rfl)
theorem vp_180 {pc : Nat} {row : Row} : pg180 pc = some row → vOK 180 pc row = true := tr_all v_180 (fun x h => by unfold pg180; rw [h]; rfl)
theorem vp_181 {pc : Nat} {row : Row} : pg181 pc = some row → vOK 181 pc row = true := tr_all v_181 (fun x h => by unfold pg181; rw [h]; rfl)
theorem vp_182 {pc : Nat} {row : Row} : pg182 pc = some row → vOK 182 pc row = true := tr_all v_182 (fun x h => by unfold pg182; rw [h]; rfl)
theorem vp_183 {pc : Nat} {row : Row} : pg183 pc = some row → vOK 183 pc row = true := tr_all v_183 (fun x h => by unfold pg183; rw [h]; rfl)
theorem vp_184 {pc : Nat} {row : Row} : pg184 pc = some row → vOK 184 pc row = true := tr_all v_184 (fun x h => by unfold pg184; rw [h]; rfl)
theorem vp_185 {pc : Nat} {row : Row} : pg185 pc = some row → vOK 185 pc row = true := tr_all v_185 (fun x h => by unfold pg185; rw [h]; rfl)
theorem vp_186 {pc : Nat} {row : Row} : pg186 pc = some row → vOK 186 pc row = true := tr_all v_186 (fun x h => by unfold pg186; rw [h]; rfl)
theorem vp_187 {pc : Nat} {row : Row} : pg187 pc = some row → vOK 187 pc row = true := tr_all v_187 (fun x h => by unfold pg187; rw [h]; rfl)
theorem vp_188 {pc : Nat} {row : Row} : pg188 pc = some row → vOK 188 pc row = true := tr_all v_188 (fun x h => by unfold pg188; rw [h]; rfl)
theorem vp_189 {pc : Nat} {row : Row} : pg189 pc = some row → vOK 189 pc row = true := tr_all v_189 (fun x h => by unfold pg189; rw [h]; rfl)
theorem vp_190 {pc : Nat} {row : Row} : pg190 pc = some row → vOK 190 pc row = true := tr_all v_190 (fun x h => by unfold pg190; rw [h]; rfl)
theorem vp_191 {pc : Nat} {row : Row} : pg191 pc = some row → vOK 191 pc row = true := tr_all v_191 (fun x h => by unfold pg191; rw [h]; rfl)
theorem vp_192 {pc : Nat} {row : Row} : pg192 pc = some row → vOK 192 pc row = true := tr_all v_192 (fun x h => by unfold pg192; rw [h]; rfl)
theorem vp_193 {pc : Nat} {row : Row} : pg193 pc = some row → vOK 193 pc row = true := tr_all v_193 (fun x h => by unfold pg193; rw [h]; rfl)
theorem vp_194 {pc : Nat} {row : Row} : pg194 pc = some row → vOK 194 pc row = true := tr_all v_194 (fun x h => by unfold pg194; rw [h]; rfl)
theorem vp_195 {pc : Nat} {row : Row} : pg195 pc = some row → vOK 195 pc row = true := tr_all v_195 (fun x h => by unfold pg195; rw [h]; rfl)
theorem vp_196 {pc : Nat} {row : Row} : pg196 pc = some row → vOK 196 pc row = true := tr_all v_196 (fun x h => by unfold pg196; rw [h]; rfl)
theorem vp_197 {pc : Nat} {row : Row} : pg197 pc = some row → vOK 197 pc row = true := tr_all v_197 (fun x h => by unfold pg197; rw [h]; rfl)
theorem vp_198 {pc : Nat} {row : Row} : pg198 pc = some row → vOK 198 pc row = true := tr_all v_198 (fun x h => by unfold pg198; rw [h]; rfl)
theorem vp_199 {pc : Nat} {row : Row} : pg199 pc = some row → vOK 199 pc row = true := tr_all v_199 (fun x h => by unfold pg199; rw [h]; rfl)
theorem vp_200 {pc : Nat} {row : Row} : pg200 pc = some row → vOK 200 pc row = true := tr_all v_200 (fun x h => by unfold pg200; rw [h]; rfl)
theorem vp_201 {pc : Nat} {row : Row} : pg201 pc = some row → vOK 201 pc row = true := tr_all v_201 (fun x h => by unfold pg201; rw [h]; rfl)
theorem vp_202 {pc : Nat} {row : Row} : pg202 pc = some row → vOK 202 pc row = true := tr_all v_202 (fun x h => by unfold pg202; rw [h]; rfl)
theorem vp_203 {pc : Nat} {row : Row} : pg203 pc = some row → vOK 203 pc row = true := tr_all v_203 (fun x h => by unfold pg203; rw [h]; rfl)
theorem vp_204 {pc : Nat} {row : Row} : pg204 pc = some row → vOK 204 pc row = true := tr_all v_204 (fun x h => by unfold pg204; rw [h]; rfl)
theorem vp_205 {pc : Nat} {row : Row} : pg205 pc = some row → vOK 205 pc row = true := tr_all v_205 (fun x h => by unfold pg205; rw [h]; rfl)
theorem vp_209 {pc : Nat} {row : Row} : pg209 pc = some row → vOK 209 pc row = true := tr_all v_209 (fun x h => by unfold pg209; rw [h]; rfl)
theorem vp_210 {pc : Nat} {row : Row} : pg210 pc = some row → vOK 210 pc row = true := tr_all v_210 (fun x h => by unfold pg210; rw [h]; rfl)
theorem vp_211 {pc : Nat} {row : Row} : pg211 pc = some row → vOK 211 pc row = true := tr_all v_211 (fun x h => by unfold pg211; rw [h]; rfl)
theorem vp_212 {pc : Nat} {row : Row} : pg212 pc = some row → vOK 212 pc row = true := tr_all v_212 (fun x h => by unfold pg212; rw [h]; rfl)
theorem vp_213 {pc : Nat} {row : Row} : pg213 pc = some row → vOK 213 pc row = true := tr_all v_213 (fun x h => by unfold pg213; rw [h]; rfl)
theorem vp_214 {pc : Nat} {row : Row} : pg214 pc = some row → vOK 214 pc row = true := tr_all v_214 (fun x h => by unfold pg214; rw [h]; rfl)
theorem vp_215 {pc : Nat} {row : Row} : pg215 pc = some row → vOK 215 pc row = true := tr_all v_215 (fun x h => by unfold pg215; rw [h]; rfl)
theorem vp_216 {pc : Nat} {row : Row} : pg216 pc = some row → vOK 216 pc row = true := tr_all v_216 (fun x h => by unfold pg216; rw [h]; rfl)
theorem vp_217 {pc : Nat} {row : Row} : pg217 pc = some row → vOK 217 pc row = true := tr_all v_217 (fun x h => by unfold pg217; rw [h]; rfl)
theorem vp_218 {pc : Nat} {row : Row} : pg218 pc = some row → vOK 218 pc row = true := tr_all v_218 (fun x h => by unfold pg218; rw [h]; rfl)
theorem vp_219 {pc : Nat} {row : Row} : pg219 pc = some row → vOK 219 pc row = true := tr_all v_219 (fun x h => by unfold pg219; rw [h]; rfl)
theorem vp_221 {pc : Nat} {row : Row} : pg221 pc = some row → vOK 221 pc row = true := tr_all v_221 (fun x h => by unfold pg221; rw [h]; rfl)
theorem vp_222 {pc : Nat} {row : Row} : pg222 pc = some row → vOK 222 pc row = true := tr_all v_222 (fun x h => by unfold pg222; rw [h]; rfl)
theorem vp_223 {pc : Nat} {row : Row} : pg223 pc = some row → vOK 223 pc row = true := tr_all v_223 (fun x h => by unfold pg223; rw [h]; rfl)
theorem vp_224 {pc : Nat} {row : Row} : pg224 pc = some row → vOK 224 pc row = true := tr_all v_224 (fun x h => by unfold pg224; rw [h]; rfl)
theorem vp_234 {pc : Nat} {row : Row} : pg234 pc = some row → vOK 234 pc row = true := tr_all v_234 (fun x h => by unfold pg234; rw [h]; rfl)
theorem vp_236 {pc : Nat} {row : Row} : pg236 pc = some row → vOK 236 pc row = true := by
  intro h
  by_cases h0 : pc < 50
  · exact tr_cut v_236_0 (by omega) (by omega) h
  by_cases h50 : pc < 100
  · exact tr_cut v_236_50 (by omega) (by omega) h
  by_cases h100 : pc < 150
  · exact tr_cut v_236_100 (by omega) (by omega) h
  by_cases h150 : pc < 200
  · exact tr_cut v_236_150 (by omega) (by omega) h
  by_cases h200 : pc < 250
  · exact tr_cut v_236_200 (by omega) (by omega) h
  by_cases h250 : pc < 300
  · exact tr_cut v_236_250 (by omega) (by omega) h
  by_cases h300 : pc < 350
  · exact tr_cut v_236_300 (by omega) (by omega) h
  by_cases h350 : pc < 400
  · exact tr_cut v_236_350 (by omega) (by omega) h
  by_cases h400 : pc < 450
  · exact tr_cut v_236_400 (by omega) (by omega) h
  by_cases h450 : pc < 500
  · exact tr_cut v_236_450 (by omega) (by omega) h
  by_cases h500 : pc < 550
  · exact tr_cut v_236_500 (by omega) (by omega) h
  by_cases h550 : pc < 600
  · exact tr_cut v_236_550 (by omega) (by omega) h
  by_cases h600 : pc < 650
  · exact tr_cut v_236_600 (by omega) (by omega) h
  by_cases h650 : pc < 700
  · exact tr_cut v_236_650 (by omega) (by omega) h
  by_cases h700 : pc < 750
  · exact tr_cut v_236_700 (by omega) (by omega) h
  by_cases h750 : pc < 800
  · exact tr_cut v_236_750 (by omega) (by omega) h
  by_cases h800 : pc < 850
  · exact tr_cut v_236_800 (by omega) (by omega) h
  by_cases h850 : pc < 900
  · exact tr_cut v_236_850 (by omega) (by omega) h
  by_cases h900 : pc < 950
  · exact tr_cut v_236_900 (by omega) (by omega) h
  by_cases h950 : pc < 1000
  · exact tr_cut v_236_950 (by omega) (by omega) h
  by_cases h1000 : pc < 1050
  · exact tr_cut v_236_1000 (by omega) (by omega) h
  by_cases h1050 : pc < 1100
  · exact tr_cut v_236_1050 (by omega) (by omega) h
  by_cases h1100 : pc < 1150
  · exact tr_cut v_236_1100 (by omega) (by omega) h
  by_cases h1150 : pc < 1200
  · exact tr_cut v_236_1150 (by omega) (by omega) h
  by_cases h1200 : pc < 1250
  · exact tr_cut v_236_1200 (by omega) (by omega) h
  by_cases h1250 : pc < 1300
  · exact tr_cut v_236_1250 (by omega) (by omega) h
  by_cases h1300 : pc < 1350
  · exact tr_cut v_236_1300 (by omega) (by omega) h
  by_cases h1350 : pc < 1400
  · exact tr_cut v_236_1350 (by omega) (by omega) h
  by_cases h1400 : pc < 1450
  · exact tr_cut v_236_1400 (by omega) (by omega) h
  · unfold pg236 at h
    rw [Nat.ble_eq_true_of_le (by omega : 1410 ≤ pc)] at h
    cases h
set_option maxRecDepth 20000 in
theorem vAll {mi pc : Nat} {row : Row} : prog mi pc = some row → vOK mi pc row = true := by
  unfold prog
  exact tr_ble (tr_ble (tr_ble (tr_ble (tr_ble (tr_ble (tr_ble (tr_ble (tr_beq (P := fun z => vOK z pc row = true) vp_236) (tr_beq (P := fun z => vOK z pc row = true) vp_234)) (tr_ble (tr_beq (P := fun z => vOK z pc row = true) vp_224) (tr_beq (P := fun z => vOK z pc row = true) vp_223))) (tr_ble (tr_ble (tr_beq (P := fun z => vOK z pc row = true) vp_222) (tr_beq (P := fun z => vOK z pc row = true) vp_221)) (tr_beq (P := fun z => vOK z pc row = true) vp_219))) (tr_ble (tr_ble (tr_ble (tr_beq (P := fun z => vOK z pc row = true) vp_218) (tr_beq (P := fun z => vOK z pc row = true) vp_217)) (tr_ble (tr_beq (P := fun z => vOK z pc row = true) vp_216) (tr_beq (P := fun z => vOK z pc row = true) vp_215))) (tr_ble (tr_ble (tr_beq (P := fun z => vOK z pc row = true) vp_214) (tr_beq (P := fun z => vOK z pc row = true) vp_213)) (tr_beq (P := fun z => vOK z pc row = true) vp_212)))) (tr_ble (tr_ble (tr_ble (tr_ble (tr_beq (P := fun z => vOK z pc row = true) vp_211) (tr_beq (P := fun z => vOK z pc row = true) vp_210)) (tr_ble (tr_beq (P := fun z => vOK z pc row = true) vp_209) (tr_beq (P := fun z => vOK z pc row = true) vp_205))) (tr_ble (tr_ble (tr_beq (P := fun z => vOK z pc row = true) vp_204) (tr_beq (P := fun z => vOK z pc row = true) vp_203)) (tr_beq (P := fun z => vOK z pc row = true) vp_202))) (tr_ble (tr_ble (tr_ble (tr_beq (P := fun z => vOK z pc row = true) vp_201) (tr_beq (P := fun z => vOK z pc row = true) vp_200)) (tr_ble (tr_beq (P := fun z => vOK z pc row = true) vp_199) (tr_beq (P := fun z => vOK z pc row = true) vp_198))) (tr_ble (tr_ble (tr_beq (P := fun z => vOK z pc row = true) vp_197) (tr_beq (P := fun z => vOK z pc row = true) vp_196)) (tr_beq (P := fun z => vOK z pc row = true) vp_195))))) (tr_ble (tr_ble (tr_ble (tr_ble (tr_ble (tr_beq (P := fun z => vOK z pc row = true) vp_194) (tr_beq (P := fun z => vOK z pc row = true) vp_193)) (tr_ble (tr_beq (P := fun z => vOK z pc row = true) vp_192) (tr_beq (P := fun z => vOK z pc row = true) vp_191))) (tr_ble (tr_ble (tr_beq (P := fun z => vOK z pc row = true) vp_190) (tr_beq (P := fun z => vOK z pc row = true) vp_189)) (tr_beq (P := fun z => vOK z pc row = true) vp_188))) (tr_ble (tr_ble (tr_ble (tr_beq (P := fun z => vOK z pc row = true) vp_187) (tr_beq (P := fun z => vOK z pc row = true) vp_186)) (tr_ble (tr_beq (P := fun z => vOK z pc row = true) vp_185) (tr_beq (P := fun z => vOK z pc row = true) vp_184))) (tr_ble (tr_ble (tr_beq (P := fun z => vOK z pc row = true) vp_183) (tr_beq (P := fun z => vOK z pc row = true) vp_182)) (tr_beq (P := fun z => vOK z pc row = true) vp_181)))) (tr_ble (tr_ble (tr_ble (tr_ble (tr_beq (P := fun z => vOK z pc row = true) vp_180) (tr_beq (P := fun z => vOK z pc row = true) vp_179)) (tr_ble (tr_beq (P := fun z => vOK z pc row = true) vp_178) (tr_beq (P := fun z => vOK z pc row = true) vp_177))) (tr_ble (tr_ble (tr_beq (P := fun z => vOK z pc row = true) vp_176) (tr_beq (P := fun z => vOK z pc row = true) vp_175)) (tr_beq (P := fun z => vOK z pc row = true) vp_174))) (tr_ble (tr_ble (tr_ble (tr_beq (P := fun z => vOK z pc row = true) vp_173) (tr_beq (P := fun z => vOK z pc row = true) vp_172)) (tr_ble (tr_beq (P := fun z => vOK z pc row = true) vp_171) (tr_beq (P := fun z => vOK z pc row = true) vp_170))) (tr_ble (tr_ble (tr_beq (P := fun z => vOK z pc row = true) vp_169) (tr_beq (P := fun z => vOK z pc row = true) vp_168)) (tr_beq (P := fun z => vOK z pc row = true) vp_167)))))) (tr_ble (tr_ble (tr_ble (tr_ble (tr_ble (tr_ble (tr_beq (P := fun z => vOK z pc row = true) vp_166) (tr_beq (P := fun z => vOK z pc row = true) vp_165)) (tr_ble (tr_beq (P := fun z => vOK z pc row = true) vp_164) (tr_beq (P := fun z => vOK z pc row = true) vp_163))) (tr_ble (tr_ble (tr_beq (P := fun z => vOK z pc row = true) vp_162) (tr_beq (P := fun z => vOK z pc row = true) vp_161)) (tr_beq (P := fun z => vOK z pc row = true) vp_160))) (tr_ble (tr_ble (tr_ble (tr_beq (P := fun z => vOK z pc row = true) vp_159) (tr_beq (P := fun z => vOK z pc row = true) vp_158)) (tr_ble (tr_beq (P := fun z => vOK z pc row = true) vp_157) (tr_beq (P := fun z => vOK z pc row = true) vp_156))) (tr_ble (tr_ble (tr_beq (P := fun z => vOK z pc row = true) vp_155) (tr_beq (P := fun z => vOK z pc row = true) vp_154)) (tr_beq (P := fun z => vOK z pc row = true) vp_153)))) (tr_ble (tr_ble (tr_ble (tr_ble (tr_beq (P := fun z => vOK z pc row = true) vp_152) (tr_beq (P := fun z => vOK z pc row = true) vp_151)) (tr_ble (tr_beq (P := fun z => vOK z pc row = true) vp_150) (tr_beq (P := fun z => vOK z pc row = true) vp_149))) (tr_ble (tr_ble (tr_beq (P := fun z => vOK z pc row = true) vp_148) (tr_beq (P := fun z => vOK z pc row = true) vp_147)) (tr_beq (P := fun z => vOK z pc row = true) vp_146))) (tr_ble (tr_ble (tr_ble (tr_beq (P := fun z => vOK z pc row = true) vp_145) (tr_beq (P := fun z => vOK z pc row = true) vp_144)) (tr_ble (tr_beq (P := fun z => vOK z pc row = true) vp_143) (tr_beq (P := fun z => vOK z pc row = true) vp_142))) (tr_ble (tr_ble (tr_beq (P := fun z => vOK z pc row = true) vp_141) (tr_beq (P := fun z => vOK z pc row = true) vp_140)) (tr_beq (P := fun z => vOK z pc row = true) vp_139))))) (tr_ble (tr_ble (tr_ble (tr_ble (tr_ble (tr_beq (P := fun z => vOK z pc row = true) vp_138) (tr_beq (P := fun z => vOK z pc row = true) vp_137)) (tr_ble (tr_beq (P := fun z => vOK z pc row = true) vp_136) (tr_beq (P := fun z => vOK z pc row = true) vp_135))) (tr_ble (tr_ble (tr_beq (P := fun z => vOK z pc row = true) vp_134) (tr_beq (P := fun z => vOK z pc row = true) vp_133)) (tr_beq (P := fun z => vOK z pc row = true) vp_132))) (tr_ble (tr_ble (tr_ble (tr_beq (P := fun z => vOK z pc row = true) vp_131) (tr_beq (P := fun z => vOK z pc row = true) vp_130)) (tr_ble (tr_beq (P := fun z => vOK z pc row = true) vp_129) (tr_beq (P := fun z => vOK z pc row = true) vp_128))) (tr_ble (tr_ble (tr_beq (P := fun z => vOK z pc row = true) vp_127) (tr_beq (P := fun z => vOK z pc row = true) vp_126)) (tr_beq (P := fun z => vOK z pc row = true) vp_125)))) (tr_ble (tr_ble (tr_ble (tr_ble (tr_beq (P := fun z => vOK z pc row = true) vp_124) (tr_beq (P := fun z => vOK z pc row = true) vp_123)) (tr_ble (tr_beq (P := fun z => vOK z pc row = true) vp_122) (tr_beq (P := fun z => vOK z pc row = true) vp_121))) (tr_ble (tr_ble (tr_beq (P := fun z => vOK z pc row = true) vp_120) (tr_beq (P := fun z => vOK z pc row = true) vp_119)) (tr_beq (P := fun z => vOK z pc row = true) vp_118))) (tr_ble (tr_ble (tr_ble (tr_beq (P := fun z => vOK z pc row = true) vp_117) (tr_beq (P := fun z => vOK z pc row = true) vp_116)) (tr_beq (P := fun z => vOK z pc row = true) vp_115)) (tr_ble (tr_ble (tr_beq (P := fun z => vOK z pc row = true) vp_114) (tr_beq (P := fun z => vOK z pc row = true) vp_113)) (tr_beq (P := fun z => vOK z pc row = true) vp_112))))))) (tr_ble (tr_ble (tr_ble (tr_ble (tr_ble (tr_ble (tr_ble (tr_beq (P := fun z => vOK z pc row = true) vp_111) (tr_beq (P := fun z => vOK z pc row = true) vp_110)) (tr_ble (tr_beq (P := fun z => vOK z pc row = true) vp_109) (tr_beq (P := fun z => vOK z pc row = true) vp_108))) (tr_ble (tr_ble (tr_beq (P := fun z => vOK z pc row = true) vp_107) (tr_beq (P := fun z => vOK z pc row = true) vp_106)) (tr_beq (P := fun z => vOK z pc row = true) vp_105))) (tr_ble (tr_ble (tr_ble (tr_beq (P := fun z => vOK z pc row = true) vp_104) (tr_beq (P := fun z => vOK z pc row = true) vp_103)) (tr_ble (tr_beq (P := fun z => vOK z pc row = true) vp_102) (tr_beq (P := fun z => vOK z pc row = true) vp_101))) (tr_ble (tr_ble (tr_beq (P := fun z => vOK z pc row = true) vp_100) (tr_beq (P := fun z => vOK z pc row = true) vp_99)) (tr_beq (P := fun z => vOK z pc row = true) vp_98)))) (tr_ble (tr_ble (tr_ble (tr_ble (tr_beq (P := fun z => vOK z pc row = true) vp_97) (tr_beq (P := fun z => vOK z pc row = true) vp_96)) (tr_ble (tr_beq (P := fun z => vOK z pc row = true) vp_95) (tr_beq (P := fun z => vOK z pc row = true) vp_94))) (tr_ble (tr_ble (tr_beq (P := fun z => vOK z pc row = true) vp_93) (tr_beq (P := fun z => vOK z pc row = true) vp_92)) (tr_beq (P := fun z => vOK z pc row = true) vp_91))) (tr_ble (tr_ble (tr_ble (tr_beq (P := fun z => vOK z pc row = true) vp_90) (tr_beq (P := fun z => vOK z pc row = true) vp_89)) (tr_ble (tr_beq (P := fun z => vOK z pc row = true) vp_88) (tr_beq (P := fun z => vOK z pc row = true) vp_87))) (tr_ble (tr_ble (tr_beq (P := fun z => vOK z pc row = true) vp_86) (tr_beq (P := fun z => vOK z pc row = true) vp_85)) (tr_beq (P := fun z => vOK z pc row = true) vp_84))))) (tr_ble (tr_ble (tr_ble (tr_ble (tr_ble (tr_beq (P := fun z => vOK z pc row = true) vp_83) (tr_beq (P := fun z => vOK z pc row = true) vp_82)) (tr_ble (tr_beq (P := fun z => vOK z pc row = true) vp_81) (tr_beq (P := fun z => vOK z pc row = true) vp_80))) (tr_ble (tr_ble (tr_beq (P := fun z => vOK z pc row = true) vp_79) (tr_beq (P := fun z => vOK z pc row = true) vp_78)) (tr_beq (P := fun z => vOK z pc row = true) vp_77))) (tr_ble (tr_ble (tr_ble (tr_beq (P := fun z => vOK z pc row = true) vp_76) (tr_beq (P := fun z => vOK z pc row = true) vp_75)) (tr_ble (tr_beq (P := fun z => vOK z pc row = true) vp_74) (tr_beq (P := fun z => vOK z pc row = true) vp_73))) (tr_ble (tr_ble (tr_beq (P := fun z => vOK z pc row = true) vp_72) (tr_beq (P := fun z => vOK z pc row = true) vp_71)) (tr_beq (P := fun z => vOK z pc row = true) vp_70)))) (tr_ble (tr_ble (tr_ble (tr_ble (tr_beq (P := fun z => vOK z pc row = true) vp_69) (tr_beq (P := fun z => vOK z pc row = true) vp_68)) (tr_ble (tr_beq (P := fun z => vOK z pc row = true) vp_67) (tr_beq (P := fun z => vOK z pc row = true) vp_66))) (tr_ble (tr_ble (tr_beq (P := fun z => vOK z pc row = true) vp_65) (tr_beq (P := fun z => vOK z pc row = true) vp_64)) (tr_beq (P := fun z => vOK z pc row = true) vp_63))) (tr_ble (tr_ble (tr_ble (tr_beq (P := fun z => vOK z pc row = true) vp_62) (tr_beq (P := fun z => vOK z pc row = true) vp_61)) (tr_ble (tr_beq (P := fun z => vOK z pc row = true) vp_60) (tr_beq (P := fun z => vOK z pc row = true) vp_59))) (tr_ble (tr_ble (tr_beq (P := fun z => vOK z pc row = true) vp_58) (tr_beq (P := fun z => vOK z pc row = true) vp_57)) (tr_beq (P := fun z => vOK z pc row = true) vp_56)))))) (tr_ble (tr_ble (tr_ble (tr_ble (tr_ble (tr_ble (tr_beq (P := fun z => vOK z pc row = true) vp_55) (tr_beq (P := fun z => vOK z pc row = true) vp_54)) (tr_ble (tr_beq (P := fun z => vOK z pc row = true) vp_53) (tr_beq (P := fun z => vOK z pc row = true) vp_52))) (tr_ble (tr_ble (tr_beq (P := fun z => vOK z pc row = true) vp_51) (tr_beq (P := fun z => vOK z pc row = true) vp_50)) (tr_beq (P := fun z => vOK z pc row = true) vp_49))) (tr_ble (tr_ble (tr_ble (tr_beq (P := fun z => vOK z pc row = true) vp_48) (tr_beq (P := fun z => vOK z pc row = true) vp_47)) (tr_ble (tr_beq (P := fun z => vOK z pc row = true) vp_46) (tr_beq (P := fun z => vOK z pc row = true) vp_45))) (tr_ble (tr_ble (tr_beq (P := fun z => vOK z pc row = true) vp_44) (tr_beq (P := fun z => vOK z pc row = true) vp_43)) (tr_beq (P := fun z => vOK z pc row = true) vp_42)))) (tr_ble (tr_ble (tr_ble (tr_ble (tr_beq (P := fun z => vOK z pc row = true) vp_40) (tr_beq (P := fun z => vOK z pc row = true) vp_39)) (tr_ble (tr_beq (P := fun z => vOK z pc row = true) vp_38) (tr_beq (P := fun z => vOK z pc row = true) vp_37))) (tr_ble (tr_ble (tr_beq (P := fun z => vOK z pc row = true) vp_36) (tr_beq (P := fun z => vOK z pc row = true) vp_35)) (tr_beq (P := fun z => vOK z pc row = true) vp_34))) (tr_ble (tr_ble (tr_ble (tr_beq (P := fun z => vOK z pc row = true) vp_33) (tr_beq (P := fun z => vOK z pc row = true) vp_32)) (tr_ble (tr_beq (P := fun z => vOK z pc row = true) vp_31) (tr_beq (P := fun z => vOK z pc row = true) vp_30))) (tr_ble (tr_ble (tr_beq (P := fun z => vOK z pc row = true) vp_29) (tr_beq (P := fun z => vOK z pc row = true) vp_28)) (tr_beq (P := fun z => vOK z pc row = true) vp_27))))) (tr_ble (tr_ble (tr_ble (tr_ble (tr_ble (tr_beq (P := fun z => vOK z pc row = true) vp_26) (tr_beq (P := fun z => vOK z pc row = true) vp_25)) (tr_ble (tr_beq (P := fun z => vOK z pc row = true) vp_24) (tr_beq (P := fun z => vOK z pc row = true) vp_23))) (tr_ble (tr_ble (tr_beq (P := fun z => vOK z pc row = true) vp_22) (tr_beq (P := fun z => vOK z pc row = true) vp_21)) (tr_beq (P := fun z => vOK z pc row = true) vp_20))) (tr_ble (tr_ble (tr_ble (tr_beq (P := fun z => vOK z pc row = true) vp_19) (tr_beq (P := fun z => vOK z pc row = true) vp_18)) (tr_ble (tr_beq (P := fun z => vOK z pc row = true) vp_17) (tr_beq (P := fun z => vOK z pc row = true) vp_16))) (tr_ble (tr_ble (tr_beq (P := fun z => vOK z pc row = true) vp_15) (tr_beq (P := fun z => vOK z pc row = true) vp_14)) (tr_beq (P := fun z => vOK z pc row = true) vp_13)))) (tr_ble (tr_ble (tr_ble (tr_ble (tr_beq (P := fun z => vOK z pc row = true) vp_12) (tr_beq (P := fun z => vOK z pc row = true) vp_11)) (tr_ble (tr_beq (P := fun z => vOK z pc row = true) vp_10) (tr_beq (P := fun z => vOK z pc row = true) vp_9))) (tr_ble (tr_ble (tr_beq (P := fun z => vOK z pc row = true) vp_8) (tr_beq (P := fun z => vOK z pc row = true) vp_7)) (tr_beq (P := fun z => vOK z pc row = true) vp_6))) (tr_ble (tr_ble (tr_ble (tr_beq (P := fun z => vOK z pc row = true) vp_5) (tr_beq (P := fun z => vOK z pc row = true) vp_4)) (tr_beq (P := fun z => vOK z pc row = true) vp_3)) (tr_ble (tr_ble (tr_beq (P := fun z => vOK z pc row = true) vp_2) (tr_beq (P := fun z => vOK z pc row = true) vp_1)) (tr_beq (P := fun z => vOK z pc row = true) vp_0)))))))
