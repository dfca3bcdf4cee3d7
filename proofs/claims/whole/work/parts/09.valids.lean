theorem v_0 : (List.range 13).all (fun x => match pg0 x with
  | none => true
  | some r => vOK 0 x r) = true := by decide +kernel
theorem v_1 : (List.range 30).all (fun x => match pg1 x with
  | none => true
  | some r => vOK 1 x r) = true := by decide +kernel
theorem v_2 : (List.range 321).all (fun x => match pg2 x with
  | none => true
  | some r => vOK 2 x r) = true := by decide +kernel
theorem v_3 : (List.range 28).all (fun x => match pg3 x with
  | none => true
  | some r => vOK 3 x r) = true := by decide +kernel
theorem v_4 : (List.range 54).all (fun x => match pg4 x with
  | none => true
  | some r => vOK 4 x r) = true := by decide +kernel
theorem v_5 : (List.range 85).all (fun x => match pg5 x with
  | none => true
  | some r => vOK 5 x r) = true := by decide +kernel
theorem v_6 : (List.range 20).all (fun x => match pg6 x with
  | none => true
  | some r => vOK 6 x r) = true := by decide +kernel
theorem v_7 : (List.range 15).all (fun x => match pg7 x with
  | none => true
  | some r => vOK 7 x r) = true := by decide +kernel
theorem v_8 : (List.range 31).all (fun x => match pg8 x with
  | none => true
  | some r => vOK 8 x r) = true := by decide +kernel
theorem v_9 : (List.range 55).all (fun x => match pg9 x with
  | none => true
  | some r => vOK 9 x r) = true := by decide +kernel
theorem v_10 : (List.range 18).all (fun x => match pg10 x with
  | none => true
  | some r => vOK 10 x r) = true := by decide +kernel
theorem v_11 : (List.range 115).all (fun x => match pg11 x with
  | none => true
  | some r => vOK 11 x r) = true := by decide +kernel
theorem v_12 : (List.range 16).all (fun x => match pg12 x with
  | none => true
  | some r => vOK 12 x r) = true := by decide +kernel
theorem v_13 : (List.range 54).all (fun x => match pg13 x with
  | none => true
  | some r => vOK 13 x r) = true := by decide +kernel
theorem v_14 : (List.range 59).all (fun x => match pg14 x with
  | none => true
  | some r => vOK 14 x r) = true := by decide +kernel
theorem v_15 : (List.range 19).all (fun x => match pg15 x with
  | none => true
  | some r => vOK 15 x r) = true := by decide +kernel
theorem v_16 : (List.range 78).all (fun x => match pg16 x with
  | none => true
  | some r => vOK 16 x r) = true := by decide +kernel
theorem v_17 : (List.range 66).all (fun x => match pg17 x with
  | none => true
  | some r => vOK 17 x r) = true := by decide +kernel
theorem v_18 : (List.range 83).all (fun x => match pg18 x with
  | none => true
  | some r => vOK 18 x r) = true := by decide +kernel
theorem v_19 : (List.range 61).all (fun x => match pg19 x with
  | none => true
  | some r => vOK 19 x r) = true := by decide +kernel
theorem v_20 : (List.range 29).all (fun x => match pg20 x with
  | none => true
  | some r => vOK 20 x r) = true := by decide +kernel
theorem v_21 : (List.range 66).all (fun x => match pg21 x with
  | none => true
  | some r => vOK 21 x r) = true := by decide +kernel
theorem v_22 : (List.range 54).all (fun x => match pg22 x with
  | none => true
  | some r => vOK 22 x r) = true := by decide +kernel
theorem v_23 : (List.range 145).all (fun x => match pg23 x with
  | none => true
  | some r => vOK 23 x r) = true := by decide +kernel
theorem v_24 : (List.range 142).all (fun x => match pg24 x with
  | none => true
  | some r => vOK 24 x r) = true := by decide +kernel
theorem v_25 : (List.range 32).all (fun x => match pg25 x with
  | none => true
  | some r => vOK 25 x r) = true := by decide +kernel
theorem v_26 : (List.range 85).all (fun x => match pg26 x with
  | none => true
  | some r => vOK 26 x r) = true := by decide +kernel
theorem v_27 : (List.range 18).all (fun x => match pg27 x with
  | none => true
  | some r => vOK 27 x r) = true := by decide +kernel
theorem v_28 : (List.range 32).all (fun x => match pg28 x with
  | none => true
  | some r => vOK 28 x r) = true := by decide +kernel
theorem v_29 : (List.range 72).all (fun x => match pg29 x with
  | none => true
  | some r => vOK 29 x r) = true := by decide +kernel
theorem v_30 : (List.range 13).all (fun x => match pg30 x with
  | none => true
  | some r => vOK 30 x r) = true := by decide +kernel
theorem v_31 : (List.range 72).all (fun x => match pg31 x with
  | none => true
  | some r => vOK 31 x r) = true := by decide +kernel
theorem v_32 : (List.range 38).all (fun x => match pg32 x with
  | none => true
  | some r => vOK 32 x r) = true := by decide +kernel
theorem v_33 : (List.range 37).all (fun x => match pg33 x with
  | none => true
  | some r => vOK 33 x r) = true := by decide +kernel
theorem v_34 : (List.range 46).all (fun x => match pg34 x with
  | none => true
  | some r => vOK 34 x r) = true := by decide +kernel
theorem v_35 : (List.range 88).all (fun x => match pg35 x with
  | none => true
  | some r => vOK 35 x r) = true := by decide +kernel
theorem v_36 : (List.range 106).all (fun x => match pg36 x with
  | none => true
  | some r => vOK 36 x r) = true := by decide +kernel
theorem v_37 : (List.range 31).all (fun x => match pg37 x with
  | none => true
  | some r => vOK 37 x r) = true := by decide +kernel
theorem v_38 : (List.range 51).all (fun x => match pg38 x with
  | none => true
  | some r => vOK 38 x r) = true := by decide +kernel
theorem v_39 : (List.range 51).all (fun x => match pg39 x with
  | none => true
  | some r => vOK 39 x r) = true := by decide +kernel
theorem v_40 : (List.range 129).all (fun x => match pg40 x with
  | none => true
  | some r => vOK 40 x r) = true := by decide +kernel
theorem v_42 : (List.range 29).all (fun x => match pg42 x with
  | none => true
  | some r => vOK 42 x r) = true := by decide +kernel
theorem v_43 : (List.range 16).all (fun x => match pg43 x with
  | none => true
  | some r => vOK 43 x r) = true := by decide +kernel
theorem v_44 : (List.range 30).all (fun x => match pg44 x with
  | none => true
  | some r => vOK 44 x r) = true := by decide +kernel
theorem v_45 : (List.range 11).all (fun x => match pg45 x with
  | none => true
  | some r => vOK 45 x r) = true := by decide +kernel
theorem v_46 : (List.range 43).all (fun x => match pg46 x with
  | none => true
  | some r => vOK 46 x r) = true := by decide +kernel
theorem v_47 : (List.range 170).all (fun x => match pg47 x with
  | none => true
  | some r => vOK 47 x r) = true := by decide +kernel
theorem v_48 : (List.range 99).all (fun x => match pg48 x with
  | none => true
  | some r => vOK 48 x r) = true := by decide +kernel
theorem v_49 : (List.range 191).all (fun x => match pg49 x with
  | none => true
  | some r => vOK 49 x r) = true := by decide +kernel
theorem v_50 : (List.range 94).all (fun x => match pg50 x with
  | none => true
  | some r => vOK 50 x r) = true := by decide +kernel
theorem v_51 : (List.range 207).all (fun x => match pg51 x with
  | none => true
  | some r => vOK 51 x r) = true := by decide +kernel
theorem v_52 : (List.range 38).all (fun x => match pg52 x with
  | none => true
  | some r => vOK 52 x r) = true := by decide +kernel
theorem v_53 : (List.range 93).all (fun x => match pg53 x with
  | none => true
  | some r => vOK 53 x r) = true := by decide +kernel
theorem v_54 : (List.range 83).all (fun x => match pg54 x with
  | none => true
  | some r => vOK 54 x r) = true := by decide +kernel
theorem v_55 : (List.range 121).all (fun x => match pg55 x with
  | none => true
  | some r => vOK 55 x r) = true := by decide +kernel
theorem v_56 : (List.range 41).all (fun x => match pg56 x with
  | none => true
  | some r => vOK 56 x r) = true := by decide +kernel
theorem v_57 : (List.range 76).all (fun x => match pg57 x with
  | none => true
  | some r => vOK 57 x r) = true := by decide +kernel
theorem v_58 : (List.range 66).all (fun x => match pg58 x with
  | none => true
  | some r => vOK 58 x r) = true := by decide +kernel
theorem v_59 : (List.range 75).all (fun x => match pg59 x with
  | none => true
  | some r => vOK 59 x r) = true := by decide +kernel
theorem v_60 : (List.range 142).all (fun x => match pg60 x with
  | none => true
  | some r => vOK 60 x r) = true := by decide +kernel
theorem v_61 : (List.range 51).all (fun x => match pg61 x with
  | none => true
  | some r => vOK 61 x r) = true := by decide +kernel
theorem v_62 : (List.range 131).all (fun x => match pg62 x with
  | none => true
  | some r => vOK 62 x r) = true := by decide +kernel
theorem v_63 : (List.range 127).all (fun x => match pg63 x with
  | none => true
  | some r => vOK 63 x r) = true := by decide +kernel
theorem v_64 : (List.range 107).all (fun x => match pg64 x with
  | none => true
  | some r => vOK 64 x r) = true := by decide +kernel
theorem v_65 : (List.range 64).all (fun x => match pg65 x with
  | none => true
  | some r => vOK 65 x r) = true := by decide +kernel
theorem v_66 : (List.range 10).all (fun x => match pg66 x with
  | none => true
  | some r => vOK 66 x r) = true := by decide +kernel
theorem v_67 : (List.range 48).all (fun x => match pg67 x with
  | none => true
  | some r => vOK 67 x r) = true := by decide +kernel
theorem v_68 : (List.range 108).all (fun x => match pg68 x with
  | none => true
  | some r => vOK 68 x r) = true := by decide +kernel
theorem v_69 : (List.range 80).all (fun x => match pg69 x with
  | none => true
  | some r => vOK 69 x r) = true := by decide +kernel
theorem v_70 : (List.range 57).all (fun x => match pg70 x with
  | none => true
  | some r => vOK 70 x r) = true := by decide +kernel
theorem v_71 : (List.range 94).all (fun x => match pg71 x with
  | none => true
  | some r => vOK 71 x r) = true := by decide +kernel
theorem v_72 : (List.range 56).all (fun x => match pg72 x with
  | none => true
  | some r => vOK 72 x r) = true := by decide +kernel
theorem v_73 : (List.range 62).all (fun x => match pg73 x with
  | none => true
  | some r => vOK 73 x r) = true := by decide +kernel
theorem v_74 : (List.range 102).all (fun x => match pg74 x with
  | none => true
  | some r => vOK 74 x r) = true := by decide +kernel
theorem v_75 : (List.range 24).all (fun x => match pg75 x with
  | none => true
  | some r => vOK 75 x r) = true := by decide +kernel
theorem v_76 : (List.range 29).all (fun x => match pg76 x with
  | none => true
  | some r => vOK 76 x r) = true := by decide +kernel
theorem v_77 : (List.range 114).all (fun x => match pg77 x with
  | none => true
  | some r => vOK 77 x r) = true := by decide +kernel
theorem v_78 : (List.range 35).all (fun x => match pg78 x with
  | none => true
  | some r => vOK 78 x r) = true := by decide +kernel
theorem v_79 : (List.range 52).all (fun x => match pg79 x with
  | none => true
  | some r => vOK 79 x r) = true := by decide +kernel
theorem v_80 : (List.range 109).all (fun x => match pg80 x with
  | none => true
  | some r => vOK 80 x r) = true := by decide +kernel
theorem v_81 : (List.range 65).all (fun x => match pg81 x with
  | none => true
  | some r => vOK 81 x r) = true := by decide +kernel
theorem v_82 : (List.range 62).all (fun x => match pg82 x with
  | none => true
  | some r => vOK 82 x r) = true := by decide +kernel
theorem v_83 : (List.range 42).all (fun x => match pg83 x with
  | none => true
  | some r => vOK 83 x r) = true := by decide +kernel
theorem v_84 : (List.range 131).all (fun x => match pg84 x with
  | none => true
  | some r => vOK 84 x r) = true := by decide +kernel
theorem v_85 : (List.range 16).all (fun x => match pg85 x with
  | none => true
  | some r => vOK 85 x r) = true := by decide +kernel
theorem v_86 : (List.range 10).all (fun x => match pg86 x with
  | none => true
  | some r => vOK 86 x r) = true := by decide +kernel
theorem v_87 : (List.range 15).all (fun x => match pg87 x with
  | none => true
  | some r => vOK 87 x r) = true := by decide +kernel
theorem v_88 : (List.range 8).all (fun x => match pg88 x with
  | none => true
  | some r => vOK 88 x r) = true := by decide +kernel
theorem v_89 : (List.range 7).all (fun x => match pg89 x with
  | none => true
  | some r => vOK 89 x r) = true := by decide +kernel
theorem v_90 : (List.range 7).all (fun x => match pg90 x with
  | none => true
  | some r => vOK 90 x r) = true := by decide +kernel
theorem v_91 : (List.range 38).all (fun x => match pg91 x with
  | none => true
  | some r => vOK 91 x r) = true := by decide +kernel
theorem v_92 : (List.range 34).all (fun x => match pg92 x with
  | none => true
  | some r => vOK 92 x r) = true := by decide +kernel
theorem v_93 : (List.range 115).all (fun x => match pg93 x with
  | none => true
  | some r => vOK 93 x r) = true := by decide +kernel
theorem v_94 : (List.range 33).all (fun x => match pg94 x with
  | none => true
  | some r => vOK 94 x r) = true := by decide +kernel
theorem v_95 : (List.range 22).all (fun x => match pg95 x with
  | none => true
  | some r => vOK 95 x r) = true := by decide +kernel
theorem v_96 : (List.range 112).all (fun x => match pg96 x with
  | none => true
  | some r => vOK 96 x r) = true := by decide +kernel
theorem v_97 : (List.range 33).all (fun x => match pg97 x with
  | none => true
  | some r => vOK 97 x r) = true := by decide +kernel
theorem v_98 : (List.range 56).all (fun x => match pg98 x with
  | none => true
  | some r => vOK 98 x r) = true := by decide +kernel
theorem v_99 : (List.range 78).all (fun x => match pg99 x with
  | none => true
  | some r => vOK 99 x r) = true := by decide +kernel
theorem v_100 : (List.range 53).all (fun x => match pg100 x with
  | none => true
  | some r => vOK 100 x r) = true := by decide +kernel
theorem v_101 : (List.range 107).all (fun x => match pg101 x with
  | none => true
  | some r => vOK 101 x r) = true := by decide +kernel
theorem v_102 : (List.range 86).all (fun x => match pg102 x with
  | none => true
  | some r => vOK 102 x r) = true := by decide +kernel
theorem v_103 : (List.range 131).all (fun x => match pg103 x with
  | none => true
  | some r => vOK 103 x r) = true := by decide +kernel
theorem v_104 : (List.range 121).all (fun x => match pg104 x with
  | none => true
  | some r => vOK 104 x r) = true := by decide +kernel
theorem v_105 : (List.range 78).all (fun x => match pg105 x with
  | none => true
  | some r => vOK 105 x r) = true := by decide +kernel
theorem v_106 : (List.range 26).all (fun x => match pg106 x with
  | none => true
  | some r => vOK 106 x r) = true := by decide +kernel
theorem v_107 : (List.range 37).all (fun x => match pg107 x with
  | none => true
  | some r => vOK 107 x r) = true := by decide +kernel
theorem v_108 : (List.range 792).all (fun x => match pg108 x with
  | none => true
  | some r => vOK 108 x r) = true := by decide +kernel
theorem v_109 : (List.range 16).all (fun x => match pg109 x with
  | none => true
  | some r => vOK 109 x r) = true := by decide +kernel
theorem v_110 : (List.range 15).all (fun x => match pg110 x with
  | none => true
  | some r => vOK 110 x r) = true := by decide +kernel
theorem v_111 : (List.range 11).all (fun x => match pg111 x with
  | none => true
  | some r => vOK 111 x r) = true := by decide +kernel
theorem v_112 : (List.range 15).all (fun x => match pg112 x with
  | none => true
  | some r => vOK 112 x r) = true := by decide +kernel
theorem v_113 : (List.range 35).all (fun x => match pg113 x with
  | none => true
  | some r => vOK 113 x r) = true := by decide +kernel
theorem v_114 : (List.range 13).all (fun x => match pg114 x with
  | none => true
  | some r => vOK 114 x r) = true := by decide +kernel
theorem v_115 : (List.range 9).all (fun x => match pg115 x with
  | none => true
  | some r => vOK 115 x r) = true := by decide +kernel
theorem v_116 : (List.range 9).all (fun x => match pg116 x with
  | none => true
  | some r => vOK 116 x r) = true := by decide +kernel
theorem v_117 : (List.range 9).all (fun x => match pg117 x with
  | none => true
  | some r => vOK 117 x r) = true := by decide +kernel
theorem v_118 : (List.range 9).all (fun x => match pg118 x with
  | none => true
  | some r => vOK 118 x r) = true := by decide +kernel
theorem v_119 : (List.range 27).all (fun x => match pg119 x with
  | none => true
  | some r => vOK 119 x r) = true := by decide +kernel
theorem v_120 : (List.range 160).all (fun x => match pg120 x with
  | none => true
  | some r => vOK 120 x r) = true := by decide +kernel
theorem v_121 : (List.range 88).all (fun x => match pg121 x with
  | none => true
  | some r => vOK 121 x r) = true := by decide +kernel
theorem v_122 : (List.range 104).all (fun x => match pg122 x with
  | none => true
  | some r => vOK 122 x r) = true := by decide +kernel
theorem v_123 : (List.range 112).all (fun x => match pg123 x with
  | none => true
  | some r => vOK 123 x r) = true := by decide +kernel
theorem v_124 : (List.range 30).all (fun x => match pg124 x with
  | none => true
  | some r => vOK 124 x r) = true := by decide +kernel
theorem v_125 : (List.range 36).all (fun x => match pg125 x with
  | none => true
  | some r => vOK 125 x r) = true := by decide +kernel
theorem v_126 : (List.range 74).all (fun x => match pg126 x with
  | none => true
  | some r => vOK 126 x r) = true := by decide +kernel
theorem v_127 : (List.range 51).all (fun x => match pg127 x with
  | none => true
  | some r => vOK 127 x r) = true := by decide +kernel
theorem v_128 : (List.range 25).all (fun x => match pg128 x with
  | none => true
  | some r => vOK 128 x r) = true := by decide +kernel
theorem v_129 : (List.range 22).all (fun x => match pg129 x with
  | none => true
  | some r => vOK 129 x r) = true := by decide +kernel
theorem v_130 : (List.range 37).all (fun x => match pg130 x with
  | none => true
  | some r => vOK 130 x r) = true := by decide +kernel
theorem v_131 : (List.range 13).all (fun x => match pg131 x with
  | none => true
  | some r => vOK 131 x r) = true := by decide +kernel
theorem v_132 : (List.range 65).all (fun x => match pg132 x with
  | none => true
  | some r => vOK 132 x r) = true := by decide +kernel
theorem v_133 : (List.range 21).all (fun x => match pg133 x with
  | none => true
  | some r => vOK 133 x r) = true := by decide +kernel
theorem v_134 : (List.range 53).all (fun x => match pg134 x with
  | none => true
  | some r => vOK 134 x r) = true := by decide +kernel
theorem v_135 : (List.range 73).all (fun x => match pg135 x with
  | none => true
  | some r => vOK 135 x r) = true := by decide +kernel
theorem v_136 : (List.range 110).all (fun x => match pg136 x with
  | none => true
  | some r => vOK 136 x r) = true := by decide +kernel
theorem v_137 : (List.range 91).all (fun x => match pg137 x with
  | none => true
  | some r => vOK 137 x r) = true := by decide +kernel
theorem v_138 : (List.range 230).all (fun x => match pg138 x with
  | none => true
  | some r => vOK 138 x r) = true := by decide +kernel
theorem v_139 : (List.range 75).all (fun x => match pg139 x with
  | none => true
  | some r => vOK 139 x r) = true := by decide +kernel
theorem v_140 : (List.range 60).all (fun x => match pg140 x with
  | none => true
  | some r => vOK 140 x r) = true := by decide +kernel
theorem v_141 : (List.range 70).all (fun x => match pg141 x with
  | none => true
  | some r => vOK 141 x r) = true := by decide +kernel
theorem v_142 : (List.range 61).all (fun x => match pg142 x with
  | none => true
  | some r => vOK 142 x r) = true := by decide +kernel
theorem v_143 : (List.range 19).all (fun x => match pg143 x with
  | none => true
  | some r => vOK 143 x r) = true := by decide +kernel
theorem v_144 : (List.range 29).all (fun x => match pg144 x with
  | none => true
  | some r => vOK 144 x r) = true := by decide +kernel
theorem v_145 : (List.range 44).all (fun x => match pg145 x with
  | none => true
  | some r => vOK 145 x r) = true := by decide +kernel
theorem v_146 : (List.range 65).all (fun x => match pg146 x with
  | none => true
  | some r => vOK 146 x r) = true := by decide +kernel
theorem v_147 : (List.range 262).all (fun x => match pg147 x with
  | none => true
  | some r => vOK 147 x r) = true := by decide +kernel
theorem v_148 : (List.range 104).all (fun x => match pg148 x with
  | none => true
  | some r => vOK 148 x r) = true := by decide +kernel
theorem v_149 : (List.range 147).all (fun x => match pg149 x with
  | none => true
  | some r => vOK 149 x r) = true := by decide +kernel
theorem v_150 : (List.range 40).all (fun x => match pg150 x with
  | none => true
  | some r => vOK 150 x r) = true := by decide +kernel
theorem v_151 : (List.range 40).all (fun x => match pg151 x with
  | none => true
  | some r => vOK 151 x r) = true := by decide +kernel
theorem v_152 : (List.range 91).all (fun x => match pg152 x with
  | none => true
  | some r => vOK 152 x r) = true := by decide +kernel
theorem v_153 : (List.range 8).all (fun x => match pg153 x with
  | none => true
  | some r => vOK 153 x r) = true := by decide +kernel
theorem v_154 : (List.range 28).all (fun x => match pg154 x with
  | none => true
  | some r => vOK 154 x r) = true := by decide +kernel
theorem v_155 : (List.range 163).all (fun x => match pg155 x with
  | none => true
  | some r => vOK 155 x r) = true := by decide +kernel
theorem v_156 : (List.range 18).all (fun x => match pg156 x with
  | none => true
  | some r => vOK 156 x r) = true := by decide +kernel
theorem v_157 : (List.range 36).all (fun x => match pg157 x with
  | none => true
  | some r => vOK 157 x r) = true := by decide +kernel
theorem v_158 : (List.range 58).all (fun x => match pg158 x with
  | none => true
  | some r => vOK 158 x r) = true := by decide +kernel
theorem v_159 : (List.range 58).all (fun x => match pg159 x with
  | none => true
  | some r => vOK 159 x r) = true := by decide +kernel
theorem v_160 : (List.range 47).all (fun x => match pg160 x with
  | none => true
  | some r => vOK 160 x r) = true := by decide +kernel
theorem v_161 : (List.range 111).all (fun x => match pg161 x with
  | none => true
  | some r => vOK 161 x r) = true := by decide +kernel
theorem v_162 : (List.range 226).all (fun x => match pg162 x with
  | none => true
  | some r => vOK 162 x r) = true := by decide +kernel
theorem v_163 : (List.range 118).all (fun x => match pg163 x with
  | none => true
  | some r => vOK 163 x r) = true := by decide +kernel
theorem v_164 : (List.range 139).all (fun x => match pg164 x with
  | none => true
  | some r => vOK 164 x r) = true := by decide +kernel
theorem v_165 : (List.range 139).all (fun x => match pg165 x with
  | none => true
  | some r => vOK 165 x r) = true := by decide +kernel
theorem v_166 : (List.range 264).all (fun x => match pg166 x with
  | none => true
  | some r => vOK 166 x r) = true := by decide +kernel
theorem v_167 : (List.range 72).all (fun x => match pg167 x with
  | none => true
  | some r => vOK 167 x r) = true := by decide +kernel
theorem v_168 : (List.range 75).all (fun x => match pg168 x with
  | none => true
  | some r => vOK 168 x r) = true := by decide +kernel
theorem v_169 : (List.range 68).all (fun x => match pg169 x with
  | none => true
  | some r => vOK 169 x r) = true := by decide +kernel
theorem v_170 : (List.range 103).all (fun x => match pg170 x with
  | none => true
  | some r => vOK 170 x r) = true := by decide +kernel
theorem v_171 : (List.range 60).all (fun x => match pg171 x with
  | none => true
  | some r => vOK 171 x r) = true := by decide +kernel
theorem v_172 : (List.range 6).all (fun x => match pg172 x with
  | none => true
  | some r => vOK 172 x r) = true := by decide +kernel
theorem v_173 : (List.range 74).all (fun x => match pg173 x with
  | none => true
  | some r => vOK 173 x r) = true := by decide +kernel
theorem v_174 : (List.range 74).all (fun x => match pg174 x with
  | none => true
  | some r => vOK 174 x r) = true := by decide +kernel
theorem v_175 : (List.range 50).all (fun x => match pg175 x with
  | none => true
  | some r => vOK 175 x r) = true := by decide +kernel
theorem v_176 : (List.range 28).all (fun x => match pg176 x with
  | none => true
  | some r => vOK 176 x r) = true := by decide +kernel
theorem v_177 : (List.range 26).all (fun x => match pg177 x with
  | none => true
  | some r => vOK 177 x r) = true := by decide +kernel
theorem v_178 : (List.range 92).all (fun x => match pg178 x with
  | none => true
  | some r => vOK 178 x r) = true := by decide +kernel
theorem v_179 : (List.range 72).all (fun x => match pg179 x with
  | none => true
  | some r => vOK 179 x r) = true := by decide +kernel
theorem v_180 : (List.range 91).all (fun x => match pg180 x with
  | none => true
  | some r => vOK 180 x r) = true := by decide +kernel
theorem v_181 : (List.range 39).all (fun x => match pg181 x with
  | none => true
  | some r => vOK 181 x r) = true := by decide +kernel
theorem v_182 : (List.range 70).all (fun x => match pg182 x with
  | none => true
  | some r => vOK 182 x r) = true := by decide +kernel
theorem v_183 : (List.range 80).all (fun x => match pg183 x with
  | none => true
  | some r => vOK 183 x r) = true := by decide +kernel
theorem v_184 : (List.range 41).all (fun x => match pg184 x with
  | none => true
  | some r => vOK 184 x r) = true := by decide +kernel
theorem v_185 : (List.range 107).all (fun x => match pg185 x with
  | none => true
  | some r => vOK 185 x r) = true := by decide +kernel
theorem v_186 : (List.range 361).all (fun x => match pg186 x with
  | none => true
  | some r => vOK 186 x r) = true := by decide +kernel
theorem v_187 : (List.range 366).all (fun x => match pg187 x with
  | none => true
  | some r => vOK 187 x r) = true := by decide +kernel
theorem v_188 : (List.range 30).all (fun x => match pg188 x with
  | none => true
  | some r => vOK 188 x r) = true := by decide +kernel
theorem v_189 : (List.range 10).all (fun x => match pg189 x with
  | none => true
  | some r => vOK 189 x r) = true := by decide +kernel
theorem v_190 : (List.range 96).all (fun x => match pg190 x with
  | none => true
  | some r => vOK 190 x r) = true := by decide +kernel
theorem v_191 : (List.range 20).all (fun x => match pg191 x with
  | none => true
  | some r => vOK 191 x r) = true := by decide +kernel
theorem v_192 : (List.range 16).all (fun x => match pg192 x with
  | none => true
  | some r => vOK 192 x r) = true := by decide +kernel
theorem v_193 : (List.range 91).all (fun x => match pg193 x with
  | none => true
  | some r => vOK 193 x r) = true := by decide +kernel
theorem v_194 : (List.range 15).all (fun x => match pg194 x with
  | none => true
  | some r => vOK 194 x r) = true := by decide +kernel
theorem v_195 : (List.range 80).all (fun x => match pg195 x with
  | none => true
  | some r => vOK 195 x r) = true := by decide +kernel
theorem v_196 : (List.range 59).all (fun x => match pg196 x with
  | none => true
  | some r => vOK 196 x r) = true := by decide +kernel
theorem v_197 : (List.range 30).all (fun x => match pg197 x with
  | none => true
  | some r => vOK 197 x r) = true := by decide +kernel
theorem v_198 : (List.range 79).all (fun x => match pg198 x with
  | none => true
  | some r => vOK 198 x r) = true := by decide +kernel
theorem v_199 : (List.range 82).all (fun x => match pg199 x with
  | none => true
  | some r => vOK 199 x r) = true := by decide +kernel
theorem v_200 : (List.range 8).all (fun x => match pg200 x with
  | none => true
  | some r => vOK 200 x r) = true := by decide +kernel
theorem v_201 : (List.range 97).all (fun x => match pg201 x with
  | none => true
  | some r => vOK 201 x r) = true := by decide +kernel
theorem v_202 : (List.range 55).all (fun x => match pg202 x with
  | none => true
  | some r => vOK 202 x r) = true := by decide +kernel
theorem v_203 : (List.range 66).all (fun x => match pg203 x with
  | none => true
  | some r => vOK 203 x r) = true := by decide +kernel
theorem v_204 : (List.range 52).all (fun x => match pg204 x with
  | none => true
  | some r => vOK 204 x r) = true := by decide +kernel
theorem v_205 : (List.range 179).all (fun x => match pg205 x with
  | none => true
  | some r => vOK 205 x r) = true := by decide +kernel
theorem v_209 : (List.range 53).all (fun x => match pg209 x with
  | none => true
  | some r => vOK 209 x r) = true := by decide +kernel
theorem v_210 : (List.range 11).all (fun x => match pg210 x with
  | none => true
  | some r => vOK 210 x r) = true := by decide +kernel
theorem v_211 : (List.range 11).all (fun x => match pg211 x with
  | none => true
  | some r => vOK 211 x r) = true := by decide +kernel
theorem v_212 : (List.range 11).all (fun x => match pg212 x with
  | none => true
  | some r => vOK 212 x r) = true := by decide +kernel
theorem v_213 : (List.range 11).all (fun x => match pg213 x with
  | none => true
  | some r => vOK 213 x r) = true := by decide +kernel
theorem v_214 : (List.range 25).all (fun x => match pg214 x with
  | none => true
  | some r => vOK 214 x r) = true := by decide +kernel
theorem v_215 : (List.range 7).all (fun x => match pg215 x with
  | none => true
  | some r => vOK 215 x r) = true := by decide +kernel
theorem v_216 : (List.range 37).all (fun x => match pg216 x with
  | none => true
  | some r => vOK 216 x r) = true := by decide +kernel
theorem v_217 : (List.range 15).all (fun x => match pg217 x with
  | none => true
  | some r => vOK 217 x r) = true := by decide +kernel
theorem v_218 : (List.range 19).all (fun x => match pg218 x with
  | none => true
  | some r => vOK 218 x r) = true := by decide +kernel
theorem v_219 : (List.range 10).all (fun x => match pg219 x with
  | none => true
  | some r => vOK 219 x r) = true := by decide +kernel
theorem v_221 : (List.range 15).all (fun x => match pg221 x with
  | none => true
  | some r => vOK 221 x r) = true := by decide +kernel
theorem v_222 : (List.range 17).all (fun x => match pg222 x with
  | none => true
  | some r => vOK 222 x r) = true := by decide +kernel
theorem v_223 : (List.range 37).all (fun x => match pg223 x with
  | none => true
  | some r => vOK 223 x r) = true := by decide +kernel
theorem v_224 : (List.range 33).all (fun x => match pg224 x with
  | none => true
  | some r => vOK 224 x r) = true := by decide +kernel
theorem v_234 : (List.range 18).all (fun x => match pg234 x with
  | none => true
  | some r => vOK 234 x r) = true := by decide +kernel
