def fX8_init_0 (S : Mem) : O := ltm (mput S 1 (fun _ => 0)) fun S_1 => ltm (mput S_1 2 (fun _ => 0)) fun S_2 => ltm (mput S_2 3 (fun _ => 0)) fun S_3 => ltm (mset S_3 3 ((0 : Int32)).toNatClampNeg (2 : Int32)) fun S_4 => ltm (mset S_4 3 ((1 : Int32)).toNatClampNeg (0 : Int32)) fun S_5 => ltm (mset S_5 3 ((2 : Int32)).toNatClampNeg (1 : Int32)) fun S_6 => ltm (mset S_6 3 ((3 : Int32)).toNatClampNeg (0 : Int32)) fun S_7 => ltm (mset S_7 3 ((4 : Int32)).toNatClampNeg (0 : Int32)) fun S_8 => ltm (mset S_8 3 ((5 : Int32)).toNatClampNeg (2 : Int32)) fun S_9 => ltm (mset S_9 3 ((6 : Int32)).toNatClampNeg (1 : Int32)) fun S_10 => ltm (mset S_10 3 ((7 : Int32)).toNatClampNeg (2 : Int32)) fun S_11 => ltm (mset S_11 3 ((8 : Int32)).toNatClampNeg (0 : Int32)) fun S_12 => ltm (mset S_12 3 ((9 : Int32)).toNatClampNeg (0 : Int32)) fun S_13 => ltm (mset S_13 3 ((10 : Int32)).toNatClampNeg (3 : Int32)) fun S_14 => ltm (mset S_14 3 ((11 : Int32)).toNatClampNeg (2 : Int32)) fun S_15 => ltm (mset S_15 3 ((12 : Int32)).toNatClampNeg (3 : Int32)) fun S_16 => ltm (mset S_16 3 ((13 : Int32)).toNatClampNeg (0 : Int32)) fun S_17 => ltm (mset S_17 3 ((14 : Int32)).toNatClampNeg (0 : Int32)) fun S_18 => ltm (mset S_18 3 ((15 : Int32)).toNatClampNeg (3 : Int32)) fun S_19 => ltm (mset S_19 3 ((16 : Int32)).toNatClampNeg (3 : Int32)) fun S_20 => ltm (mset S_20 3 ((17 : Int32)).toNatClampNeg (4 : Int32)) fun S_21 => ltm (mset S_21 3 ((18 : Int32)).toNatClampNeg (0 : Int32)) fun S_22 => ltm (mset S_22 3 ((19 : Int32)).toNatClampNeg (0 : Int32)) fun S_23 => ltm (mset S_23 3 ((20 : Int32)).toNatClampNeg (4 : Int32)) fun S_24 => ltm (mset S_24 3 ((21 : Int32)).toNatClampNeg (4 : Int32)) fun S_25 => ltm (mset S_25 3 ((22 : Int32)).toNatClampNeg (5 : Int32)) fun S_26 => ltm (mset S_26 3 ((23 : Int32)).toNatClampNeg (0 : Int32)) fun S_27 => ltm (mset S_27 3 ((24 : Int32)).toNatClampNeg (0 : Int32)) fun S_28 => ltm (mset S_28 3 ((25 : Int32)).toNatClampNeg (4 : Int32)) fun S_29 => ltm (mset S_29 3 ((26 : Int32)).toNatClampNeg (4 : Int32)) fun S_30 => ltm (mset S_30 3 ((27 : Int32)).toNatClampNeg (5 : Int32)) fun S_31 => ltm (mset S_31 3 ((28 : Int32)).toNatClampNeg (0 : Int32)) fun S_32 => ltm (mset S_32 3 ((29 : Int32)).toNatClampNeg (0 : Int32)) fun S_33 => ltm (mset S_33 3 ((30 : Int32)).toNatClampNeg (4 : Int32)) fun S_34 => ltm (mset S_34 3 ((31 : Int32)).toNatClampNeg (4 : Int32)) fun S_35 => ltm (mset S_35 3 ((32 : Int32)).toNatClampNeg (5 : Int32)) fun S_36 => ltm (mset S_36 3 ((33 : Int32)).toNatClampNeg (0 : Int32)) fun S_37 => ltm (mset S_37 3 ((34 : Int32)).toNatClampNeg (0 : Int32)) fun S_38 => ltm (mset S_38 3 ((35 : Int32)).toNatClampNeg (4 : Int32)) fun S_39 => ltm (mset S_39 3 ((36 : Int32)).toNatClampNeg (4 : Int32)) fun S_40 => ltm (mset S_40 3 ((37 : Int32)).toNatClampNeg (5 : Int32)) fun S_41 => ltm (mset S_41 3 ((38 : Int32)).toNatClampNeg (0 : Int32)) fun S_42 => ltm (mset S_42 3 ((39 : Int32)).toNatClampNeg (0 : Int32)) fun S_43 => ltm (mset S_43 3 ((40 : Int32)).toNatClampNeg (5 : Int32)) fun S_44 => ltm (mset S_44 3 ((41 : Int32)).toNatClampNeg (3 : Int32)) fun S_45 => ltm (mset S_45 3 ((42 : Int32)).toNatClampNeg (4 : Int32)) fun S_46 => ltm (mset S_46 3 ((43 : Int32)).toNatClampNeg (0 : Int32)) fun S_47 => ltm (mset S_47 3 ((44 : Int32)).toNatClampNeg (0 : Int32)) fun S_48 => ltm (mset S_48 3 ((45 : Int32)).toNatClampNeg (5 : Int32)) fun S_49 => ltm (mset S_49 3 ((46 : Int32)).toNatClampNeg (2 : Int32)) fun S_50 => ltm (mset S_50 3 ((47 : Int32)).toNatClampNeg (3 : Int32)) fun S_51 => ltm (mset S_51 3 ((48 : Int32)).toNatClampNeg (0 : Int32)) fun S_52 => ltm (mset S_52 3 ((49 : Int32)).toNatClampNeg (0 : Int32)) fun S_53 => ltm (mset S_53 3 ((50 : Int32)).toNatClampNeg (6 : Int32)) fun S_54 => ltm (mset S_54 3 ((51 : Int32)).toNatClampNeg (1 : Int32)) fun S_55 => ltm (mset S_55 3 ((52 : Int32)).toNatClampNeg (2 : Int32)) fun S_56 => ltm (mset S_56 3 ((53 : Int32)).toNatClampNeg (0 : Int32)) fun S_57 => ltm (mset S_57 3 ((54 : Int32)).toNatClampNeg (0 : Int32)) fun S_58 => ltm (mset S_58 3 ((55 : Int32)).toNatClampNeg (6 : Int32)) fun S_59 => ltm (mset S_59 3 ((56 : Int32)).toNatClampNeg (0 : Int32)) fun S_60 => ltm (mset S_60 3 ((57 : Int32)).toNatClampNeg (1 : Int32)) fun S_61 => ltm (mset S_61 3 ((58 : Int32)).toNatClampNeg (0 : Int32)) fun S_62 => ltm (mset S_62 3 ((59 : Int32)).toNatClampNeg (0 : Int32)) fun S_63 => ltm (mput S_63 4 (fun _ => 0)) fun S_64 => ltm (mset S_64 4 ((0 : Int32)).toNatClampNeg (5 : Int32)) fun S_65 => ltm (mset S_65 4 ((1 : Int32)).toNatClampNeg (0 : Int32)) fun S_66 => ltm (mput S_66 5 (fun _ => 0)) fun S_67 => ltm (mput S_67 6 (fun _ => 0)) fun S_68 => ltm (mput S_68 7 (fun _ => 0)) fun S_69 => ltm (mput S_69 8 (fun _ => 0)) fun S_70 => ltm (mput S_70 9 (fun _ => 0)) fun S_71 => ltm (mput S_71 10 (fun _ => 0)) fun S_72 => ltm (mput S_72 11 (fun _ => 0)) fun S_73 => ltm (mput S_73 12 (fun _ => 0)) fun S_74 => ltm (mset S_74 12 ((0 : Int32)).toNatClampNeg (32 : Int32)) fun S_75 => ltm (mset S_75 12 ((1 : Int32)).toNatClampNeg (115 : Int32)) fun S_76 => ltm (mset S_76 12 ((2 : Int32)).toNatClampNeg (116 : Int32)) fun S_77 => ltm (mset S_77 12 ((3 : Int32)).toNatClampNeg (97 : Int32)) fun S_78 => ltm (mset S_78 12 ((4 : Int32)).toNatClampNeg (121 : Int32)) fun S_79 => ltm (mset S_79 12 ((5 : Int32)).toNatClampNeg (32 : Int32)) fun S_80 => ltm (mset S_80 12 ((6 : Int32)).toNatClampNeg (115 : Int32)) fun S_81 => ltm (mset S_81 12 ((7 : Int32)).toNatClampNeg (101 : Int32)) fun S_82 => ltm (mset S_82 12 ((8 : Int32)).toNatClampNeg (101 : Int32)) fun S_83 => ltm (mset S_83 12 ((9 : Int32)).toNatClampNeg (107 : Int32)) fun S_84 => ltm (mset S_84 12 ((10 : Int32)).toNatClampNeg (32 : Int32)) fun S_85 => ltm (mset S_85 12 ((11 : Int32)).toNatClampNeg (98 : Int32)) fun S_86 => ltm (mset S_86 12 ((12 : Int32)).toNatClampNeg (117 : Int32)) fun S_87 => ltm (mset S_87 12 ((13 : Int32)).toNatClampNeg (121 : Int32)) fun S_88 => ltm (mset S_88 12 ((14 : Int32)).toNatClampNeg (32 : Int32)) fun S_89 => ltm (mset S_89 12 ((15 : Int32)).toNatClampNeg (102 : Int32)) fun S_90 => ltm (mset S_90 12 ((16 : Int32)).toNatClampNeg (108 : Int32)) fun S_91 => ltm (mset S_91 12 ((17 : Int32)).toNatClampNeg (101 : Int32)) fun S_92 => ltm (mset S_92 12 ((18 : Int32)).toNatClampNeg (101 : Int32)) fun S_93 => ltm (mset S_93 12 ((19 : Int32)).toNatClampNeg (32 : Int32)) fun S_94 => ltm (mset S_94 12 ((20 : Int32)).toNatClampNeg (119 : Int32)) fun S_95 => ltm (mset S_95 12 ((21 : Int32)).toNatClampNeg (104 : Int32)) fun S_96 => ltm (mset S_96 12 ((22 : Int32)).toNatClampNeg (101 : Int32)) fun S_97 => ltm (mset S_97 12 ((23 : Int32)).toNatClampNeg (110 : Int32)) fun S_98 => ltm (mset S_98 12 ((24 : Int32)).toNatClampNeg (32 : Int32)) fun S_99 => ltm (mset S_99 12 ((25 : Int32)).toNatClampNeg (111 : Int32)) fun S_100 => ltm (mset S_100 12 ((26 : Int32)).toNatClampNeg (114 : Int32)) fun S_101 => ltm (mset S_101 12 ((27 : Int32)).toNatClampNeg (32 : Int32)) fun S_102 => ltm (mset S_102 12 ((28 : Int32)).toNatClampNeg (97 : Int32)) fun S_103 => ltm (mset S_103 12 ((29 : Int32)).toNatClampNeg (110 : Int32)) fun S_104 => ltm (mset S_104 12 ((30 : Int32)).toNatClampNeg (100 : Int32)) fun S_105 => ltm (mset S_105 12 ((31 : Int32)).toNatClampNeg (32 : Int32)) fun S_106 => ltm (mset S_106 12 ((32 : Int32)).toNatClampNeg (110 : Int32)) fun S_107 => ltm (mset S_107 12 ((33 : Int32)).toNatClampNeg (111 : Int32)) fun S_108 => ltm (mset S_108 12 ((34 : Int32)).toNatClampNeg (116 : Int32)) fun S_109 => ltm (mset S_109 12 ((35 : Int32)).toNatClampNeg (32 : Int32)) fun S_110 => ltm (mset S_110 12 ((36 : Int32)).toNatClampNeg (98 : Int32)) fun S_111 => ltm (mset S_111 12 ((37 : Int32)).toNatClampNeg (117 : Int32)) fun S_112 => ltm (mset S_112 12 ((38 : Int32)).toNatClampNeg (114 : Int32)) fun S_113 => ltm (mset S_113 12 ((39 : Int32)).toNatClampNeg (110 : Int32)) fun S_114 => ltm (mset S_114 12 ((40 : Int32)).toNatClampNeg (32 : Int32)) fun S_115 => ltm (mset S_115 12 ((41 : Int32)).toNatClampNeg (104 : Int32)) fun S_116 => ltm (mset S_116 12 ((42 : Int32)).toNatClampNeg (101 : Int32)) fun S_117 => ltm (mset S_117 12 ((43 : Int32)).toNatClampNeg (97 : Int32)) fun S_118 => ltm (mset S_118 12 ((44 : Int32)).toNatClampNeg (116 : Int32)) fun S_119 => ltm (mset S_119 12 ((45 : Int32)).toNatClampNeg (32 : Int32)) fun S_120 => ltm (mset S_120 12 ((46 : Int32)).toNatClampNeg (115 : Int32)) fun S_121 => ltm (mset S_121 12 ((47 : Int32)).toNatClampNeg (104 : Int32)) fun S_122 => ltm (mset S_122 12 ((48 : Int32)).toNatClampNeg (97 : Int32)) fun S_123 => ltm (mset S_123 12 ((49 : Int32)).toNatClampNeg (100 : Int32)) fun S_124 => ltm (mset S_124 12 ((50 : Int32)).toNatClampNeg (101 : Int32)) fun S_125 => ltm (mset S_125 12 ((51 : Int32)).toNatClampNeg (100 : Int32)) fun S_126 => ltm (mset S_126 12 ((52 : Int32)).toNatClampNeg (32 : Int32)) fun S_127 => ltm (mset S_127 12 ((53 : Int32)).toNatClampNeg (119 : Int32)) fun S_128 => ltm (mset S_128 12 ((54 : Int32)).toNatClampNeg (97 : Int32)) fun S_129 => ltm (mset S_129 12 ((55 : Int32)).toNatClampNeg (116 : Int32)) fun S_130 => ltm (mset S_130 12 ((56 : Int32)).toNatClampNeg (101 : Int32)) fun S_131 => ltm (mset S_131 12 ((57 : Int32)).toNatClampNeg (114 : Int32)) fun S_132 => ltm (mset S_132 12 ((58 : Int32)).toNatClampNeg (32 : Int32)) fun S_133 => ltm (mset S_133 12 ((59 : Int32)).toNatClampNeg (116 : Int32)) fun S_134 => ltm (mset S_134 12 ((60 : Int32)).toNatClampNeg (97 : Int32)) fun S_135 => ltm (mset S_135 12 ((61 : Int32)).toNatClampNeg (108 : Int32)) fun S_136 => ltm (mset S_136 12 ((62 : Int32)).toNatClampNeg (108 : Int32)) fun S_137 => ltm (mset S_137 12 ((63 : Int32)).toNatClampNeg (32 : Int32)) fun S_138 => ltm (mset S_138 12 ((64 : Int32)).toNatClampNeg (115 : Int32)) fun S_139 => ltm (mset S_139 12 ((65 : Int32)).toNatClampNeg (107 : Int32)) fun S_140 => ltm (mset S_140 12 ((66 : Int32)).toNatClampNeg (105 : Int32)) fun S_141 => ltm (mset S_141 12 ((67 : Int32)).toNatClampNeg (110 : Int32)) fun S_142 => ltm (mset S_142 12 ((68 : Int32)).toNatClampNeg (32 : Int32)) fun S_143 => ltm (mset S_143 12 ((69 : Int32)).toNatClampNeg (104 : Int32)) fun S_144 => ltm (mset S_144 12 ((70 : Int32)).toNatClampNeg (111 : Int32)) fun S_145 => ltm (mset S_145 12 ((71 : Int32)).toNatClampNeg (117 : Int32)) fun S_146 => ltm (mset S_146 12 ((72 : Int32)).toNatClampNeg (114 : Int32)) fun S_147 => ltm (mset S_147 12 ((73 : Int32)).toNatClampNeg (32 : Int32)) fun S_148 => ltm (mset S_148 12 ((74 : Int32)).toNatClampNeg (112 : Int32)) fun S_149 => ltm (mset S_149 12 ((75 : Int32)).toNatClampNeg (108 : Int32)) fun S_150 => ltm (mset S_150 12 ((76 : Int32)).toNatClampNeg (97 : Int32)) fun S_151 => ltm (mset S_151 12 ((77 : Int32)).toNatClampNeg (99 : Int32)) fun S_152 => ltm (mset S_152 12 ((78 : Int32)).toNatClampNeg (101 : Int32)) fun S_153 => ltm (mset S_153 12 ((79 : Int32)).toNatClampNeg (32 : Int32)) fun S_154 => ltm (mset S_154 12 ((80 : Int32)).toNatClampNeg (98 : Int32)) fun S_155 => ltm (mset S_155 12 ((81 : Int32)).toNatClampNeg (101 : Int32)) fun S_156 => ltm (mset S_156 12 ((82 : Int32)).toNatClampNeg (97 : Int32)) fun S_157 => ltm (mset S_157 12 ((83 : Int32)).toNatClampNeg (114 : Int32)) fun S_158 => ltm (mset S_158 12 ((84 : Int32)).toNatClampNeg (115 : Int32)) fun S_159 => ltm (mset S_159 12 ((85 : Int32)).toNatClampNeg (32 : Int32)) fun S_160 => ltm (mset S_160 12 ((86 : Int32)).toNatClampNeg (112 : Int32)) fun S_161 => ltm (mset S_161 12 ((87 : Int32)).toNatClampNeg (105 : Int32)) fun S_162 => ltm (mset S_162 12 ((88 : Int32)).toNatClampNeg (108 : Int32)) fun S_163 => ltm (mset S_163 12 ((89 : Int32)).toNatClampNeg (103 : Int32)) fun S_164 => ltm (mset S_164 12 ((90 : Int32)).toNatClampNeg (114 : Int32)) fun S_165 => ltm (mset S_165 12 ((91 : Int32)).toNatClampNeg (105 : Int32)) fun S_166 => ltm (mset S_166 12 ((92 : Int32)).toNatClampNeg (109 : Int32)) fun S_167 => ltm (mset S_167 12 ((93 : Int32)).toNatClampNeg (32 : Int32)) fun S_168 => ltm (mput S_168 13 (fun _ => 0)) fun S_169 => ltm (mput S_169 14 (fun _ => 0)) fun S_170 => ltm (mput S_170 15 (fun _ => 0)) fun S_171 => ltm (mput S_171 16 (fun _ => 0)) fun S_172 => ltm (mput S_172 17 (fun _ => 0)) fun S_173 => ltm (mput S_173 18 (fun _ => 0)) fun S_174 => ltm (mset S_174 0 35 (-1 : Int32)) fun S_175 => ltm (mput S_175 19 (fun _ => 0)) fun S_176 => ltm (mput S_176 20 (fun _ => 0)) fun S_177 => ltm (mput S_177 21 (fun _ => 0)) fun S_178 => ltm (mput S_178 22 (fun _ => 0)) fun S_179 => ltm (mput S_179 23 (fun _ => 0)) fun S_180 => ltm (mput S_180 24 (fun _ => 0)) fun S_181 => ltm (mput S_181 25 (fun _ => 0)) fun S_182 => ltm (mput S_182 26 (fun _ => 0)) fun S_183 => some ((0 : Int32), S_183)
theorem dX8_init_0 : decode cX8_init 0 = .ok (.aload_n 0, 1) := by decide +kernel
theorem dX8_init_1 : decode cX8_init 1 = .ok (.invokespecial 1, 3) := by decide +kernel
theorem dX8_init_4 : decode cX8_init 4 = .ok (.aload_n 0, 1) := by decide +kernel
theorem dX8_init_5 : decode cX8_init 5 = .ok (.bipush 55, 2) := by decide +kernel
theorem dX8_init_7 : decode cX8_init 7 = .ok (.newarray .int, 2) := by decide +kernel
theorem dX8_init_9 : decode cX8_init 9 = .ok (.putfield 7, 3) := by decide +kernel
theorem dX8_init_12 : decode cX8_init 12 = .ok (.aload_n 0, 1) := by decide +kernel
theorem dX8_init_13 : decode cX8_init 13 = .ok (.sipush 660, 3) := by decide +kernel
theorem dX8_init_16 : decode cX8_init 16 = .ok (.newarray .int, 2) := by decide +kernel
theorem dX8_init_18 : decode cX8_init 18 = .ok (.putfield 13, 3) := by decide +kernel
theorem dX8_init_21 : decode cX8_init 21 = .ok (.aload_n 0, 1) := by decide +kernel
theorem dX8_init_22 : decode cX8_init 22 = .ok (.bipush 60, 2) := by decide +kernel
theorem dX8_init_24 : decode cX8_init 24 = .ok (.newarray .int, 2) := by decide +kernel
theorem dX8_init_26 : decode cX8_init 26 = .ok (.dup, 1) := by decide +kernel
theorem dX8_init_27 : decode cX8_init 27 = .ok (.iconst 0, 1) := by decide +kernel
theorem dX8_init_28 : decode cX8_init 28 = .ok (.iconst 2, 1) := by decide +kernel
theorem dX8_init_29 : decode cX8_init 29 = .ok (.iastore, 1) := by decide +kernel
theorem dX8_init_30 : decode cX8_init 30 = .ok (.dup, 1) := by decide +kernel
theorem dX8_init_31 : decode cX8_init 31 = .ok (.iconst 1, 1) := by decide +kernel
theorem dX8_init_32 : decode cX8_init 32 = .ok (.iconst 0, 1) := by decide +kernel
theorem dX8_init_33 : decode cX8_init 33 = .ok (.iastore, 1) := by decide +kernel
theorem dX8_init_34 : decode cX8_init 34 = .ok (.dup, 1) := by decide +kernel
theorem dX8_init_35 : decode cX8_init 35 = .ok (.iconst 2, 1) := by decide +kernel
theorem dX8_init_36 : decode cX8_init 36 = .ok (.iconst 1, 1) := by decide +kernel
theorem dX8_init_37 : decode cX8_init 37 = .ok (.iastore, 1) := by decide +kernel
theorem dX8_init_38 : decode cX8_init 38 = .ok (.dup, 1) := by decide +kernel
theorem dX8_init_39 : decode cX8_init 39 = .ok (.iconst 3, 1) := by decide +kernel
theorem dX8_init_40 : decode cX8_init 40 = .ok (.iconst 0, 1) := by decide +kernel
theorem dX8_init_41 : decode cX8_init 41 = .ok (.iastore, 1) := by decide +kernel
theorem dX8_init_42 : decode cX8_init 42 = .ok (.dup, 1) := by decide +kernel
theorem dX8_init_43 : decode cX8_init 43 = .ok (.iconst 4, 1) := by decide +kernel
theorem dX8_init_44 : decode cX8_init 44 = .ok (.iconst 0, 1) := by decide +kernel
theorem dX8_init_45 : decode cX8_init 45 = .ok (.iastore, 1) := by decide +kernel
theorem dX8_init_46 : decode cX8_init 46 = .ok (.dup, 1) := by decide +kernel
theorem dX8_init_47 : decode cX8_init 47 = .ok (.iconst 5, 1) := by decide +kernel
theorem dX8_init_48 : decode cX8_init 48 = .ok (.iconst 2, 1) := by decide +kernel
theorem dX8_init_49 : decode cX8_init 49 = .ok (.iastore, 1) := by decide +kernel
theorem dX8_init_50 : decode cX8_init 50 = .ok (.dup, 1) := by decide +kernel
theorem dX8_init_51 : decode cX8_init 51 = .ok (.bipush 6, 2) := by decide +kernel
theorem dX8_init_53 : decode cX8_init 53 = .ok (.iconst 1, 1) := by decide +kernel
theorem dX8_init_54 : decode cX8_init 54 = .ok (.iastore, 1) := by decide +kernel
theorem dX8_init_55 : decode cX8_init 55 = .ok (.dup, 1) := by decide +kernel
theorem dX8_init_56 : decode cX8_init 56 = .ok (.bipush 7, 2) := by decide +kernel
theorem dX8_init_58 : decode cX8_init 58 = .ok (.iconst 2, 1) := by decide +kernel
theorem dX8_init_59 : decode cX8_init 59 = .ok (.iastore, 1) := by decide +kernel
theorem dX8_init_60 : decode cX8_init 60 = .ok (.dup, 1) := by decide +kernel
theorem dX8_init_61 : decode cX8_init 61 = .ok (.bipush 8, 2) := by decide +kernel
theorem dX8_init_63 : decode cX8_init 63 = .ok (.iconst 0, 1) := by decide +kernel
theorem dX8_init_64 : decode cX8_init 64 = .ok (.iastore, 1) := by decide +kernel
theorem dX8_init_65 : decode cX8_init 65 = .ok (.dup, 1) := by decide +kernel
theorem dX8_init_66 : decode cX8_init 66 = .ok (.bipush 9, 2) := by decide +kernel
theorem dX8_init_68 : decode cX8_init 68 = .ok (.iconst 0, 1) := by decide +kernel
theorem dX8_init_69 : decode cX8_init 69 = .ok (.iastore, 1) := by decide +kernel
theorem dX8_init_70 : decode cX8_init 70 = .ok (.dup, 1) := by decide +kernel
theorem dX8_init_71 : decode cX8_init 71 = .ok (.bipush 10, 2) := by decide +kernel
theorem dX8_init_73 : decode cX8_init 73 = .ok (.iconst 3, 1) := by decide +kernel
theorem dX8_init_74 : decode cX8_init 74 = .ok (.iastore, 1) := by decide +kernel
theorem dX8_init_75 : decode cX8_init 75 = .ok (.dup, 1) := by decide +kernel
theorem dX8_init_76 : decode cX8_init 76 = .ok (.bipush 11, 2) := by decide +kernel
theorem dX8_init_78 : decode cX8_init 78 = .ok (.iconst 2, 1) := by decide +kernel
theorem dX8_init_79 : decode cX8_init 79 = .ok (.iastore, 1) := by decide +kernel
theorem dX8_init_80 : decode cX8_init 80 = .ok (.dup, 1) := by decide +kernel
theorem dX8_init_81 : decode cX8_init 81 = .ok (.bipush 12, 2) := by decide +kernel
theorem dX8_init_83 : decode cX8_init 83 = .ok (.iconst 3, 1) := by decide +kernel
theorem dX8_init_84 : decode cX8_init 84 = .ok (.iastore, 1) := by decide +kernel
theorem dX8_init_85 : decode cX8_init 85 = .ok (.dup, 1) := by decide +kernel
theorem dX8_init_86 : decode cX8_init 86 = .ok (.bipush 13, 2) := by decide +kernel
theorem dX8_init_88 : decode cX8_init 88 = .ok (.iconst 0, 1) := by decide +kernel
theorem dX8_init_89 : decode cX8_init 89 = .ok (.iastore, 1) := by decide +kernel
theorem dX8_init_90 : decode cX8_init 90 = .ok (.dup, 1) := by decide +kernel
theorem dX8_init_91 : decode cX8_init 91 = .ok (.bipush 14, 2) := by decide +kernel
theorem dX8_init_93 : decode cX8_init 93 = .ok (.iconst 0, 1) := by decide +kernel
theorem dX8_init_94 : decode cX8_init 94 = .ok (.iastore, 1) := by decide +kernel
theorem dX8_init_95 : decode cX8_init 95 = .ok (.dup, 1) := by decide +kernel
theorem dX8_init_96 : decode cX8_init 96 = .ok (.bipush 15, 2) := by decide +kernel
theorem dX8_init_98 : decode cX8_init 98 = .ok (.iconst 3, 1) := by decide +kernel
theorem dX8_init_99 : decode cX8_init 99 = .ok (.iastore, 1) := by decide +kernel
theorem dX8_init_100 : decode cX8_init 100 = .ok (.dup, 1) := by decide +kernel
theorem dX8_init_101 : decode cX8_init 101 = .ok (.bipush 16, 2) := by decide +kernel
theorem dX8_init_103 : decode cX8_init 103 = .ok (.iconst 3, 1) := by decide +kernel
theorem dX8_init_104 : decode cX8_init 104 = .ok (.iastore, 1) := by decide +kernel
theorem dX8_init_105 : decode cX8_init 105 = .ok (.dup, 1) := by decide +kernel
theorem dX8_init_106 : decode cX8_init 106 = .ok (.bipush 17, 2) := by decide +kernel
theorem dX8_init_108 : decode cX8_init 108 = .ok (.iconst 4, 1) := by decide +kernel
theorem dX8_init_109 : decode cX8_init 109 = .ok (.iastore, 1) := by decide +kernel
theorem dX8_init_110 : decode cX8_init 110 = .ok (.dup, 1) := by decide +kernel
theorem dX8_init_111 : decode cX8_init 111 = .ok (.bipush 18, 2) := by decide +kernel
theorem dX8_init_113 : decode cX8_init 113 = .ok (.iconst 0, 1) := by decide +kernel
theorem dX8_init_114 : decode cX8_init 114 = .ok (.iastore, 1) := by decide +kernel
theorem dX8_init_115 : decode cX8_init 115 = .ok (.dup, 1) := by decide +kernel
theorem dX8_init_116 : decode cX8_init 116 = .ok (.bipush 19, 2) := by decide +kernel
theorem dX8_init_118 : decode cX8_init 118 = .ok (.iconst 0, 1) := by decide +kernel
theorem dX8_init_119 : decode cX8_init 119 = .ok (.iastore, 1) := by decide +kernel
theorem dX8_init_120 : decode cX8_init 120 = .ok (.dup, 1) := by decide +kernel
theorem dX8_init_121 : decode cX8_init 121 = .ok (.bipush 20, 2) := by decide +kernel
theorem dX8_init_123 : decode cX8_init 123 = .ok (.iconst 4, 1) := by decide +kernel
theorem dX8_init_124 : decode cX8_init 124 = .ok (.iastore, 1) := by decide +kernel
theorem dX8_init_125 : decode cX8_init 125 = .ok (.dup, 1) := by decide +kernel
theorem dX8_init_126 : decode cX8_init 126 = .ok (.bipush 21, 2) := by decide +kernel
theorem dX8_init_128 : decode cX8_init 128 = .ok (.iconst 4, 1) := by decide +kernel
theorem dX8_init_129 : decode cX8_init 129 = .ok (.iastore, 1) := by decide +kernel
theorem dX8_init_130 : decode cX8_init 130 = .ok (.dup, 1) := by decide +kernel
theorem dX8_init_131 : decode cX8_init 131 = .ok (.bipush 22, 2) := by decide +kernel
theorem dX8_init_133 : decode cX8_init 133 = .ok (.iconst 5, 1) := by decide +kernel
theorem dX8_init_134 : decode cX8_init 134 = .ok (.iastore, 1) := by decide +kernel
theorem dX8_init_135 : decode cX8_init 135 = .ok (.dup, 1) := by decide +kernel
theorem dX8_init_136 : decode cX8_init 136 = .ok (.bipush 23, 2) := by decide +kernel
theorem dX8_init_138 : decode cX8_init 138 = .ok (.iconst 0, 1) := by decide +kernel
theorem dX8_init_139 : decode cX8_init 139 = .ok (.iastore, 1) := by decide +kernel
theorem dX8_init_140 : decode cX8_init 140 = .ok (.dup, 1) := by decide +kernel
theorem dX8_init_141 : decode cX8_init 141 = .ok (.bipush 24, 2) := by decide +kernel
theorem dX8_init_143 : decode cX8_init 143 = .ok (.iconst 0, 1) := by decide +kernel
theorem dX8_init_144 : decode cX8_init 144 = .ok (.iastore, 1) := by decide +kernel
theorem dX8_init_145 : decode cX8_init 145 = .ok (.dup, 1) := by decide +kernel
theorem dX8_init_146 : decode cX8_init 146 = .ok (.bipush 25, 2) := by decide +kernel
theorem dX8_init_148 : decode cX8_init 148 = .ok (.iconst 4, 1) := by decide +kernel
theorem dX8_init_149 : decode cX8_init 149 = .ok (.iastore, 1) := by decide +kernel
theorem dX8_init_150 : decode cX8_init 150 = .ok (.dup, 1) := by decide +kernel
theorem dX8_init_151 : decode cX8_init 151 = .ok (.bipush 26, 2) := by decide +kernel
theorem dX8_init_153 : decode cX8_init 153 = .ok (.iconst 4, 1) := by decide +kernel
theorem dX8_init_154 : decode cX8_init 154 = .ok (.iastore, 1) := by decide +kernel
theorem dX8_init_155 : decode cX8_init 155 = .ok (.dup, 1) := by decide +kernel
theorem dX8_init_156 : decode cX8_init 156 = .ok (.bipush 27, 2) := by decide +kernel
theorem dX8_init_158 : decode cX8_init 158 = .ok (.iconst 5, 1) := by decide +kernel
theorem dX8_init_159 : decode cX8_init 159 = .ok (.iastore, 1) := by decide +kernel
theorem dX8_init_160 : decode cX8_init 160 = .ok (.dup, 1) := by decide +kernel
theorem dX8_init_161 : decode cX8_init 161 = .ok (.bipush 28, 2) := by decide +kernel
theorem dX8_init_163 : decode cX8_init 163 = .ok (.iconst 0, 1) := by decide +kernel
theorem dX8_init_164 : decode cX8_init 164 = .ok (.iastore, 1) := by decide +kernel
theorem dX8_init_165 : decode cX8_init 165 = .ok (.dup, 1) := by decide +kernel
theorem dX8_init_166 : decode cX8_init 166 = .ok (.bipush 29, 2) := by decide +kernel
theorem dX8_init_168 : decode cX8_init 168 = .ok (.iconst 0, 1) := by decide +kernel
theorem dX8_init_169 : decode cX8_init 169 = .ok (.iastore, 1) := by decide +kernel
theorem dX8_init_170 : decode cX8_init 170 = .ok (.dup, 1) := by decide +kernel
theorem dX8_init_171 : decode cX8_init 171 = .ok (.bipush 30, 2) := by decide +kernel
theorem dX8_init_173 : decode cX8_init 173 = .ok (.iconst 4, 1) := by decide +kernel
theorem dX8_init_174 : decode cX8_init 174 = .ok (.iastore, 1) := by decide +kernel
theorem dX8_init_175 : decode cX8_init 175 = .ok (.dup, 1) := by decide +kernel
theorem dX8_init_176 : decode cX8_init 176 = .ok (.bipush 31, 2) := by decide +kernel
theorem dX8_init_178 : decode cX8_init 178 = .ok (.iconst 4, 1) := by decide +kernel
theorem dX8_init_179 : decode cX8_init 179 = .ok (.iastore, 1) := by decide +kernel
theorem dX8_init_180 : decode cX8_init 180 = .ok (.dup, 1) := by decide +kernel
theorem dX8_init_181 : decode cX8_init 181 = .ok (.bipush 32, 2) := by decide +kernel
theorem dX8_init_183 : decode cX8_init 183 = .ok (.iconst 5, 1) := by decide +kernel
theorem dX8_init_184 : decode cX8_init 184 = .ok (.iastore, 1) := by decide +kernel
theorem dX8_init_185 : decode cX8_init 185 = .ok (.dup, 1) := by decide +kernel
theorem dX8_init_186 : decode cX8_init 186 = .ok (.bipush 33, 2) := by decide +kernel
theorem dX8_init_188 : decode cX8_init 188 = .ok (.iconst 0, 1) := by decide +kernel
theorem dX8_init_189 : decode cX8_init 189 = .ok (.iastore, 1) := by decide +kernel
theorem dX8_init_190 : decode cX8_init 190 = .ok (.dup, 1) := by decide +kernel
theorem dX8_init_191 : decode cX8_init 191 = .ok (.bipush 34, 2) := by decide +kernel
theorem dX8_init_193 : decode cX8_init 193 = .ok (.iconst 0, 1) := by decide +kernel
theorem dX8_init_194 : decode cX8_init 194 = .ok (.iastore, 1) := by decide +kernel
theorem dX8_init_195 : decode cX8_init 195 = .ok (.dup, 1) := by decide +kernel
theorem dX8_init_196 : decode cX8_init 196 = .ok (.bipush 35, 2) := by decide +kernel
theorem dX8_init_198 : decode cX8_init 198 = .ok (.iconst 4, 1) := by decide +kernel
theorem dX8_init_199 : decode cX8_init 199 = .ok (.iastore, 1) := by decide +kernel
theorem dX8_init_200 : decode cX8_init 200 = .ok (.dup, 1) := by decide +kernel
theorem dX8_init_201 : decode cX8_init 201 = .ok (.bipush 36, 2) := by decide +kernel
theorem dX8_init_203 : decode cX8_init 203 = .ok (.iconst 4, 1) := by decide +kernel
theorem dX8_init_204 : decode cX8_init 204 = .ok (.iastore, 1) := by decide +kernel
theorem dX8_init_205 : decode cX8_init 205 = .ok (.dup, 1) := by decide +kernel
theorem dX8_init_206 : decode cX8_init 206 = .ok (.bipush 37, 2) := by decide +kernel
theorem dX8_init_208 : decode cX8_init 208 = .ok (.iconst 5, 1) := by decide +kernel
theorem dX8_init_209 : decode cX8_init 209 = .ok (.iastore, 1) := by decide +kernel
theorem dX8_init_210 : decode cX8_init 210 = .ok (.dup, 1) := by decide +kernel
theorem dX8_init_211 : decode cX8_init 211 = .ok (.bipush 38, 2) := by decide +kernel
theorem dX8_init_213 : decode cX8_init 213 = .ok (.iconst 0, 1) := by decide +kernel
theorem dX8_init_214 : decode cX8_init 214 = .ok (.iastore, 1) := by decide +kernel
theorem dX8_init_215 : decode cX8_init 215 = .ok (.dup, 1) := by decide +kernel
theorem dX8_init_216 : decode cX8_init 216 = .ok (.bipush 39, 2) := by decide +kernel
theorem dX8_init_218 : decode cX8_init 218 = .ok (.iconst 0, 1) := by decide +kernel
theorem dX8_init_219 : decode cX8_init 219 = .ok (.iastore, 1) := by decide +kernel
theorem dX8_init_220 : decode cX8_init 220 = .ok (.dup, 1) := by decide +kernel
theorem dX8_init_221 : decode cX8_init 221 = .ok (.bipush 40, 2) := by decide +kernel
theorem dX8_init_223 : decode cX8_init 223 = .ok (.iconst 5, 1) := by decide +kernel
theorem dX8_init_224 : decode cX8_init 224 = .ok (.iastore, 1) := by decide +kernel
theorem dX8_init_225 : decode cX8_init 225 = .ok (.dup, 1) := by decide +kernel
theorem dX8_init_226 : decode cX8_init 226 = .ok (.bipush 41, 2) := by decide +kernel
theorem dX8_init_228 : decode cX8_init 228 = .ok (.iconst 3, 1) := by decide +kernel
theorem dX8_init_229 : decode cX8_init 229 = .ok (.iastore, 1) := by decide +kernel
theorem dX8_init_230 : decode cX8_init 230 = .ok (.dup, 1) := by decide +kernel
theorem dX8_init_231 : decode cX8_init 231 = .ok (.bipush 42, 2) := by decide +kernel
theorem dX8_init_233 : decode cX8_init 233 = .ok (.iconst 4, 1) := by decide +kernel
theorem dX8_init_234 : decode cX8_init 234 = .ok (.iastore, 1) := by decide +kernel
theorem dX8_init_235 : decode cX8_init 235 = .ok (.dup, 1) := by decide +kernel
theorem dX8_init_236 : decode cX8_init 236 = .ok (.bipush 43, 2) := by decide +kernel
theorem dX8_init_238 : decode cX8_init 238 = .ok (.iconst 0, 1) := by decide +kernel
theorem dX8_init_239 : decode cX8_init 239 = .ok (.iastore, 1) := by decide +kernel
theorem dX8_init_240 : decode cX8_init 240 = .ok (.dup, 1) := by decide +kernel
theorem dX8_init_241 : decode cX8_init 241 = .ok (.bipush 44, 2) := by decide +kernel
theorem dX8_init_243 : decode cX8_init 243 = .ok (.iconst 0, 1) := by decide +kernel
theorem dX8_init_244 : decode cX8_init 244 = .ok (.iastore, 1) := by decide +kernel
theorem dX8_init_245 : decode cX8_init 245 = .ok (.dup, 1) := by decide +kernel
theorem dX8_init_246 : decode cX8_init 246 = .ok (.bipush 45, 2) := by decide +kernel
theorem dX8_init_248 : decode cX8_init 248 = .ok (.iconst 5, 1) := by decide +kernel
theorem dX8_init_249 : decode cX8_init 249 = .ok (.iastore, 1) := by decide +kernel
theorem dX8_init_250 : decode cX8_init 250 = .ok (.dup, 1) := by decide +kernel
theorem dX8_init_251 : decode cX8_init 251 = .ok (.bipush 46, 2) := by decide +kernel
theorem dX8_init_253 : decode cX8_init 253 = .ok (.iconst 2, 1) := by decide +kernel
theorem dX8_init_254 : decode cX8_init 254 = .ok (.iastore, 1) := by decide +kernel
theorem dX8_init_255 : decode cX8_init 255 = .ok (.dup, 1) := by decide +kernel
theorem dX8_init_256 : decode cX8_init 256 = .ok (.bipush 47, 2) := by decide +kernel
theorem dX8_init_258 : decode cX8_init 258 = .ok (.iconst 3, 1) := by decide +kernel
theorem dX8_init_259 : decode cX8_init 259 = .ok (.iastore, 1) := by decide +kernel
theorem dX8_init_260 : decode cX8_init 260 = .ok (.dup, 1) := by decide +kernel
theorem dX8_init_261 : decode cX8_init 261 = .ok (.bipush 48, 2) := by decide +kernel
theorem dX8_init_263 : decode cX8_init 263 = .ok (.iconst 0, 1) := by decide +kernel
theorem dX8_init_264 : decode cX8_init 264 = .ok (.iastore, 1) := by decide +kernel
theorem dX8_init_265 : decode cX8_init 265 = .ok (.dup, 1) := by decide +kernel
theorem dX8_init_266 : decode cX8_init 266 = .ok (.bipush 49, 2) := by decide +kernel
theorem dX8_init_268 : decode cX8_init 268 = .ok (.iconst 0, 1) := by decide +kernel
theorem dX8_init_269 : decode cX8_init 269 = .ok (.iastore, 1) := by decide +kernel
theorem dX8_init_270 : decode cX8_init 270 = .ok (.dup, 1) := by decide +kernel
theorem dX8_init_271 : decode cX8_init 271 = .ok (.bipush 50, 2) := by decide +kernel
theorem dX8_init_273 : decode cX8_init 273 = .ok (.bipush 6, 2) := by decide +kernel
theorem dX8_init_275 : decode cX8_init 275 = .ok (.iastore, 1) := by decide +kernel
theorem dX8_init_276 : decode cX8_init 276 = .ok (.dup, 1) := by decide +kernel
theorem dX8_init_277 : decode cX8_init 277 = .ok (.bipush 51, 2) := by decide +kernel
theorem dX8_init_279 : decode cX8_init 279 = .ok (.iconst 1, 1) := by decide +kernel
theorem dX8_init_280 : decode cX8_init 280 = .ok (.iastore, 1) := by decide +kernel
theorem dX8_init_281 : decode cX8_init 281 = .ok (.dup, 1) := by decide +kernel
theorem dX8_init_282 : decode cX8_init 282 = .ok (.bipush 52, 2) := by decide +kernel
theorem dX8_init_284 : decode cX8_init 284 = .ok (.iconst 2, 1) := by decide +kernel
theorem dX8_init_285 : decode cX8_init 285 = .ok (.iastore, 1) := by decide +kernel
theorem dX8_init_286 : decode cX8_init 286 = .ok (.dup, 1) := by decide +kernel
theorem dX8_init_287 : decode cX8_init 287 = .ok (.bipush 53, 2) := by decide +kernel
theorem dX8_init_289 : decode cX8_init 289 = .ok (.iconst 0, 1) := by decide +kernel
theorem dX8_init_290 : decode cX8_init 290 = .ok (.iastore, 1) := by decide +kernel
theorem dX8_init_291 : decode cX8_init 291 = .ok (.dup, 1) := by decide +kernel
theorem dX8_init_292 : decode cX8_init 292 = .ok (.bipush 54, 2) := by decide +kernel
theorem dX8_init_294 : decode cX8_init 294 = .ok (.iconst 0, 1) := by decide +kernel
theorem dX8_init_295 : decode cX8_init 295 = .ok (.iastore, 1) := by decide +kernel
theorem dX8_init_296 : decode cX8_init 296 = .ok (.dup, 1) := by decide +kernel
theorem dX8_init_297 : decode cX8_init 297 = .ok (.bipush 55, 2) := by decide +kernel
theorem dX8_init_299 : decode cX8_init 299 = .ok (.bipush 6, 2) := by decide +kernel
theorem dX8_init_301 : decode cX8_init 301 = .ok (.iastore, 1) := by decide +kernel
theorem dX8_init_302 : decode cX8_init 302 = .ok (.dup, 1) := by decide +kernel
theorem dX8_init_303 : decode cX8_init 303 = .ok (.bipush 56, 2) := by decide +kernel
theorem dX8_init_305 : decode cX8_init 305 = .ok (.iconst 0, 1) := by decide +kernel
theorem dX8_init_306 : decode cX8_init 306 = .ok (.iastore, 1) := by decide +kernel
theorem dX8_init_307 : decode cX8_init 307 = .ok (.dup, 1) := by decide +kernel
theorem dX8_init_308 : decode cX8_init 308 = .ok (.bipush 57, 2) := by decide +kernel
theorem dX8_init_310 : decode cX8_init 310 = .ok (.iconst 1, 1) := by decide +kernel
theorem dX8_init_311 : decode cX8_init 311 = .ok (.iastore, 1) := by decide +kernel
theorem dX8_init_312 : decode cX8_init 312 = .ok (.dup, 1) := by decide +kernel
theorem dX8_init_313 : decode cX8_init 313 = .ok (.bipush 58, 2) := by decide +kernel
theorem dX8_init_315 : decode cX8_init 315 = .ok (.iconst 0, 1) := by decide +kernel
theorem dX8_init_316 : decode cX8_init 316 = .ok (.iastore, 1) := by decide +kernel
theorem dX8_init_317 : decode cX8_init 317 = .ok (.dup, 1) := by decide +kernel
theorem dX8_init_318 : decode cX8_init 318 = .ok (.bipush 59, 2) := by decide +kernel
theorem dX8_init_320 : decode cX8_init 320 = .ok (.iconst 0, 1) := by decide +kernel
theorem dX8_init_321 : decode cX8_init 321 = .ok (.iastore, 1) := by decide +kernel
theorem dX8_init_322 : decode cX8_init 322 = .ok (.putfield 16, 3) := by decide +kernel
theorem dX8_init_325 : decode cX8_init 325 = .ok (.aload_n 0, 1) := by decide +kernel
theorem dX8_init_326 : decode cX8_init 326 = .ok (.iconst 2, 1) := by decide +kernel
theorem dX8_init_327 : decode cX8_init 327 = .ok (.newarray .int, 2) := by decide +kernel
theorem dX8_init_329 : decode cX8_init 329 = .ok (.dup, 1) := by decide +kernel
theorem dX8_init_330 : decode cX8_init 330 = .ok (.iconst 0, 1) := by decide +kernel
theorem dX8_init_331 : decode cX8_init 331 = .ok (.iconst 5, 1) := by decide +kernel
theorem dX8_init_332 : decode cX8_init 332 = .ok (.iastore, 1) := by decide +kernel
theorem dX8_init_333 : decode cX8_init 333 = .ok (.dup, 1) := by decide +kernel
theorem dX8_init_334 : decode cX8_init 334 = .ok (.iconst 1, 1) := by decide +kernel
theorem dX8_init_335 : decode cX8_init 335 = .ok (.iconst 0, 1) := by decide +kernel
theorem dX8_init_336 : decode cX8_init 336 = .ok (.iastore, 1) := by decide +kernel
theorem dX8_init_337 : decode cX8_init 337 = .ok (.putfield 19, 3) := by decide +kernel
theorem dX8_init_340 : decode cX8_init 340 = .ok (.aload_n 0, 1) := by decide +kernel
theorem dX8_init_341 : decode cX8_init 341 = .ok (.bipush 10, 2) := by decide +kernel
theorem dX8_init_343 : decode cX8_init 343 = .ok (.newarray .int, 2) := by decide +kernel
theorem dX8_init_345 : decode cX8_init 345 = .ok (.putfield 22, 3) := by decide +kernel
theorem dX8_init_348 : decode cX8_init 348 = .ok (.aload_n 0, 1) := by decide +kernel
theorem dX8_init_349 : decode cX8_init 349 = .ok (.bipush 10, 2) := by decide +kernel
theorem dX8_init_351 : decode cX8_init 351 = .ok (.newarray .int, 2) := by decide +kernel
theorem dX8_init_353 : decode cX8_init 353 = .ok (.putfield 25, 3) := by decide +kernel
theorem dX8_init_356 : decode cX8_init 356 = .ok (.aload_n 0, 1) := by decide +kernel
theorem dX8_init_357 : decode cX8_init 357 = .ok (.bipush 10, 2) := by decide +kernel
theorem dX8_init_359 : decode cX8_init 359 = .ok (.newarray .int, 2) := by decide +kernel
theorem dX8_init_361 : decode cX8_init 361 = .ok (.putfield 28, 3) := by decide +kernel
theorem dX8_init_364 : decode cX8_init 364 = .ok (.aload_n 0, 1) := by decide +kernel
theorem dX8_init_365 : decode cX8_init 365 = .ok (.bipush 10, 2) := by decide +kernel
theorem dX8_init_367 : decode cX8_init 367 = .ok (.newarray .int, 2) := by decide +kernel
theorem dX8_init_369 : decode cX8_init 369 = .ok (.putfield 31, 3) := by decide +kernel
theorem dX8_init_372 : decode cX8_init 372 = .ok (.aload_n 0, 1) := by decide +kernel
theorem dX8_init_373 : decode cX8_init 373 = .ok (.sipush 800, 3) := by decide +kernel
theorem dX8_init_376 : decode cX8_init 376 = .ok (.newarray .int, 2) := by decide +kernel
theorem dX8_init_378 : decode cX8_init 378 = .ok (.putfield 34, 3) := by decide +kernel
theorem dX8_init_381 : decode cX8_init 381 = .ok (.aload_n 0, 1) := by decide +kernel
theorem dX8_init_382 : decode cX8_init 382 = .ok (.bipush 10, 2) := by decide +kernel
theorem dX8_init_384 : decode cX8_init 384 = .ok (.newarray .int, 2) := by decide +kernel
theorem dX8_init_386 : decode cX8_init 386 = .ok (.putfield 37, 3) := by decide +kernel
theorem dX8_init_389 : decode cX8_init 389 = .ok (.aload_n 0, 1) := by decide +kernel
theorem dX8_init_390 : decode cX8_init 390 = .ok (.sipush 400, 3) := by decide +kernel
theorem dX8_init_393 : decode cX8_init 393 = .ok (.newarray .int, 2) := by decide +kernel
theorem dX8_init_395 : decode cX8_init 395 = .ok (.putfield 40, 3) := by decide +kernel
theorem dX8_init_398 : decode cX8_init 398 = .ok (.aload_n 0, 1) := by decide +kernel
theorem dX8_init_399 : decode cX8_init 399 = .ok (.bipush 94, 2) := by decide +kernel
theorem dX8_init_401 : decode cX8_init 401 = .ok (.newarray .int, 2) := by decide +kernel
theorem dX8_init_403 : decode cX8_init 403 = .ok (.dup, 1) := by decide +kernel
theorem dX8_init_404 : decode cX8_init 404 = .ok (.iconst 0, 1) := by decide +kernel
theorem dX8_init_405 : decode cX8_init 405 = .ok (.bipush 32, 2) := by decide +kernel
theorem dX8_init_407 : decode cX8_init 407 = .ok (.iastore, 1) := by decide +kernel
theorem dX8_init_408 : decode cX8_init 408 = .ok (.dup, 1) := by decide +kernel
theorem dX8_init_409 : decode cX8_init 409 = .ok (.iconst 1, 1) := by decide +kernel
theorem dX8_init_410 : decode cX8_init 410 = .ok (.bipush 115, 2) := by decide +kernel
theorem dX8_init_412 : decode cX8_init 412 = .ok (.iastore, 1) := by decide +kernel
theorem dX8_init_413 : decode cX8_init 413 = .ok (.dup, 1) := by decide +kernel
theorem dX8_init_414 : decode cX8_init 414 = .ok (.iconst 2, 1) := by decide +kernel
theorem dX8_init_415 : decode cX8_init 415 = .ok (.bipush 116, 2) := by decide +kernel
theorem dX8_init_417 : decode cX8_init 417 = .ok (.iastore, 1) := by decide +kernel
theorem dX8_init_418 : decode cX8_init 418 = .ok (.dup, 1) := by decide +kernel
theorem dX8_init_419 : decode cX8_init 419 = .ok (.iconst 3, 1) := by decide +kernel
theorem dX8_init_420 : decode cX8_init 420 = .ok (.bipush 97, 2) := by decide +kernel
theorem dX8_init_422 : decode cX8_init 422 = .ok (.iastore, 1) := by decide +kernel
theorem dX8_init_423 : decode cX8_init 423 = .ok (.dup, 1) := by decide +kernel
theorem dX8_init_424 : decode cX8_init 424 = .ok (.iconst 4, 1) := by decide +kernel
theorem dX8_init_425 : decode cX8_init 425 = .ok (.bipush 121, 2) := by decide +kernel
theorem dX8_init_427 : decode cX8_init 427 = .ok (.iastore, 1) := by decide +kernel
theorem dX8_init_428 : decode cX8_init 428 = .ok (.dup, 1) := by decide +kernel
theorem dX8_init_429 : decode cX8_init 429 = .ok (.iconst 5, 1) := by decide +kernel
theorem dX8_init_430 : decode cX8_init 430 = .ok (.bipush 32, 2) := by decide +kernel
theorem dX8_init_432 : decode cX8_init 432 = .ok (.iastore, 1) := by decide +kernel
theorem dX8_init_433 : decode cX8_init 433 = .ok (.dup, 1) := by decide +kernel
theorem dX8_init_434 : decode cX8_init 434 = .ok (.bipush 6, 2) := by decide +kernel
theorem dX8_init_436 : decode cX8_init 436 = .ok (.bipush 115, 2) := by decide +kernel
theorem dX8_init_438 : decode cX8_init 438 = .ok (.iastore, 1) := by decide +kernel
theorem dX8_init_439 : decode cX8_init 439 = .ok (.dup, 1) := by decide +kernel
theorem dX8_init_440 : decode cX8_init 440 = .ok (.bipush 7, 2) := by decide +kernel
theorem dX8_init_442 : decode cX8_init 442 = .ok (.bipush 101, 2) := by decide +kernel
theorem dX8_init_444 : decode cX8_init 444 = .ok (.iastore, 1) := by decide +kernel
theorem dX8_init_445 : decode cX8_init 445 = .ok (.dup, 1) := by decide +kernel
theorem dX8_init_446 : decode cX8_init 446 = .ok (.bipush 8, 2) := by decide +kernel
theorem dX8_init_448 : decode cX8_init 448 = .ok (.bipush 101, 2) := by decide +kernel
theorem dX8_init_450 : decode cX8_init 450 = .ok (.iastore, 1) := by decide +kernel
theorem dX8_init_451 : decode cX8_init 451 = .ok (.dup, 1) := by decide +kernel
theorem dX8_init_452 : decode cX8_init 452 = .ok (.bipush 9, 2) := by decide +kernel
theorem dX8_init_454 : decode cX8_init 454 = .ok (.bipush 107, 2) := by decide +kernel
theorem dX8_init_456 : decode cX8_init 456 = .ok (.iastore, 1) := by decide +kernel
theorem dX8_init_457 : decode cX8_init 457 = .ok (.dup, 1) := by decide +kernel
theorem dX8_init_458 : decode cX8_init 458 = .ok (.bipush 10, 2) := by decide +kernel
theorem dX8_init_460 : decode cX8_init 460 = .ok (.bipush 32, 2) := by decide +kernel
theorem dX8_init_462 : decode cX8_init 462 = .ok (.iastore, 1) := by decide +kernel
theorem dX8_init_463 : decode cX8_init 463 = .ok (.dup, 1) := by decide +kernel
theorem dX8_init_464 : decode cX8_init 464 = .ok (.bipush 11, 2) := by decide +kernel
theorem dX8_init_466 : decode cX8_init 466 = .ok (.bipush 98, 2) := by decide +kernel
theorem dX8_init_468 : decode cX8_init 468 = .ok (.iastore, 1) := by decide +kernel
theorem dX8_init_469 : decode cX8_init 469 = .ok (.dup, 1) := by decide +kernel
theorem dX8_init_470 : decode cX8_init 470 = .ok (.bipush 12, 2) := by decide +kernel
theorem dX8_init_472 : decode cX8_init 472 = .ok (.bipush 117, 2) := by decide +kernel
theorem dX8_init_474 : decode cX8_init 474 = .ok (.iastore, 1) := by decide +kernel
theorem dX8_init_475 : decode cX8_init 475 = .ok (.dup, 1) := by decide +kernel
theorem dX8_init_476 : decode cX8_init 476 = .ok (.bipush 13, 2) := by decide +kernel
theorem dX8_init_478 : decode cX8_init 478 = .ok (.bipush 121, 2) := by decide +kernel
theorem dX8_init_480 : decode cX8_init 480 = .ok (.iastore, 1) := by decide +kernel
theorem dX8_init_481 : decode cX8_init 481 = .ok (.dup, 1) := by decide +kernel
theorem dX8_init_482 : decode cX8_init 482 = .ok (.bipush 14, 2) := by decide +kernel
theorem dX8_init_484 : decode cX8_init 484 = .ok (.bipush 32, 2) := by decide +kernel
theorem dX8_init_486 : decode cX8_init 486 = .ok (.iastore, 1) := by decide +kernel
theorem dX8_init_487 : decode cX8_init 487 = .ok (.dup, 1) := by decide +kernel
theorem dX8_init_488 : decode cX8_init 488 = .ok (.bipush 15, 2) := by decide +kernel
theorem dX8_init_490 : decode cX8_init 490 = .ok (.bipush 102, 2) := by decide +kernel
theorem dX8_init_492 : decode cX8_init 492 = .ok (.iastore, 1) := by decide +kernel
theorem dX8_init_493 : decode cX8_init 493 = .ok (.dup, 1) := by decide +kernel
theorem dX8_init_494 : decode cX8_init 494 = .ok (.bipush 16, 2) := by decide +kernel
theorem dX8_init_496 : decode cX8_init 496 = .ok (.bipush 108, 2) := by decide +kernel
theorem dX8_init_498 : decode cX8_init 498 = .ok (.iastore, 1) := by decide +kernel
theorem dX8_init_499 : decode cX8_init 499 = .ok (.dup, 1) := by decide +kernel
theorem dX8_init_500 : decode cX8_init 500 = .ok (.bipush 17, 2) := by decide +kernel
theorem dX8_init_502 : decode cX8_init 502 = .ok (.bipush 101, 2) := by decide +kernel
theorem dX8_init_504 : decode cX8_init 504 = .ok (.iastore, 1) := by decide +kernel
theorem dX8_init_505 : decode cX8_init 505 = .ok (.dup, 1) := by decide +kernel
theorem dX8_init_506 : decode cX8_init 506 = .ok (.bipush 18, 2) := by decide +kernel
theorem dX8_init_508 : decode cX8_init 508 = .ok (.bipush 101, 2) := by decide +kernel
theorem dX8_init_510 : decode cX8_init 510 = .ok (.iastore, 1) := by decide +kernel
theorem dX8_init_511 : decode cX8_init 511 = .ok (.dup, 1) := by decide +kernel
theorem dX8_init_512 : decode cX8_init 512 = .ok (.bipush 19, 2) := by decide +kernel
theorem dX8_init_514 : decode cX8_init 514 = .ok (.bipush 32, 2) := by decide +kernel
theorem dX8_init_516 : decode cX8_init 516 = .ok (.iastore, 1) := by decide +kernel
theorem dX8_init_517 : decode cX8_init 517 = .ok (.dup, 1) := by decide +kernel
theorem dX8_init_518 : decode cX8_init 518 = .ok (.bipush 20, 2) := by decide +kernel
theorem dX8_init_520 : decode cX8_init 520 = .ok (.bipush 119, 2) := by decide +kernel
theorem dX8_init_522 : decode cX8_init 522 = .ok (.iastore, 1) := by decide +kernel
theorem dX8_init_523 : decode cX8_init 523 = .ok (.dup, 1) := by decide +kernel
theorem dX8_init_524 : decode cX8_init 524 = .ok (.bipush 21, 2) := by decide +kernel
theorem dX8_init_526 : decode cX8_init 526 = .ok (.bipush 104, 2) := by decide +kernel
theorem dX8_init_528 : decode cX8_init 528 = .ok (.iastore, 1) := by decide +kernel
theorem dX8_init_529 : decode cX8_init 529 = .ok (.dup, 1) := by decide +kernel
theorem dX8_init_530 : decode cX8_init 530 = .ok (.bipush 22, 2) := by decide +kernel
theorem dX8_init_532 : decode cX8_init 532 = .ok (.bipush 101, 2) := by decide +kernel
theorem dX8_init_534 : decode cX8_init 534 = .ok (.iastore, 1) := by decide +kernel
theorem dX8_init_535 : decode cX8_init 535 = .ok (.dup, 1) := by decide +kernel
theorem dX8_init_536 : decode cX8_init 536 = .ok (.bipush 23, 2) := by decide +kernel
theorem dX8_init_538 : decode cX8_init 538 = .ok (.bipush 110, 2) := by decide +kernel
theorem dX8_init_540 : decode cX8_init 540 = .ok (.iastore, 1) := by decide +kernel
theorem dX8_init_541 : decode cX8_init 541 = .ok (.dup, 1) := by decide +kernel
theorem dX8_init_542 : decode cX8_init 542 = .ok (.bipush 24, 2) := by decide +kernel
theorem dX8_init_544 : decode cX8_init 544 = .ok (.bipush 32, 2) := by decide +kernel
theorem dX8_init_546 : decode cX8_init 546 = .ok (.iastore, 1) := by decide +kernel
theorem dX8_init_547 : decode cX8_init 547 = .ok (.dup, 1) := by decide +kernel
theorem dX8_init_548 : decode cX8_init 548 = .ok (.bipush 25, 2) := by decide +kernel
theorem dX8_init_550 : decode cX8_init 550 = .ok (.bipush 111, 2) := by decide +kernel
theorem dX8_init_552 : decode cX8_init 552 = .ok (.iastore, 1) := by decide +kernel
theorem dX8_init_553 : decode cX8_init 553 = .ok (.dup, 1) := by decide +kernel
theorem dX8_init_554 : decode cX8_init 554 = .ok (.bipush 26, 2) := by decide +kernel
theorem dX8_init_556 : decode cX8_init 556 = .ok (.bipush 114, 2) := by decide +kernel
theorem dX8_init_558 : decode cX8_init 558 = .ok (.iastore, 1) := by decide +kernel
theorem dX8_init_559 : decode cX8_init 559 = .ok (.dup, 1) := by decide +kernel
theorem dX8_init_560 : decode cX8_init 560 = .ok (.bipush 27, 2) := by decide +kernel
theorem dX8_init_562 : decode cX8_init 562 = .ok (.bipush 32, 2) := by decide +kernel
theorem dX8_init_564 : decode cX8_init 564 = .ok (.iastore, 1) := by decide +kernel
theorem dX8_init_565 : decode cX8_init 565 = .ok (.dup, 1) := by decide +kernel
theorem dX8_init_566 : decode cX8_init 566 = .ok (.bipush 28, 2) := by decide +kernel
theorem dX8_init_568 : decode cX8_init 568 = .ok (.bipush 97, 2) := by decide +kernel
theorem dX8_init_570 : decode cX8_init 570 = .ok (.iastore, 1) := by decide +kernel
theorem dX8_init_571 : decode cX8_init 571 = .ok (.dup, 1) := by decide +kernel
theorem dX8_init_572 : decode cX8_init 572 = .ok (.bipush 29, 2) := by decide +kernel
theorem dX8_init_574 : decode cX8_init 574 = .ok (.bipush 110, 2) := by decide +kernel
theorem dX8_init_576 : decode cX8_init 576 = .ok (.iastore, 1) := by decide +kernel
theorem dX8_init_577 : decode cX8_init 577 = .ok (.dup, 1) := by decide +kernel
theorem dX8_init_578 : decode cX8_init 578 = .ok (.bipush 30, 2) := by decide +kernel
theorem dX8_init_580 : decode cX8_init 580 = .ok (.bipush 100, 2) := by decide +kernel
theorem dX8_init_582 : decode cX8_init 582 = .ok (.iastore, 1) := by decide +kernel
theorem dX8_init_583 : decode cX8_init 583 = .ok (.dup, 1) := by decide +kernel
theorem dX8_init_584 : decode cX8_init 584 = .ok (.bipush 31, 2) := by decide +kernel
theorem dX8_init_586 : decode cX8_init 586 = .ok (.bipush 32, 2) := by decide +kernel
theorem dX8_init_588 : decode cX8_init 588 = .ok (.iastore, 1) := by decide +kernel
theorem dX8_init_589 : decode cX8_init 589 = .ok (.dup, 1) := by decide +kernel
theorem dX8_init_590 : decode cX8_init 590 = .ok (.bipush 32, 2) := by decide +kernel
theorem dX8_init_592 : decode cX8_init 592 = .ok (.bipush 110, 2) := by decide +kernel
theorem dX8_init_594 : decode cX8_init 594 = .ok (.iastore, 1) := by decide +kernel
theorem dX8_init_595 : decode cX8_init 595 = .ok (.dup, 1) := by decide +kernel
theorem dX8_init_596 : decode cX8_init 596 = .ok (.bipush 33, 2) := by decide +kernel
theorem dX8_init_598 : decode cX8_init 598 = .ok (.bipush 111, 2) := by decide +kernel
theorem dX8_init_600 : decode cX8_init 600 = .ok (.iastore, 1) := by decide +kernel
theorem dX8_init_601 : decode cX8_init 601 = .ok (.dup, 1) := by decide +kernel
theorem dX8_init_602 : decode cX8_init 602 = .ok (.bipush 34, 2) := by decide +kernel
theorem dX8_init_604 : decode cX8_init 604 = .ok (.bipush 116, 2) := by decide +kernel
theorem dX8_init_606 : decode cX8_init 606 = .ok (.iastore, 1) := by decide +kernel
theorem dX8_init_607 : decode cX8_init 607 = .ok (.dup, 1) := by decide +kernel
theorem dX8_init_608 : decode cX8_init 608 = .ok (.bipush 35, 2) := by decide +kernel
theorem dX8_init_610 : decode cX8_init 610 = .ok (.bipush 32, 2) := by decide +kernel
theorem dX8_init_612 : decode cX8_init 612 = .ok (.iastore, 1) := by decide +kernel
theorem dX8_init_613 : decode cX8_init 613 = .ok (.dup, 1) := by decide +kernel
theorem dX8_init_614 : decode cX8_init 614 = .ok (.bipush 36, 2) := by decide +kernel
theorem dX8_init_616 : decode cX8_init 616 = .ok (.bipush 98, 2) := by decide +kernel
theorem dX8_init_618 : decode cX8_init 618 = .ok (.iastore, 1) := by decide +kernel
theorem dX8_init_619 : decode cX8_init 619 = .ok (.dup, 1) := by decide +kernel
theorem dX8_init_620 : decode cX8_init 620 = .ok (.bipush 37, 2) := by decide +kernel
theorem dX8_init_622 : decode cX8_init 622 = .ok (.bipush 117, 2) := by decide +kernel
theorem dX8_init_624 : decode cX8_init 624 = .ok (.iastore, 1) := by decide +kernel
theorem dX8_init_625 : decode cX8_init 625 = .ok (.dup, 1) := by decide +kernel
theorem dX8_init_626 : decode cX8_init 626 = .ok (.bipush 38, 2) := by decide +kernel
theorem dX8_init_628 : decode cX8_init 628 = .ok (.bipush 114, 2) := by decide +kernel
theorem dX8_init_630 : decode cX8_init 630 = .ok (.iastore, 1) := by decide +kernel
theorem dX8_init_631 : decode cX8_init 631 = .ok (.dup, 1) := by decide +kernel
theorem dX8_init_632 : decode cX8_init 632 = .ok (.bipush 39, 2) := by decide +kernel
theorem dX8_init_634 : decode cX8_init 634 = .ok (.bipush 110, 2) := by decide +kernel
theorem dX8_init_636 : decode cX8_init 636 = .ok (.iastore, 1) := by decide +kernel
theorem dX8_init_637 : decode cX8_init 637 = .ok (.dup, 1) := by decide +kernel
theorem dX8_init_638 : decode cX8_init 638 = .ok (.bipush 40, 2) := by decide +kernel
theorem dX8_init_640 : decode cX8_init 640 = .ok (.bipush 32, 2) := by decide +kernel
theorem dX8_init_642 : decode cX8_init 642 = .ok (.iastore, 1) := by decide +kernel
theorem dX8_init_643 : decode cX8_init 643 = .ok (.dup, 1) := by decide +kernel
theorem dX8_init_644 : decode cX8_init 644 = .ok (.bipush 41, 2) := by decide +kernel
theorem dX8_init_646 : decode cX8_init 646 = .ok (.bipush 104, 2) := by decide +kernel
theorem dX8_init_648 : decode cX8_init 648 = .ok (.iastore, 1) := by decide +kernel
theorem dX8_init_649 : decode cX8_init 649 = .ok (.dup, 1) := by decide +kernel
theorem dX8_init_650 : decode cX8_init 650 = .ok (.bipush 42, 2) := by decide +kernel
theorem dX8_init_652 : decode cX8_init 652 = .ok (.bipush 101, 2) := by decide +kernel
theorem dX8_init_654 : decode cX8_init 654 = .ok (.iastore, 1) := by decide +kernel
theorem dX8_init_655 : decode cX8_init 655 = .ok (.dup, 1) := by decide +kernel
theorem dX8_init_656 : decode cX8_init 656 = .ok (.bipush 43, 2) := by decide +kernel
theorem dX8_init_658 : decode cX8_init 658 = .ok (.bipush 97, 2) := by decide +kernel
theorem dX8_init_660 : decode cX8_init 660 = .ok (.iastore, 1) := by decide +kernel
theorem dX8_init_661 : decode cX8_init 661 = .ok (.dup, 1) := by decide +kernel
theorem dX8_init_662 : decode cX8_init 662 = .ok (.bipush 44, 2) := by decide +kernel
theorem dX8_init_664 : decode cX8_init 664 = .ok (.bipush 116, 2) := by decide +kernel
theorem dX8_init_666 : decode cX8_init 666 = .ok (.iastore, 1) := by decide +kernel
theorem dX8_init_667 : decode cX8_init 667 = .ok (.dup, 1) := by decide +kernel
theorem dX8_init_668 : decode cX8_init 668 = .ok (.bipush 45, 2) := by decide +kernel
theorem dX8_init_670 : decode cX8_init 670 = .ok (.bipush 32, 2) := by decide +kernel
theorem dX8_init_672 : decode cX8_init 672 = .ok (.iastore, 1) := by decide +kernel
theorem dX8_init_673 : decode cX8_init 673 = .ok (.dup, 1) := by decide +kernel
theorem dX8_init_674 : decode cX8_init 674 = .ok (.bipush 46, 2) := by decide +kernel
theorem dX8_init_676 : decode cX8_init 676 = .ok (.bipush 115, 2) := by decide +kernel
theorem dX8_init_678 : decode cX8_init 678 = .ok (.iastore, 1) := by decide +kernel
theorem dX8_init_679 : decode cX8_init 679 = .ok (.dup, 1) := by decide +kernel
theorem dX8_init_680 : decode cX8_init 680 = .ok (.bipush 47, 2) := by decide +kernel
theorem dX8_init_682 : decode cX8_init 682 = .ok (.bipush 104, 2) := by decide +kernel
theorem dX8_init_684 : decode cX8_init 684 = .ok (.iastore, 1) := by decide +kernel
theorem dX8_init_685 : decode cX8_init 685 = .ok (.dup, 1) := by decide +kernel
theorem dX8_init_686 : decode cX8_init 686 = .ok (.bipush 48, 2) := by decide +kernel
theorem dX8_init_688 : decode cX8_init 688 = .ok (.bipush 97, 2) := by decide +kernel
theorem dX8_init_690 : decode cX8_init 690 = .ok (.iastore, 1) := by decide +kernel
theorem dX8_init_691 : decode cX8_init 691 = .ok (.dup, 1) := by decide +kernel
theorem dX8_init_692 : decode cX8_init 692 = .ok (.bipush 49, 2) := by decide +kernel
theorem dX8_init_694 : decode cX8_init 694 = .ok (.bipush 100, 2) := by decide +kernel
theorem dX8_init_696 : decode cX8_init 696 = .ok (.iastore, 1) := by decide +kernel
theorem dX8_init_697 : decode cX8_init 697 = .ok (.dup, 1) := by decide +kernel
theorem dX8_init_698 : decode cX8_init 698 = .ok (.bipush 50, 2) := by decide +kernel
theorem dX8_init_700 : decode cX8_init 700 = .ok (.bipush 101, 2) := by decide +kernel
theorem dX8_init_702 : decode cX8_init 702 = .ok (.iastore, 1) := by decide +kernel
theorem dX8_init_703 : decode cX8_init 703 = .ok (.dup, 1) := by decide +kernel
theorem dX8_init_704 : decode cX8_init 704 = .ok (.bipush 51, 2) := by decide +kernel
theorem dX8_init_706 : decode cX8_init 706 = .ok (.bipush 100, 2) := by decide +kernel
theorem dX8_init_708 : decode cX8_init 708 = .ok (.iastore, 1) := by decide +kernel
theorem dX8_init_709 : decode cX8_init 709 = .ok (.dup, 1) := by decide +kernel
theorem dX8_init_710 : decode cX8_init 710 = .ok (.bipush 52, 2) := by decide +kernel
theorem dX8_init_712 : decode cX8_init 712 = .ok (.bipush 32, 2) := by decide +kernel
theorem dX8_init_714 : decode cX8_init 714 = .ok (.iastore, 1) := by decide +kernel
theorem dX8_init_715 : decode cX8_init 715 = .ok (.dup, 1) := by decide +kernel
theorem dX8_init_716 : decode cX8_init 716 = .ok (.bipush 53, 2) := by decide +kernel
theorem dX8_init_718 : decode cX8_init 718 = .ok (.bipush 119, 2) := by decide +kernel
theorem dX8_init_720 : decode cX8_init 720 = .ok (.iastore, 1) := by decide +kernel
theorem dX8_init_721 : decode cX8_init 721 = .ok (.dup, 1) := by decide +kernel
theorem dX8_init_722 : decode cX8_init 722 = .ok (.bipush 54, 2) := by decide +kernel
theorem dX8_init_724 : decode cX8_init 724 = .ok (.bipush 97, 2) := by decide +kernel
theorem dX8_init_726 : decode cX8_init 726 = .ok (.iastore, 1) := by decide +kernel
theorem dX8_init_727 : decode cX8_init 727 = .ok (.dup, 1) := by decide +kernel
theorem dX8_init_728 : decode cX8_init 728 = .ok (.bipush 55, 2) := by decide +kernel
theorem dX8_init_730 : decode cX8_init 730 = .ok (.bipush 116, 2) := by decide +kernel
theorem dX8_init_732 : decode cX8_init 732 = .ok (.iastore, 1) := by decide +kernel
theorem dX8_init_733 : decode cX8_init 733 = .ok (.dup, 1) := by decide +kernel
theorem dX8_init_734 : decode cX8_init 734 = .ok (.bipush 56, 2) := by decide +kernel
theorem dX8_init_736 : decode cX8_init 736 = .ok (.bipush 101, 2) := by decide +kernel
theorem dX8_init_738 : decode cX8_init 738 = .ok (.iastore, 1) := by decide +kernel
theorem dX8_init_739 : decode cX8_init 739 = .ok (.dup, 1) := by decide +kernel
theorem dX8_init_740 : decode cX8_init 740 = .ok (.bipush 57, 2) := by decide +kernel
theorem dX8_init_742 : decode cX8_init 742 = .ok (.bipush 114, 2) := by decide +kernel
theorem dX8_init_744 : decode cX8_init 744 = .ok (.iastore, 1) := by decide +kernel
theorem dX8_init_745 : decode cX8_init 745 = .ok (.dup, 1) := by decide +kernel
theorem dX8_init_746 : decode cX8_init 746 = .ok (.bipush 58, 2) := by decide +kernel
theorem dX8_init_748 : decode cX8_init 748 = .ok (.bipush 32, 2) := by decide +kernel
theorem dX8_init_750 : decode cX8_init 750 = .ok (.iastore, 1) := by decide +kernel
theorem dX8_init_751 : decode cX8_init 751 = .ok (.dup, 1) := by decide +kernel
theorem dX8_init_752 : decode cX8_init 752 = .ok (.bipush 59, 2) := by decide +kernel
theorem dX8_init_754 : decode cX8_init 754 = .ok (.bipush 116, 2) := by decide +kernel
theorem dX8_init_756 : decode cX8_init 756 = .ok (.iastore, 1) := by decide +kernel
theorem dX8_init_757 : decode cX8_init 757 = .ok (.dup, 1) := by decide +kernel
theorem dX8_init_758 : decode cX8_init 758 = .ok (.bipush 60, 2) := by decide +kernel
theorem dX8_init_760 : decode cX8_init 760 = .ok (.bipush 97, 2) := by decide +kernel
theorem dX8_init_762 : decode cX8_init 762 = .ok (.iastore, 1) := by decide +kernel
theorem dX8_init_763 : decode cX8_init 763 = .ok (.dup, 1) := by decide +kernel
theorem dX8_init_764 : decode cX8_init 764 = .ok (.bipush 61, 2) := by decide +kernel
theorem dX8_init_766 : decode cX8_init 766 = .ok (.bipush 108, 2) := by decide +kernel
theorem dX8_init_768 : decode cX8_init 768 = .ok (.iastore, 1) := by decide +kernel
theorem dX8_init_769 : decode cX8_init 769 = .ok (.dup, 1) := by decide +kernel
theorem dX8_init_770 : decode cX8_init 770 = .ok (.bipush 62, 2) := by decide +kernel
theorem dX8_init_772 : decode cX8_init 772 = .ok (.bipush 108, 2) := by decide +kernel
theorem dX8_init_774 : decode cX8_init 774 = .ok (.iastore, 1) := by decide +kernel
theorem dX8_init_775 : decode cX8_init 775 = .ok (.dup, 1) := by decide +kernel
theorem dX8_init_776 : decode cX8_init 776 = .ok (.bipush 63, 2) := by decide +kernel
theorem dX8_init_778 : decode cX8_init 778 = .ok (.bipush 32, 2) := by decide +kernel
theorem dX8_init_780 : decode cX8_init 780 = .ok (.iastore, 1) := by decide +kernel
theorem dX8_init_781 : decode cX8_init 781 = .ok (.dup, 1) := by decide +kernel
theorem dX8_init_782 : decode cX8_init 782 = .ok (.bipush 64, 2) := by decide +kernel
theorem dX8_init_784 : decode cX8_init 784 = .ok (.bipush 115, 2) := by decide +kernel
theorem dX8_init_786 : decode cX8_init 786 = .ok (.iastore, 1) := by decide +kernel
theorem dX8_init_787 : decode cX8_init 787 = .ok (.dup, 1) := by decide +kernel
theorem dX8_init_788 : decode cX8_init 788 = .ok (.bipush 65, 2) := by decide +kernel
theorem dX8_init_790 : decode cX8_init 790 = .ok (.bipush 107, 2) := by decide +kernel
theorem dX8_init_792 : decode cX8_init 792 = .ok (.iastore, 1) := by decide +kernel
theorem dX8_init_793 : decode cX8_init 793 = .ok (.dup, 1) := by decide +kernel
theorem dX8_init_794 : decode cX8_init 794 = .ok (.bipush 66, 2) := by decide +kernel
theorem dX8_init_796 : decode cX8_init 796 = .ok (.bipush 105, 2) := by decide +kernel
theorem dX8_init_798 : decode cX8_init 798 = .ok (.iastore, 1) := by decide +kernel
theorem dX8_init_799 : decode cX8_init 799 = .ok (.dup, 1) := by decide +kernel
theorem dX8_init_800 : decode cX8_init 800 = .ok (.bipush 67, 2) := by decide +kernel
theorem dX8_init_802 : decode cX8_init 802 = .ok (.bipush 110, 2) := by decide +kernel
theorem dX8_init_804 : decode cX8_init 804 = .ok (.iastore, 1) := by decide +kernel
theorem dX8_init_805 : decode cX8_init 805 = .ok (.dup, 1) := by decide +kernel
theorem dX8_init_806 : decode cX8_init 806 = .ok (.bipush 68, 2) := by decide +kernel
theorem dX8_init_808 : decode cX8_init 808 = .ok (.bipush 32, 2) := by decide +kernel
theorem dX8_init_810 : decode cX8_init 810 = .ok (.iastore, 1) := by decide +kernel
theorem dX8_init_811 : decode cX8_init 811 = .ok (.dup, 1) := by decide +kernel
theorem dX8_init_812 : decode cX8_init 812 = .ok (.bipush 69, 2) := by decide +kernel
theorem dX8_init_814 : decode cX8_init 814 = .ok (.bipush 104, 2) := by decide +kernel
theorem dX8_init_816 : decode cX8_init 816 = .ok (.iastore, 1) := by decide +kernel
theorem dX8_init_817 : decode cX8_init 817 = .ok (.dup, 1) := by decide +kernel
theorem dX8_init_818 : decode cX8_init 818 = .ok (.bipush 70, 2) := by decide +kernel
theorem dX8_init_820 : decode cX8_init 820 = .ok (.bipush 111, 2) := by decide +kernel
theorem dX8_init_822 : decode cX8_init 822 = .ok (.iastore, 1) := by decide +kernel
theorem dX8_init_823 : decode cX8_init 823 = .ok (.dup, 1) := by decide +kernel
theorem dX8_init_824 : decode cX8_init 824 = .ok (.bipush 71, 2) := by decide +kernel
theorem dX8_init_826 : decode cX8_init 826 = .ok (.bipush 117, 2) := by decide +kernel
theorem dX8_init_828 : decode cX8_init 828 = .ok (.iastore, 1) := by decide +kernel
theorem dX8_init_829 : decode cX8_init 829 = .ok (.dup, 1) := by decide +kernel
theorem dX8_init_830 : decode cX8_init 830 = .ok (.bipush 72, 2) := by decide +kernel
theorem dX8_init_832 : decode cX8_init 832 = .ok (.bipush 114, 2) := by decide +kernel
theorem dX8_init_834 : decode cX8_init 834 = .ok (.iastore, 1) := by decide +kernel
theorem dX8_init_835 : decode cX8_init 835 = .ok (.dup, 1) := by decide +kernel
theorem dX8_init_836 : decode cX8_init 836 = .ok (.bipush 73, 2) := by decide +kernel
theorem dX8_init_838 : decode cX8_init 838 = .ok (.bipush 32, 2) := by decide +kernel
theorem dX8_init_840 : decode cX8_init 840 = .ok (.iastore, 1) := by decide +kernel
theorem dX8_init_841 : decode cX8_init 841 = .ok (.dup, 1) := by decide +kernel
theorem dX8_init_842 : decode cX8_init 842 = .ok (.bipush 74, 2) := by decide +kernel
theorem dX8_init_844 : decode cX8_init 844 = .ok (.bipush 112, 2) := by decide +kernel
theorem dX8_init_846 : decode cX8_init 846 = .ok (.iastore, 1) := by decide +kernel
theorem dX8_init_847 : decode cX8_init 847 = .ok (.dup, 1) := by decide +kernel
theorem dX8_init_848 : decode cX8_init 848 = .ok (.bipush 75, 2) := by decide +kernel
theorem dX8_init_850 : decode cX8_init 850 = .ok (.bipush 108, 2) := by decide +kernel
theorem dX8_init_852 : decode cX8_init 852 = .ok (.iastore, 1) := by decide +kernel
theorem dX8_init_853 : decode cX8_init 853 = .ok (.dup, 1) := by decide +kernel
theorem dX8_init_854 : decode cX8_init 854 = .ok (.bipush 76, 2) := by decide +kernel
theorem dX8_init_856 : decode cX8_init 856 = .ok (.bipush 97, 2) := by decide +kernel
theorem dX8_init_858 : decode cX8_init 858 = .ok (.iastore, 1) := by decide +kernel
theorem dX8_init_859 : decode cX8_init 859 = .ok (.dup, 1) := by decide +kernel
theorem dX8_init_860 : decode cX8_init 860 = .ok (.bipush 77, 2) := by decide +kernel
theorem dX8_init_862 : decode cX8_init 862 = .ok (.bipush 99, 2) := by decide +kernel
theorem dX8_init_864 : decode cX8_init 864 = .ok (.iastore, 1) := by decide +kernel
theorem dX8_init_865 : decode cX8_init 865 = .ok (.dup, 1) := by decide +kernel
theorem dX8_init_866 : decode cX8_init 866 = .ok (.bipush 78, 2) := by decide +kernel
theorem dX8_init_868 : decode cX8_init 868 = .ok (.bipush 101, 2) := by decide +kernel
theorem dX8_init_870 : decode cX8_init 870 = .ok (.iastore, 1) := by decide +kernel
theorem dX8_init_871 : decode cX8_init 871 = .ok (.dup, 1) := by decide +kernel
theorem dX8_init_872 : decode cX8_init 872 = .ok (.bipush 79, 2) := by decide +kernel
theorem dX8_init_874 : decode cX8_init 874 = .ok (.bipush 32, 2) := by decide +kernel
theorem dX8_init_876 : decode cX8_init 876 = .ok (.iastore, 1) := by decide +kernel
theorem dX8_init_877 : decode cX8_init 877 = .ok (.dup, 1) := by decide +kernel
theorem dX8_init_878 : decode cX8_init 878 = .ok (.bipush 80, 2) := by decide +kernel
theorem dX8_init_880 : decode cX8_init 880 = .ok (.bipush 98, 2) := by decide +kernel
theorem dX8_init_882 : decode cX8_init 882 = .ok (.iastore, 1) := by decide +kernel
theorem dX8_init_883 : decode cX8_init 883 = .ok (.dup, 1) := by decide +kernel
theorem dX8_init_884 : decode cX8_init 884 = .ok (.bipush 81, 2) := by decide +kernel
theorem dX8_init_886 : decode cX8_init 886 = .ok (.bipush 101, 2) := by decide +kernel
theorem dX8_init_888 : decode cX8_init 888 = .ok (.iastore, 1) := by decide +kernel
theorem dX8_init_889 : decode cX8_init 889 = .ok (.dup, 1) := by decide +kernel
theorem dX8_init_890 : decode cX8_init 890 = .ok (.bipush 82, 2) := by decide +kernel
theorem dX8_init_892 : decode cX8_init 892 = .ok (.bipush 97, 2) := by decide +kernel
theorem dX8_init_894 : decode cX8_init 894 = .ok (.iastore, 1) := by decide +kernel
theorem dX8_init_895 : decode cX8_init 895 = .ok (.dup, 1) := by decide +kernel
theorem dX8_init_896 : decode cX8_init 896 = .ok (.bipush 83, 2) := by decide +kernel
theorem dX8_init_898 : decode cX8_init 898 = .ok (.bipush 114, 2) := by decide +kernel
theorem dX8_init_900 : decode cX8_init 900 = .ok (.iastore, 1) := by decide +kernel
theorem dX8_init_901 : decode cX8_init 901 = .ok (.dup, 1) := by decide +kernel
theorem dX8_init_902 : decode cX8_init 902 = .ok (.bipush 84, 2) := by decide +kernel
theorem dX8_init_904 : decode cX8_init 904 = .ok (.bipush 115, 2) := by decide +kernel
theorem dX8_init_906 : decode cX8_init 906 = .ok (.iastore, 1) := by decide +kernel
theorem dX8_init_907 : decode cX8_init 907 = .ok (.dup, 1) := by decide +kernel
theorem dX8_init_908 : decode cX8_init 908 = .ok (.bipush 85, 2) := by decide +kernel
theorem dX8_init_910 : decode cX8_init 910 = .ok (.bipush 32, 2) := by decide +kernel
theorem dX8_init_912 : decode cX8_init 912 = .ok (.iastore, 1) := by decide +kernel
theorem dX8_init_913 : decode cX8_init 913 = .ok (.dup, 1) := by decide +kernel
theorem dX8_init_914 : decode cX8_init 914 = .ok (.bipush 86, 2) := by decide +kernel
theorem dX8_init_916 : decode cX8_init 916 = .ok (.bipush 112, 2) := by decide +kernel
theorem dX8_init_918 : decode cX8_init 918 = .ok (.iastore, 1) := by decide +kernel
theorem dX8_init_919 : decode cX8_init 919 = .ok (.dup, 1) := by decide +kernel
theorem dX8_init_920 : decode cX8_init 920 = .ok (.bipush 87, 2) := by decide +kernel
theorem dX8_init_922 : decode cX8_init 922 = .ok (.bipush 105, 2) := by decide +kernel
theorem dX8_init_924 : decode cX8_init 924 = .ok (.iastore, 1) := by decide +kernel
theorem dX8_init_925 : decode cX8_init 925 = .ok (.dup, 1) := by decide +kernel
theorem dX8_init_926 : decode cX8_init 926 = .ok (.bipush 88, 2) := by decide +kernel
theorem dX8_init_928 : decode cX8_init 928 = .ok (.bipush 108, 2) := by decide +kernel
theorem dX8_init_930 : decode cX8_init 930 = .ok (.iastore, 1) := by decide +kernel
theorem dX8_init_931 : decode cX8_init 931 = .ok (.dup, 1) := by decide +kernel
theorem dX8_init_932 : decode cX8_init 932 = .ok (.bipush 89, 2) := by decide +kernel
theorem dX8_init_934 : decode cX8_init 934 = .ok (.bipush 103, 2) := by decide +kernel
theorem dX8_init_936 : decode cX8_init 936 = .ok (.iastore, 1) := by decide +kernel
theorem dX8_init_937 : decode cX8_init 937 = .ok (.dup, 1) := by decide +kernel
theorem dX8_init_938 : decode cX8_init 938 = .ok (.bipush 90, 2) := by decide +kernel
theorem dX8_init_940 : decode cX8_init 940 = .ok (.bipush 114, 2) := by decide +kernel
theorem dX8_init_942 : decode cX8_init 942 = .ok (.iastore, 1) := by decide +kernel
theorem dX8_init_943 : decode cX8_init 943 = .ok (.dup, 1) := by decide +kernel
theorem dX8_init_944 : decode cX8_init 944 = .ok (.bipush 91, 2) := by decide +kernel
theorem dX8_init_946 : decode cX8_init 946 = .ok (.bipush 105, 2) := by decide +kernel
theorem dX8_init_948 : decode cX8_init 948 = .ok (.iastore, 1) := by decide +kernel
theorem dX8_init_949 : decode cX8_init 949 = .ok (.dup, 1) := by decide +kernel
theorem dX8_init_950 : decode cX8_init 950 = .ok (.bipush 92, 2) := by decide +kernel
theorem dX8_init_952 : decode cX8_init 952 = .ok (.bipush 109, 2) := by decide +kernel
theorem dX8_init_954 : decode cX8_init 954 = .ok (.iastore, 1) := by decide +kernel
theorem dX8_init_955 : decode cX8_init 955 = .ok (.dup, 1) := by decide +kernel
theorem dX8_init_956 : decode cX8_init 956 = .ok (.bipush 93, 2) := by decide +kernel
theorem dX8_init_958 : decode cX8_init 958 = .ok (.bipush 32, 2) := by decide +kernel
theorem dX8_init_960 : decode cX8_init 960 = .ok (.iastore, 1) := by decide +kernel
theorem dX8_init_961 : decode cX8_init 961 = .ok (.putfield 43, 3) := by decide +kernel
theorem dX8_init_964 : decode cX8_init 964 = .ok (.aload_n 0, 1) := by decide +kernel
theorem dX8_init_965 : decode cX8_init 965 = .ok (.bipush 32, 2) := by decide +kernel
theorem dX8_init_967 : decode cX8_init 967 = .ok (.newarray .int, 2) := by decide +kernel
theorem dX8_init_969 : decode cX8_init 969 = .ok (.putfield 46, 3) := by decide +kernel
theorem dX8_init_972 : decode cX8_init 972 = .ok (.aload_n 0, 1) := by decide +kernel
theorem dX8_init_973 : decode cX8_init 973 = .ok (.bipush 32, 2) := by decide +kernel
theorem dX8_init_975 : decode cX8_init 975 = .ok (.newarray .int, 2) := by decide +kernel
theorem dX8_init_977 : decode cX8_init 977 = .ok (.putfield 49, 3) := by decide +kernel
theorem dX8_init_980 : decode cX8_init 980 = .ok (.aload_n 0, 1) := by decide +kernel
theorem dX8_init_981 : decode cX8_init 981 = .ok (.bipush 32, 2) := by decide +kernel
theorem dX8_init_983 : decode cX8_init 983 = .ok (.newarray .int, 2) := by decide +kernel
theorem dX8_init_985 : decode cX8_init 985 = .ok (.putfield 52, 3) := by decide +kernel
theorem dX8_init_988 : decode cX8_init 988 = .ok (.aload_n 0, 1) := by decide +kernel
theorem dX8_init_989 : decode cX8_init 989 = .ok (.sipush 800, 3) := by decide +kernel
theorem dX8_init_992 : decode cX8_init 992 = .ok (.newarray .int, 2) := by decide +kernel
theorem dX8_init_994 : decode cX8_init 994 = .ok (.putfield 55, 3) := by decide +kernel
theorem dX8_init_997 : decode cX8_init 997 = .ok (.aload_n 0, 1) := by decide +kernel
theorem dX8_init_998 : decode cX8_init 998 = .ok (.sipush 800, 3) := by decide +kernel
theorem dX8_init_1001 : decode cX8_init 1001 = .ok (.newarray .int, 2) := by decide +kernel
theorem dX8_init_1003 : decode cX8_init 1003 = .ok (.putfield 58, 3) := by decide +kernel
theorem dX8_init_1006 : decode cX8_init 1006 = .ok (.aload_n 0, 1) := by decide +kernel
theorem dX8_init_1007 : decode cX8_init 1007 = .ok (.bipush 40, 2) := by decide +kernel
theorem dX8_init_1009 : decode cX8_init 1009 = .ok (.newarray .int, 2) := by decide +kernel
theorem dX8_init_1011 : decode cX8_init 1011 = .ok (.putfield 61, 3) := by decide +kernel
theorem dX8_init_1014 : decode cX8_init 1014 = .ok (.aload_n 0, 1) := by decide +kernel
theorem dX8_init_1015 : decode cX8_init 1015 = .ok (.iconst (-1), 1) := by decide +kernel
theorem dX8_init_1016 : decode cX8_init 1016 = .ok (.putfield 64, 3) := by decide +kernel
theorem dX8_init_1019 : decode cX8_init 1019 = .ok (.aload_n 0, 1) := by decide +kernel
theorem dX8_init_1020 : decode cX8_init 1020 = .ok (.bipush 10, 2) := by decide +kernel
theorem dX8_init_1022 : decode cX8_init 1022 = .ok (.newarray .int, 2) := by decide +kernel
theorem dX8_init_1024 : decode cX8_init 1024 = .ok (.putfield 68, 3) := by decide +kernel
theorem dX8_init_1027 : decode cX8_init 1027 = .ok (.aload_n 0, 1) := by decide +kernel
theorem dX8_init_1028 : decode cX8_init 1028 = .ok (.sipush 420, 3) := by decide +kernel
theorem dX8_init_1031 : decode cX8_init 1031 = .ok (.newarray .int, 2) := by decide +kernel
theorem dX8_init_1033 : decode cX8_init 1033 = .ok (.putfield 71, 3) := by decide +kernel
theorem dX8_init_1036 : decode cX8_init 1036 = .ok (.aload_n 0, 1) := by decide +kernel
theorem dX8_init_1037 : decode cX8_init 1037 = .ok (.bipush 25, 2) := by decide +kernel
theorem dX8_init_1039 : decode cX8_init 1039 = .ok (.newarray .int, 2) := by decide +kernel
theorem dX8_init_1041 : decode cX8_init 1041 = .ok (.putfield 74, 3) := by decide +kernel
theorem dX8_init_1044 : decode cX8_init 1044 = .ok (.aload_n 0, 1) := by decide +kernel
theorem dX8_init_1045 : decode cX8_init 1045 = .ok (.bipush 25, 2) := by decide +kernel
theorem dX8_init_1047 : decode cX8_init 1047 = .ok (.newarray .int, 2) := by decide +kernel
theorem dX8_init_1049 : decode cX8_init 1049 = .ok (.putfield 77, 3) := by decide +kernel
theorem dX8_init_1052 : decode cX8_init 1052 = .ok (.aload_n 0, 1) := by decide +kernel
theorem dX8_init_1053 : decode cX8_init 1053 = .ok (.bipush 10, 2) := by decide +kernel
theorem dX8_init_1055 : decode cX8_init 1055 = .ok (.newarray .int, 2) := by decide +kernel
theorem dX8_init_1057 : decode cX8_init 1057 = .ok (.putfield 80, 3) := by decide +kernel
theorem dX8_init_1060 : decode cX8_init 1060 = .ok (.aload_n 0, 1) := by decide +kernel
theorem dX8_init_1061 : decode cX8_init 1061 = .ok (.sipush 2197, 3) := by decide +kernel
theorem dX8_init_1064 : decode cX8_init 1064 = .ok (.newarray .int, 2) := by decide +kernel
theorem dX8_init_1066 : decode cX8_init 1066 = .ok (.putfield 83, 3) := by decide +kernel
theorem dX8_init_1069 : decode cX8_init 1069 = .ok (.aload_n 0, 1) := by decide +kernel
theorem dX8_init_1070 : decode cX8_init 1070 = .ok (.bipush 10, 2) := by decide +kernel
theorem dX8_init_1072 : decode cX8_init 1072 = .ok (.newarray .int, 2) := by decide +kernel
theorem dX8_init_1074 : decode cX8_init 1074 = .ok (.putfield 86, 3) := by decide +kernel
theorem dX8_init_1077 : decode cX8_init 1077 = .ok (.aload_n 0, 1) := by decide +kernel
theorem dX8_init_1078 : decode cX8_init 1078 = .ok (.sipush 1900, 3) := by decide +kernel
theorem dX8_init_1081 : decode cX8_init 1081 = .ok (.newarray .int, 2) := by decide +kernel
theorem dX8_init_1083 : decode cX8_init 1083 = .ok (.putfield 89, 3) := by decide +kernel
theorem dX8_init_1086 : decode cX8_init 1086 = .ok (.return_, 1) := by decide +kernel
set_option maxRecDepth 20000 in
theorem wX8_init_0 {p : Program} {l : Launch} {e : Env} {s : State} {m : MethodId} {args : Array Value} {below : List Frame} {meth : Method} {c : Code} {B : Nat} {Z : XG} {r : Int32} {S' : Mem} (E : XEc p s m args meth c cX8_init 1 RX8 none B 1 Z) (hin : meth.name = "<init>") : ∀ (S : Mem), fX8_init_0  S  = some (r, S') → WNc p l e { frames := 1, cells := 26, slots := 8454, locals := 12 } s m args below meth c B yl_93 Z (MQ below (XVc B yl_145 Z S') args s 26 8454 (cA B)) S 0 1 0 0 [(0, .ref (Z.2.1 0))] [] := by
  obtain ⟨hx, hb, -, -, -, -, -, -, -, hB, -⟩ := id E
  intro S  h H locs ls X hl
  unfold fX8_init_0 at h
  refine lv_aload_n hx hb dX8_init_0 rfl (lv_at hl 0 rfl) ?_
  refine y_objInit E oiX8_1 hl.1 rfl dX8_init_1 ?_
  refine lv_aload_n hx hb dX8_init_4 rfl (lv_at hl 0 rfl) ?_
  refine lv_bipush (v := (55 : Int32)) hx hb dX8_init_5 (by decide) ?_
  obtain ⟨S_1, eS_1, h⟩ := ltm_s h
  refine y_newI E X (L' := yl_94) (k := 1) ac_I rfl rfl rfl rfl (by decide) (by decide) rfl dX8_init_7 (fun H X => ?_)
  rw [← eS_1] at X
  refine y_putr E hin X frX8_7 rfl rfl (by decide) (L' := yl_95) rfl dX8_init_9 (fun H locs X => ?_)
  refine lv_aload_n hx hb dX8_init_12 rfl (lv_at hl 0 rfl) ?_
  refine lv_sipush (v := (660 : Int32)) hx hb dX8_init_13 (by decide) ?_
  obtain ⟨S_2, eS_2, h⟩ := ltm_s h
  refine y_newI E X (L' := yl_96) (k := 2) ac_I rfl rfl rfl rfl (by decide) (by decide) rfl dX8_init_16 (fun H X => ?_)
  rw [← eS_2] at X
  refine y_putr E hin X frX8_13 rfl rfl (by decide) (L' := yl_97) rfl dX8_init_18 (fun H locs X => ?_)
  refine lv_aload_n hx hb dX8_init_21 rfl (lv_at hl 0 rfl) ?_
  refine lv_bipush (v := (60 : Int32)) hx hb dX8_init_22 (by decide) ?_
  obtain ⟨S_3, eS_3, h⟩ := ltm_s h
  refine y_newI E X (L' := yl_98) (k := 3) ac_I rfl rfl rfl rfl (by decide) (by decide) rfl dX8_init_24 (fun H X => ?_)
  rw [← eS_3] at X
  refine lv_dup hx hb dX8_init_26 rfl ?_
  refine lv_iconst (v := (0 : Int32)) hx hb dX8_init_27 (by decide) ?_
  refine lv_iconst (v := (2 : Int32)) hx hb dX8_init_28 (by decide) ?_
  obtain ⟨S_4, eS_4, h⟩ := ltm_s h
  refine y_iast E X rfl (by decide) dX8_init_29 (fun H locs X => ?_)
  rw [← eS_4] at X
  refine lv_dup hx hb dX8_init_30 rfl ?_
  refine lv_iconst (v := (1 : Int32)) hx hb dX8_init_31 (by decide) ?_
  refine lv_iconst (v := (0 : Int32)) hx hb dX8_init_32 (by decide) ?_
  obtain ⟨S_5, eS_5, h⟩ := ltm_s h
  refine y_iast E X rfl (by decide) dX8_init_33 (fun H locs X => ?_)
  rw [← eS_5] at X
  refine lv_dup hx hb dX8_init_34 rfl ?_
  refine lv_iconst (v := (2 : Int32)) hx hb dX8_init_35 (by decide) ?_
  refine lv_iconst (v := (1 : Int32)) hx hb dX8_init_36 (by decide) ?_
  obtain ⟨S_6, eS_6, h⟩ := ltm_s h
  refine y_iast E X rfl (by decide) dX8_init_37 (fun H locs X => ?_)
  rw [← eS_6] at X
  refine lv_dup hx hb dX8_init_38 rfl ?_
  refine lv_iconst (v := (3 : Int32)) hx hb dX8_init_39 (by decide) ?_
  refine lv_iconst (v := (0 : Int32)) hx hb dX8_init_40 (by decide) ?_
  obtain ⟨S_7, eS_7, h⟩ := ltm_s h
  refine y_iast E X rfl (by decide) dX8_init_41 (fun H locs X => ?_)
  rw [← eS_7] at X
  refine lv_dup hx hb dX8_init_42 rfl ?_
  refine lv_iconst (v := (4 : Int32)) hx hb dX8_init_43 (by decide) ?_
  refine lv_iconst (v := (0 : Int32)) hx hb dX8_init_44 (by decide) ?_
  obtain ⟨S_8, eS_8, h⟩ := ltm_s h
  refine y_iast E X rfl (by decide) dX8_init_45 (fun H locs X => ?_)
  rw [← eS_8] at X
  refine lv_dup hx hb dX8_init_46 rfl ?_
  refine lv_iconst (v := (5 : Int32)) hx hb dX8_init_47 (by decide) ?_
  refine lv_iconst (v := (2 : Int32)) hx hb dX8_init_48 (by decide) ?_
  obtain ⟨S_9, eS_9, h⟩ := ltm_s h
  refine y_iast E X rfl (by decide) dX8_init_49 (fun H locs X => ?_)
  rw [← eS_9] at X
  refine lv_dup hx hb dX8_init_50 rfl ?_
  refine lv_bipush (v := (6 : Int32)) hx hb dX8_init_51 (by decide) ?_
  refine lv_iconst (v := (1 : Int32)) hx hb dX8_init_53 (by decide) ?_
  obtain ⟨S_10, eS_10, h⟩ := ltm_s h
  refine y_iast E X rfl (by decide) dX8_init_54 (fun H locs X => ?_)
  rw [← eS_10] at X
  refine lv_dup hx hb dX8_init_55 rfl ?_
  refine lv_bipush (v := (7 : Int32)) hx hb dX8_init_56 (by decide) ?_
  refine lv_iconst (v := (2 : Int32)) hx hb dX8_init_58 (by decide) ?_
  obtain ⟨S_11, eS_11, h⟩ := ltm_s h
  refine y_iast E X rfl (by decide) dX8_init_59 (fun H locs X => ?_)
  rw [← eS_11] at X
  refine lv_dup hx hb dX8_init_60 rfl ?_
  refine lv_bipush (v := (8 : Int32)) hx hb dX8_init_61 (by decide) ?_
  refine lv_iconst (v := (0 : Int32)) hx hb dX8_init_63 (by decide) ?_
  obtain ⟨S_12, eS_12, h⟩ := ltm_s h
  refine y_iast E X rfl (by decide) dX8_init_64 (fun H locs X => ?_)
  rw [← eS_12] at X
  refine lv_dup hx hb dX8_init_65 rfl ?_
  refine lv_bipush (v := (9 : Int32)) hx hb dX8_init_66 (by decide) ?_
  refine lv_iconst (v := (0 : Int32)) hx hb dX8_init_68 (by decide) ?_
  obtain ⟨S_13, eS_13, h⟩ := ltm_s h
  refine y_iast E X rfl (by decide) dX8_init_69 (fun H locs X => ?_)
  rw [← eS_13] at X
  refine lv_dup hx hb dX8_init_70 rfl ?_
  refine lv_bipush (v := (10 : Int32)) hx hb dX8_init_71 (by decide) ?_
  refine lv_iconst (v := (3 : Int32)) hx hb dX8_init_73 (by decide) ?_
  obtain ⟨S_14, eS_14, h⟩ := ltm_s h
  refine y_iast E X rfl (by decide) dX8_init_74 (fun H locs X => ?_)
  rw [← eS_14] at X
  refine lv_dup hx hb dX8_init_75 rfl ?_
  refine lv_bipush (v := (11 : Int32)) hx hb dX8_init_76 (by decide) ?_
  refine lv_iconst (v := (2 : Int32)) hx hb dX8_init_78 (by decide) ?_
  obtain ⟨S_15, eS_15, h⟩ := ltm_s h
  refine y_iast E X rfl (by decide) dX8_init_79 (fun H locs X => ?_)
  rw [← eS_15] at X
  refine lv_dup hx hb dX8_init_80 rfl ?_
  refine lv_bipush (v := (12 : Int32)) hx hb dX8_init_81 (by decide) ?_
  refine lv_iconst (v := (3 : Int32)) hx hb dX8_init_83 (by decide) ?_
  obtain ⟨S_16, eS_16, h⟩ := ltm_s h
  refine y_iast E X rfl (by decide) dX8_init_84 (fun H locs X => ?_)
  rw [← eS_16] at X
  refine lv_dup hx hb dX8_init_85 rfl ?_
  refine lv_bipush (v := (13 : Int32)) hx hb dX8_init_86 (by decide) ?_
  refine lv_iconst (v := (0 : Int32)) hx hb dX8_init_88 (by decide) ?_
  obtain ⟨S_17, eS_17, h⟩ := ltm_s h
  refine y_iast E X rfl (by decide) dX8_init_89 (fun H locs X => ?_)
  rw [← eS_17] at X
  refine lv_dup hx hb dX8_init_90 rfl ?_
  refine lv_bipush (v := (14 : Int32)) hx hb dX8_init_91 (by decide) ?_
  refine lv_iconst (v := (0 : Int32)) hx hb dX8_init_93 (by decide) ?_
  obtain ⟨S_18, eS_18, h⟩ := ltm_s h
  refine y_iast E X rfl (by decide) dX8_init_94 (fun H locs X => ?_)
  rw [← eS_18] at X
  refine lv_dup hx hb dX8_init_95 rfl ?_
  refine lv_bipush (v := (15 : Int32)) hx hb dX8_init_96 (by decide) ?_
  refine lv_iconst (v := (3 : Int32)) hx hb dX8_init_98 (by decide) ?_
  obtain ⟨S_19, eS_19, h⟩ := ltm_s h
  refine y_iast E X rfl (by decide) dX8_init_99 (fun H locs X => ?_)
  rw [← eS_19] at X
  refine lv_dup hx hb dX8_init_100 rfl ?_
  refine lv_bipush (v := (16 : Int32)) hx hb dX8_init_101 (by decide) ?_
  refine lv_iconst (v := (3 : Int32)) hx hb dX8_init_103 (by decide) ?_
  obtain ⟨S_20, eS_20, h⟩ := ltm_s h
  refine y_iast E X rfl (by decide) dX8_init_104 (fun H locs X => ?_)
  rw [← eS_20] at X
  refine lv_dup hx hb dX8_init_105 rfl ?_
  refine lv_bipush (v := (17 : Int32)) hx hb dX8_init_106 (by decide) ?_
  refine lv_iconst (v := (4 : Int32)) hx hb dX8_init_108 (by decide) ?_
  obtain ⟨S_21, eS_21, h⟩ := ltm_s h
  refine y_iast E X rfl (by decide) dX8_init_109 (fun H locs X => ?_)
  rw [← eS_21] at X
  refine lv_dup hx hb dX8_init_110 rfl ?_
  refine lv_bipush (v := (18 : Int32)) hx hb dX8_init_111 (by decide) ?_
  refine lv_iconst (v := (0 : Int32)) hx hb dX8_init_113 (by decide) ?_
  obtain ⟨S_22, eS_22, h⟩ := ltm_s h
  refine y_iast E X rfl (by decide) dX8_init_114 (fun H locs X => ?_)
  rw [← eS_22] at X
  refine lv_dup hx hb dX8_init_115 rfl ?_
  refine lv_bipush (v := (19 : Int32)) hx hb dX8_init_116 (by decide) ?_
  refine lv_iconst (v := (0 : Int32)) hx hb dX8_init_118 (by decide) ?_
  obtain ⟨S_23, eS_23, h⟩ := ltm_s h
  refine y_iast E X rfl (by decide) dX8_init_119 (fun H locs X => ?_)
  rw [← eS_23] at X
  refine lv_dup hx hb dX8_init_120 rfl ?_
  refine lv_bipush (v := (20 : Int32)) hx hb dX8_init_121 (by decide) ?_
  refine lv_iconst (v := (4 : Int32)) hx hb dX8_init_123 (by decide) ?_
  obtain ⟨S_24, eS_24, h⟩ := ltm_s h
  refine y_iast E X rfl (by decide) dX8_init_124 (fun H locs X => ?_)
  rw [← eS_24] at X
  refine lv_dup hx hb dX8_init_125 rfl ?_
  refine lv_bipush (v := (21 : Int32)) hx hb dX8_init_126 (by decide) ?_
  refine lv_iconst (v := (4 : Int32)) hx hb dX8_init_128 (by decide) ?_
  obtain ⟨S_25, eS_25, h⟩ := ltm_s h
  refine y_iast E X rfl (by decide) dX8_init_129 (fun H locs X => ?_)
  rw [← eS_25] at X
  refine lv_dup hx hb dX8_init_130 rfl ?_
  refine lv_bipush (v := (22 : Int32)) hx hb dX8_init_131 (by decide) ?_
  refine lv_iconst (v := (5 : Int32)) hx hb dX8_init_133 (by decide) ?_
  obtain ⟨S_26, eS_26, h⟩ := ltm_s h
  refine y_iast E X rfl (by decide) dX8_init_134 (fun H locs X => ?_)
  rw [← eS_26] at X
  refine lv_dup hx hb dX8_init_135 rfl ?_
  refine lv_bipush (v := (23 : Int32)) hx hb dX8_init_136 (by decide) ?_
  refine lv_iconst (v := (0 : Int32)) hx hb dX8_init_138 (by decide) ?_
  obtain ⟨S_27, eS_27, h⟩ := ltm_s h
  refine y_iast E X rfl (by decide) dX8_init_139 (fun H locs X => ?_)
  rw [← eS_27] at X
  refine lv_dup hx hb dX8_init_140 rfl ?_
  refine lv_bipush (v := (24 : Int32)) hx hb dX8_init_141 (by decide) ?_
  refine lv_iconst (v := (0 : Int32)) hx hb dX8_init_143 (by decide) ?_
  obtain ⟨S_28, eS_28, h⟩ := ltm_s h
  refine y_iast E X rfl (by decide) dX8_init_144 (fun H locs X => ?_)
  rw [← eS_28] at X
  refine lv_dup hx hb dX8_init_145 rfl ?_
  refine lv_bipush (v := (25 : Int32)) hx hb dX8_init_146 (by decide) ?_
  refine lv_iconst (v := (4 : Int32)) hx hb dX8_init_148 (by decide) ?_
  obtain ⟨S_29, eS_29, h⟩ := ltm_s h
  refine y_iast E X rfl (by decide) dX8_init_149 (fun H locs X => ?_)
  rw [← eS_29] at X
  refine lv_dup hx hb dX8_init_150 rfl ?_
  refine lv_bipush (v := (26 : Int32)) hx hb dX8_init_151 (by decide) ?_
  refine lv_iconst (v := (4 : Int32)) hx hb dX8_init_153 (by decide) ?_
  obtain ⟨S_30, eS_30, h⟩ := ltm_s h
  refine y_iast E X rfl (by decide) dX8_init_154 (fun H locs X => ?_)
  rw [← eS_30] at X
  refine lv_dup hx hb dX8_init_155 rfl ?_
  refine lv_bipush (v := (27 : Int32)) hx hb dX8_init_156 (by decide) ?_
  refine lv_iconst (v := (5 : Int32)) hx hb dX8_init_158 (by decide) ?_
  obtain ⟨S_31, eS_31, h⟩ := ltm_s h
  refine y_iast E X rfl (by decide) dX8_init_159 (fun H locs X => ?_)
  rw [← eS_31] at X
  refine lv_dup hx hb dX8_init_160 rfl ?_
  refine lv_bipush (v := (28 : Int32)) hx hb dX8_init_161 (by decide) ?_
  refine lv_iconst (v := (0 : Int32)) hx hb dX8_init_163 (by decide) ?_
  obtain ⟨S_32, eS_32, h⟩ := ltm_s h
  refine y_iast E X rfl (by decide) dX8_init_164 (fun H locs X => ?_)
  rw [← eS_32] at X
  refine lv_dup hx hb dX8_init_165 rfl ?_
  refine lv_bipush (v := (29 : Int32)) hx hb dX8_init_166 (by decide) ?_
  refine lv_iconst (v := (0 : Int32)) hx hb dX8_init_168 (by decide) ?_
  obtain ⟨S_33, eS_33, h⟩ := ltm_s h
  refine y_iast E X rfl (by decide) dX8_init_169 (fun H locs X => ?_)
  rw [← eS_33] at X
  refine lv_dup hx hb dX8_init_170 rfl ?_
  refine lv_bipush (v := (30 : Int32)) hx hb dX8_init_171 (by decide) ?_
  refine lv_iconst (v := (4 : Int32)) hx hb dX8_init_173 (by decide) ?_
  obtain ⟨S_34, eS_34, h⟩ := ltm_s h
  refine y_iast E X rfl (by decide) dX8_init_174 (fun H locs X => ?_)
  rw [← eS_34] at X
  refine lv_dup hx hb dX8_init_175 rfl ?_
  refine lv_bipush (v := (31 : Int32)) hx hb dX8_init_176 (by decide) ?_
  refine lv_iconst (v := (4 : Int32)) hx hb dX8_init_178 (by decide) ?_
  obtain ⟨S_35, eS_35, h⟩ := ltm_s h
  refine y_iast E X rfl (by decide) dX8_init_179 (fun H locs X => ?_)
  rw [← eS_35] at X
  refine lv_dup hx hb dX8_init_180 rfl ?_
  refine lv_bipush (v := (32 : Int32)) hx hb dX8_init_181 (by decide) ?_
  refine lv_iconst (v := (5 : Int32)) hx hb dX8_init_183 (by decide) ?_
  obtain ⟨S_36, eS_36, h⟩ := ltm_s h
  refine y_iast E X rfl (by decide) dX8_init_184 (fun H locs X => ?_)
  rw [← eS_36] at X
  refine lv_dup hx hb dX8_init_185 rfl ?_
  refine lv_bipush (v := (33 : Int32)) hx hb dX8_init_186 (by decide) ?_
  refine lv_iconst (v := (0 : Int32)) hx hb dX8_init_188 (by decide) ?_
  obtain ⟨S_37, eS_37, h⟩ := ltm_s h
  refine y_iast E X rfl (by decide) dX8_init_189 (fun H locs X => ?_)
  rw [← eS_37] at X
  refine lv_dup hx hb dX8_init_190 rfl ?_
  refine lv_bipush (v := (34 : Int32)) hx hb dX8_init_191 (by decide) ?_
  refine lv_iconst (v := (0 : Int32)) hx hb dX8_init_193 (by decide) ?_
  obtain ⟨S_38, eS_38, h⟩ := ltm_s h
  refine y_iast E X rfl (by decide) dX8_init_194 (fun H locs X => ?_)
  rw [← eS_38] at X
  refine lv_dup hx hb dX8_init_195 rfl ?_
  refine lv_bipush (v := (35 : Int32)) hx hb dX8_init_196 (by decide) ?_
  refine lv_iconst (v := (4 : Int32)) hx hb dX8_init_198 (by decide) ?_
  obtain ⟨S_39, eS_39, h⟩ := ltm_s h
  refine y_iast E X rfl (by decide) dX8_init_199 (fun H locs X => ?_)
  rw [← eS_39] at X
  refine lv_dup hx hb dX8_init_200 rfl ?_
  refine lv_bipush (v := (36 : Int32)) hx hb dX8_init_201 (by decide) ?_
  refine lv_iconst (v := (4 : Int32)) hx hb dX8_init_203 (by decide) ?_
  obtain ⟨S_40, eS_40, h⟩ := ltm_s h
  refine y_iast E X rfl (by decide) dX8_init_204 (fun H locs X => ?_)
  rw [← eS_40] at X
  refine lv_dup hx hb dX8_init_205 rfl ?_
  refine lv_bipush (v := (37 : Int32)) hx hb dX8_init_206 (by decide) ?_
  refine lv_iconst (v := (5 : Int32)) hx hb dX8_init_208 (by decide) ?_
  obtain ⟨S_41, eS_41, h⟩ := ltm_s h
  refine y_iast E X rfl (by decide) dX8_init_209 (fun H locs X => ?_)
  rw [← eS_41] at X
  refine lv_dup hx hb dX8_init_210 rfl ?_
  refine lv_bipush (v := (38 : Int32)) hx hb dX8_init_211 (by decide) ?_
  refine lv_iconst (v := (0 : Int32)) hx hb dX8_init_213 (by decide) ?_
  obtain ⟨S_42, eS_42, h⟩ := ltm_s h
  refine y_iast E X rfl (by decide) dX8_init_214 (fun H locs X => ?_)
  rw [← eS_42] at X
  refine lv_dup hx hb dX8_init_215 rfl ?_
  refine lv_bipush (v := (39 : Int32)) hx hb dX8_init_216 (by decide) ?_
  refine lv_iconst (v := (0 : Int32)) hx hb dX8_init_218 (by decide) ?_
  obtain ⟨S_43, eS_43, h⟩ := ltm_s h
  refine y_iast E X rfl (by decide) dX8_init_219 (fun H locs X => ?_)
  rw [← eS_43] at X
  refine lv_dup hx hb dX8_init_220 rfl ?_
  refine lv_bipush (v := (40 : Int32)) hx hb dX8_init_221 (by decide) ?_
  refine lv_iconst (v := (5 : Int32)) hx hb dX8_init_223 (by decide) ?_
  obtain ⟨S_44, eS_44, h⟩ := ltm_s h
  refine y_iast E X rfl (by decide) dX8_init_224 (fun H locs X => ?_)
  rw [← eS_44] at X
  refine lv_dup hx hb dX8_init_225 rfl ?_
  refine lv_bipush (v := (41 : Int32)) hx hb dX8_init_226 (by decide) ?_
  refine lv_iconst (v := (3 : Int32)) hx hb dX8_init_228 (by decide) ?_
  obtain ⟨S_45, eS_45, h⟩ := ltm_s h
  refine y_iast E X rfl (by decide) dX8_init_229 (fun H locs X => ?_)
  rw [← eS_45] at X
  refine lv_dup hx hb dX8_init_230 rfl ?_
  refine lv_bipush (v := (42 : Int32)) hx hb dX8_init_231 (by decide) ?_
  refine lv_iconst (v := (4 : Int32)) hx hb dX8_init_233 (by decide) ?_
  obtain ⟨S_46, eS_46, h⟩ := ltm_s h
  refine y_iast E X rfl (by decide) dX8_init_234 (fun H locs X => ?_)
  rw [← eS_46] at X
  refine lv_dup hx hb dX8_init_235 rfl ?_
  refine lv_bipush (v := (43 : Int32)) hx hb dX8_init_236 (by decide) ?_
  refine lv_iconst (v := (0 : Int32)) hx hb dX8_init_238 (by decide) ?_
  obtain ⟨S_47, eS_47, h⟩ := ltm_s h
  refine y_iast E X rfl (by decide) dX8_init_239 (fun H locs X => ?_)
  rw [← eS_47] at X
  refine lv_dup hx hb dX8_init_240 rfl ?_
  refine lv_bipush (v := (44 : Int32)) hx hb dX8_init_241 (by decide) ?_
  refine lv_iconst (v := (0 : Int32)) hx hb dX8_init_243 (by decide) ?_
  obtain ⟨S_48, eS_48, h⟩ := ltm_s h
  refine y_iast E X rfl (by decide) dX8_init_244 (fun H locs X => ?_)
  rw [← eS_48] at X
  refine lv_dup hx hb dX8_init_245 rfl ?_
  refine lv_bipush (v := (45 : Int32)) hx hb dX8_init_246 (by decide) ?_
  refine lv_iconst (v := (5 : Int32)) hx hb dX8_init_248 (by decide) ?_
  obtain ⟨S_49, eS_49, h⟩ := ltm_s h
  refine y_iast E X rfl (by decide) dX8_init_249 (fun H locs X => ?_)
  rw [← eS_49] at X
  refine lv_dup hx hb dX8_init_250 rfl ?_
  refine lv_bipush (v := (46 : Int32)) hx hb dX8_init_251 (by decide) ?_
  refine lv_iconst (v := (2 : Int32)) hx hb dX8_init_253 (by decide) ?_
  obtain ⟨S_50, eS_50, h⟩ := ltm_s h
  refine y_iast E X rfl (by decide) dX8_init_254 (fun H locs X => ?_)
  rw [← eS_50] at X
  refine lv_dup hx hb dX8_init_255 rfl ?_
  refine lv_bipush (v := (47 : Int32)) hx hb dX8_init_256 (by decide) ?_
  refine lv_iconst (v := (3 : Int32)) hx hb dX8_init_258 (by decide) ?_
  obtain ⟨S_51, eS_51, h⟩ := ltm_s h
  refine y_iast E X rfl (by decide) dX8_init_259 (fun H locs X => ?_)
  rw [← eS_51] at X
  refine lv_dup hx hb dX8_init_260 rfl ?_
  refine lv_bipush (v := (48 : Int32)) hx hb dX8_init_261 (by decide) ?_
  refine lv_iconst (v := (0 : Int32)) hx hb dX8_init_263 (by decide) ?_
  obtain ⟨S_52, eS_52, h⟩ := ltm_s h
  refine y_iast E X rfl (by decide) dX8_init_264 (fun H locs X => ?_)
  rw [← eS_52] at X
  refine lv_dup hx hb dX8_init_265 rfl ?_
  refine lv_bipush (v := (49 : Int32)) hx hb dX8_init_266 (by decide) ?_
  refine lv_iconst (v := (0 : Int32)) hx hb dX8_init_268 (by decide) ?_
  obtain ⟨S_53, eS_53, h⟩ := ltm_s h
  refine y_iast E X rfl (by decide) dX8_init_269 (fun H locs X => ?_)
  rw [← eS_53] at X
  refine lv_dup hx hb dX8_init_270 rfl ?_
  refine lv_bipush (v := (50 : Int32)) hx hb dX8_init_271 (by decide) ?_
  refine lv_bipush (v := (6 : Int32)) hx hb dX8_init_273 (by decide) ?_
  obtain ⟨S_54, eS_54, h⟩ := ltm_s h
  refine y_iast E X rfl (by decide) dX8_init_275 (fun H locs X => ?_)
  rw [← eS_54] at X
  refine lv_dup hx hb dX8_init_276 rfl ?_
  refine lv_bipush (v := (51 : Int32)) hx hb dX8_init_277 (by decide) ?_
  refine lv_iconst (v := (1 : Int32)) hx hb dX8_init_279 (by decide) ?_
  obtain ⟨S_55, eS_55, h⟩ := ltm_s h
  refine y_iast E X rfl (by decide) dX8_init_280 (fun H locs X => ?_)
  rw [← eS_55] at X
  refine lv_dup hx hb dX8_init_281 rfl ?_
  refine lv_bipush (v := (52 : Int32)) hx hb dX8_init_282 (by decide) ?_
  refine lv_iconst (v := (2 : Int32)) hx hb dX8_init_284 (by decide) ?_
  obtain ⟨S_56, eS_56, h⟩ := ltm_s h
  refine y_iast E X rfl (by decide) dX8_init_285 (fun H locs X => ?_)
  rw [← eS_56] at X
  refine lv_dup hx hb dX8_init_286 rfl ?_
  refine lv_bipush (v := (53 : Int32)) hx hb dX8_init_287 (by decide) ?_
  refine lv_iconst (v := (0 : Int32)) hx hb dX8_init_289 (by decide) ?_
  obtain ⟨S_57, eS_57, h⟩ := ltm_s h
  refine y_iast E X rfl (by decide) dX8_init_290 (fun H locs X => ?_)
  rw [← eS_57] at X
  refine lv_dup hx hb dX8_init_291 rfl ?_
  refine lv_bipush (v := (54 : Int32)) hx hb dX8_init_292 (by decide) ?_
  refine lv_iconst (v := (0 : Int32)) hx hb dX8_init_294 (by decide) ?_
  obtain ⟨S_58, eS_58, h⟩ := ltm_s h
  refine y_iast E X rfl (by decide) dX8_init_295 (fun H locs X => ?_)
  rw [← eS_58] at X
  refine lv_dup hx hb dX8_init_296 rfl ?_
  refine lv_bipush (v := (55 : Int32)) hx hb dX8_init_297 (by decide) ?_
  refine lv_bipush (v := (6 : Int32)) hx hb dX8_init_299 (by decide) ?_
  obtain ⟨S_59, eS_59, h⟩ := ltm_s h
  refine y_iast E X rfl (by decide) dX8_init_301 (fun H locs X => ?_)
  rw [← eS_59] at X
  refine lv_dup hx hb dX8_init_302 rfl ?_
  refine lv_bipush (v := (56 : Int32)) hx hb dX8_init_303 (by decide) ?_
  refine lv_iconst (v := (0 : Int32)) hx hb dX8_init_305 (by decide) ?_
  obtain ⟨S_60, eS_60, h⟩ := ltm_s h
  refine y_iast E X rfl (by decide) dX8_init_306 (fun H locs X => ?_)
  rw [← eS_60] at X
  refine lv_dup hx hb dX8_init_307 rfl ?_
  refine lv_bipush (v := (57 : Int32)) hx hb dX8_init_308 (by decide) ?_
  refine lv_iconst (v := (1 : Int32)) hx hb dX8_init_310 (by decide) ?_
  obtain ⟨S_61, eS_61, h⟩ := ltm_s h
  refine y_iast E X rfl (by decide) dX8_init_311 (fun H locs X => ?_)
  rw [← eS_61] at X
  refine lv_dup hx hb dX8_init_312 rfl ?_
  refine lv_bipush (v := (58 : Int32)) hx hb dX8_init_313 (by decide) ?_
  refine lv_iconst (v := (0 : Int32)) hx hb dX8_init_315 (by decide) ?_
  obtain ⟨S_62, eS_62, h⟩ := ltm_s h
  refine y_iast E X rfl (by decide) dX8_init_316 (fun H locs X => ?_)
  rw [← eS_62] at X
  refine lv_dup hx hb dX8_init_317 rfl ?_
  refine lv_bipush (v := (59 : Int32)) hx hb dX8_init_318 (by decide) ?_
  refine lv_iconst (v := (0 : Int32)) hx hb dX8_init_320 (by decide) ?_
  obtain ⟨S_63, eS_63, h⟩ := ltm_s h
  refine y_iast E X rfl (by decide) dX8_init_321 (fun H locs X => ?_)
  rw [← eS_63] at X
  refine y_putr E hin X frX8_16 rfl rfl (by decide) (L' := yl_99) rfl dX8_init_322 (fun H locs X => ?_)
  refine lv_aload_n hx hb dX8_init_325 rfl (lv_at hl 0 rfl) ?_
  refine lv_iconst (v := (2 : Int32)) hx hb dX8_init_326 (by decide) ?_
  obtain ⟨S_64, eS_64, h⟩ := ltm_s h
  refine y_newI E X (L' := yl_100) (k := 4) ac_I rfl rfl rfl rfl (by decide) (by decide) rfl dX8_init_327 (fun H X => ?_)
  rw [← eS_64] at X
  refine lv_dup hx hb dX8_init_329 rfl ?_
  refine lv_iconst (v := (0 : Int32)) hx hb dX8_init_330 (by decide) ?_
  refine lv_iconst (v := (5 : Int32)) hx hb dX8_init_331 (by decide) ?_
  obtain ⟨S_65, eS_65, h⟩ := ltm_s h
  refine y_iast E X rfl (by decide) dX8_init_332 (fun H locs X => ?_)
  rw [← eS_65] at X
  refine lv_dup hx hb dX8_init_333 rfl ?_
  refine lv_iconst (v := (1 : Int32)) hx hb dX8_init_334 (by decide) ?_
  refine lv_iconst (v := (0 : Int32)) hx hb dX8_init_335 (by decide) ?_
  obtain ⟨S_66, eS_66, h⟩ := ltm_s h
  refine y_iast E X rfl (by decide) dX8_init_336 (fun H locs X => ?_)
  rw [← eS_66] at X
  refine y_putr E hin X frX8_19 rfl rfl (by decide) (L' := yl_101) rfl dX8_init_337 (fun H locs X => ?_)
  refine lv_aload_n hx hb dX8_init_340 rfl (lv_at hl 0 rfl) ?_
  refine lv_bipush (v := (10 : Int32)) hx hb dX8_init_341 (by decide) ?_
  obtain ⟨S_67, eS_67, h⟩ := ltm_s h
  refine y_newI E X (L' := yl_102) (k := 5) ac_I rfl rfl rfl rfl (by decide) (by decide) rfl dX8_init_343 (fun H X => ?_)
  rw [← eS_67] at X
  refine y_putr E hin X frX8_22 rfl rfl (by decide) (L' := yl_103) rfl dX8_init_345 (fun H locs X => ?_)
  refine lv_aload_n hx hb dX8_init_348 rfl (lv_at hl 0 rfl) ?_
  refine lv_bipush (v := (10 : Int32)) hx hb dX8_init_349 (by decide) ?_
  obtain ⟨S_68, eS_68, h⟩ := ltm_s h
  refine y_newI E X (L' := yl_104) (k := 6) ac_I rfl rfl rfl rfl (by decide) (by decide) rfl dX8_init_351 (fun H X => ?_)
  rw [← eS_68] at X
  refine y_putr E hin X frX8_25 rfl rfl (by decide) (L' := yl_105) rfl dX8_init_353 (fun H locs X => ?_)
  refine lv_aload_n hx hb dX8_init_356 rfl (lv_at hl 0 rfl) ?_
  refine lv_bipush (v := (10 : Int32)) hx hb dX8_init_357 (by decide) ?_
  obtain ⟨S_69, eS_69, h⟩ := ltm_s h
  refine y_newI E X (L' := yl_106) (k := 7) ac_I rfl rfl rfl rfl (by decide) (by decide) rfl dX8_init_359 (fun H X => ?_)
  rw [← eS_69] at X
  refine y_putr E hin X frX8_28 rfl rfl (by decide) (L' := yl_107) rfl dX8_init_361 (fun H locs X => ?_)
  refine lv_aload_n hx hb dX8_init_364 rfl (lv_at hl 0 rfl) ?_
  refine lv_bipush (v := (10 : Int32)) hx hb dX8_init_365 (by decide) ?_
  obtain ⟨S_70, eS_70, h⟩ := ltm_s h
  refine y_newI E X (L' := yl_108) (k := 8) ac_I rfl rfl rfl rfl (by decide) (by decide) rfl dX8_init_367 (fun H X => ?_)
  rw [← eS_70] at X
  refine y_putr E hin X frX8_31 rfl rfl (by decide) (L' := yl_109) rfl dX8_init_369 (fun H locs X => ?_)
  refine lv_aload_n hx hb dX8_init_372 rfl (lv_at hl 0 rfl) ?_
  refine lv_sipush (v := (800 : Int32)) hx hb dX8_init_373 (by decide) ?_
  obtain ⟨S_71, eS_71, h⟩ := ltm_s h
  refine y_newI E X (L' := yl_110) (k := 9) ac_I rfl rfl rfl rfl (by decide) (by decide) rfl dX8_init_376 (fun H X => ?_)
  rw [← eS_71] at X
  refine y_putr E hin X frX8_34 rfl rfl (by decide) (L' := yl_111) rfl dX8_init_378 (fun H locs X => ?_)
  refine lv_aload_n hx hb dX8_init_381 rfl (lv_at hl 0 rfl) ?_
  refine lv_bipush (v := (10 : Int32)) hx hb dX8_init_382 (by decide) ?_
  obtain ⟨S_72, eS_72, h⟩ := ltm_s h
  refine y_newI E X (L' := yl_112) (k := 10) ac_I rfl rfl rfl rfl (by decide) (by decide) rfl dX8_init_384 (fun H X => ?_)
  rw [← eS_72] at X
  refine y_putr E hin X frX8_37 rfl rfl (by decide) (L' := yl_113) rfl dX8_init_386 (fun H locs X => ?_)
  refine lv_aload_n hx hb dX8_init_389 rfl (lv_at hl 0 rfl) ?_
  refine lv_sipush (v := (400 : Int32)) hx hb dX8_init_390 (by decide) ?_
  obtain ⟨S_73, eS_73, h⟩ := ltm_s h
  refine y_newI E X (L' := yl_114) (k := 11) ac_I rfl rfl rfl rfl (by decide) (by decide) rfl dX8_init_393 (fun H X => ?_)
  rw [← eS_73] at X
  refine y_putr E hin X frX8_40 rfl rfl (by decide) (L' := yl_115) rfl dX8_init_395 (fun H locs X => ?_)
  refine lv_aload_n hx hb dX8_init_398 rfl (lv_at hl 0 rfl) ?_
  refine lv_bipush (v := (94 : Int32)) hx hb dX8_init_399 (by decide) ?_
  obtain ⟨S_74, eS_74, h⟩ := ltm_s h
  refine y_newI E X (L' := yl_116) (k := 12) ac_I rfl rfl rfl rfl (by decide) (by decide) rfl dX8_init_401 (fun H X => ?_)
  rw [← eS_74] at X
  refine lv_dup hx hb dX8_init_403 rfl ?_
  refine lv_iconst (v := (0 : Int32)) hx hb dX8_init_404 (by decide) ?_
  refine lv_bipush (v := (32 : Int32)) hx hb dX8_init_405 (by decide) ?_
  obtain ⟨S_75, eS_75, h⟩ := ltm_s h
  refine y_iast E X rfl (by decide) dX8_init_407 (fun H locs X => ?_)
  rw [← eS_75] at X
  refine lv_dup hx hb dX8_init_408 rfl ?_
  refine lv_iconst (v := (1 : Int32)) hx hb dX8_init_409 (by decide) ?_
  refine lv_bipush (v := (115 : Int32)) hx hb dX8_init_410 (by decide) ?_
  obtain ⟨S_76, eS_76, h⟩ := ltm_s h
  refine y_iast E X rfl (by decide) dX8_init_412 (fun H locs X => ?_)
  rw [← eS_76] at X
  refine lv_dup hx hb dX8_init_413 rfl ?_
  refine lv_iconst (v := (2 : Int32)) hx hb dX8_init_414 (by decide) ?_
  refine lv_bipush (v := (116 : Int32)) hx hb dX8_init_415 (by decide) ?_
  obtain ⟨S_77, eS_77, h⟩ := ltm_s h
  refine y_iast E X rfl (by decide) dX8_init_417 (fun H locs X => ?_)
  rw [← eS_77] at X
  refine lv_dup hx hb dX8_init_418 rfl ?_
  refine lv_iconst (v := (3 : Int32)) hx hb dX8_init_419 (by decide) ?_
  refine lv_bipush (v := (97 : Int32)) hx hb dX8_init_420 (by decide) ?_
  obtain ⟨S_78, eS_78, h⟩ := ltm_s h
  refine y_iast E X rfl (by decide) dX8_init_422 (fun H locs X => ?_)
  rw [← eS_78] at X
  refine lv_dup hx hb dX8_init_423 rfl ?_
  refine lv_iconst (v := (4 : Int32)) hx hb dX8_init_424 (by decide) ?_
  refine lv_bipush (v := (121 : Int32)) hx hb dX8_init_425 (by decide) ?_
  obtain ⟨S_79, eS_79, h⟩ := ltm_s h
  refine y_iast E X rfl (by decide) dX8_init_427 (fun H locs X => ?_)
  rw [← eS_79] at X
  refine lv_dup hx hb dX8_init_428 rfl ?_
  refine lv_iconst (v := (5 : Int32)) hx hb dX8_init_429 (by decide) ?_
  refine lv_bipush (v := (32 : Int32)) hx hb dX8_init_430 (by decide) ?_
  obtain ⟨S_80, eS_80, h⟩ := ltm_s h
  refine y_iast E X rfl (by decide) dX8_init_432 (fun H locs X => ?_)
  rw [← eS_80] at X
  refine lv_dup hx hb dX8_init_433 rfl ?_
  refine lv_bipush (v := (6 : Int32)) hx hb dX8_init_434 (by decide) ?_
  refine lv_bipush (v := (115 : Int32)) hx hb dX8_init_436 (by decide) ?_
  obtain ⟨S_81, eS_81, h⟩ := ltm_s h
  refine y_iast E X rfl (by decide) dX8_init_438 (fun H locs X => ?_)
  rw [← eS_81] at X
  refine lv_dup hx hb dX8_init_439 rfl ?_
  refine lv_bipush (v := (7 : Int32)) hx hb dX8_init_440 (by decide) ?_
  refine lv_bipush (v := (101 : Int32)) hx hb dX8_init_442 (by decide) ?_
  obtain ⟨S_82, eS_82, h⟩ := ltm_s h
  refine y_iast E X rfl (by decide) dX8_init_444 (fun H locs X => ?_)
  rw [← eS_82] at X
  refine lv_dup hx hb dX8_init_445 rfl ?_
  refine lv_bipush (v := (8 : Int32)) hx hb dX8_init_446 (by decide) ?_
  refine lv_bipush (v := (101 : Int32)) hx hb dX8_init_448 (by decide) ?_
  obtain ⟨S_83, eS_83, h⟩ := ltm_s h
  refine y_iast E X rfl (by decide) dX8_init_450 (fun H locs X => ?_)
  rw [← eS_83] at X
  refine lv_dup hx hb dX8_init_451 rfl ?_
  refine lv_bipush (v := (9 : Int32)) hx hb dX8_init_452 (by decide) ?_
  refine lv_bipush (v := (107 : Int32)) hx hb dX8_init_454 (by decide) ?_
  obtain ⟨S_84, eS_84, h⟩ := ltm_s h
  refine y_iast E X rfl (by decide) dX8_init_456 (fun H locs X => ?_)
  rw [← eS_84] at X
  refine lv_dup hx hb dX8_init_457 rfl ?_
  refine lv_bipush (v := (10 : Int32)) hx hb dX8_init_458 (by decide) ?_
  refine lv_bipush (v := (32 : Int32)) hx hb dX8_init_460 (by decide) ?_
  obtain ⟨S_85, eS_85, h⟩ := ltm_s h
  refine y_iast E X rfl (by decide) dX8_init_462 (fun H locs X => ?_)
  rw [← eS_85] at X
  refine lv_dup hx hb dX8_init_463 rfl ?_
  refine lv_bipush (v := (11 : Int32)) hx hb dX8_init_464 (by decide) ?_
  refine lv_bipush (v := (98 : Int32)) hx hb dX8_init_466 (by decide) ?_
  obtain ⟨S_86, eS_86, h⟩ := ltm_s h
  refine y_iast E X rfl (by decide) dX8_init_468 (fun H locs X => ?_)
  rw [← eS_86] at X
  refine lv_dup hx hb dX8_init_469 rfl ?_
  refine lv_bipush (v := (12 : Int32)) hx hb dX8_init_470 (by decide) ?_
  refine lv_bipush (v := (117 : Int32)) hx hb dX8_init_472 (by decide) ?_
  obtain ⟨S_87, eS_87, h⟩ := ltm_s h
  refine y_iast E X rfl (by decide) dX8_init_474 (fun H locs X => ?_)
  rw [← eS_87] at X
  refine lv_dup hx hb dX8_init_475 rfl ?_
  refine lv_bipush (v := (13 : Int32)) hx hb dX8_init_476 (by decide) ?_
  refine lv_bipush (v := (121 : Int32)) hx hb dX8_init_478 (by decide) ?_
  obtain ⟨S_88, eS_88, h⟩ := ltm_s h
  refine y_iast E X rfl (by decide) dX8_init_480 (fun H locs X => ?_)
  rw [← eS_88] at X
  refine lv_dup hx hb dX8_init_481 rfl ?_
  refine lv_bipush (v := (14 : Int32)) hx hb dX8_init_482 (by decide) ?_
  refine lv_bipush (v := (32 : Int32)) hx hb dX8_init_484 (by decide) ?_
  obtain ⟨S_89, eS_89, h⟩ := ltm_s h
  refine y_iast E X rfl (by decide) dX8_init_486 (fun H locs X => ?_)
  rw [← eS_89] at X
  refine lv_dup hx hb dX8_init_487 rfl ?_
  refine lv_bipush (v := (15 : Int32)) hx hb dX8_init_488 (by decide) ?_
  refine lv_bipush (v := (102 : Int32)) hx hb dX8_init_490 (by decide) ?_
  obtain ⟨S_90, eS_90, h⟩ := ltm_s h
  refine y_iast E X rfl (by decide) dX8_init_492 (fun H locs X => ?_)
  rw [← eS_90] at X
  refine lv_dup hx hb dX8_init_493 rfl ?_
  refine lv_bipush (v := (16 : Int32)) hx hb dX8_init_494 (by decide) ?_
  refine lv_bipush (v := (108 : Int32)) hx hb dX8_init_496 (by decide) ?_
  obtain ⟨S_91, eS_91, h⟩ := ltm_s h
  refine y_iast E X rfl (by decide) dX8_init_498 (fun H locs X => ?_)
  rw [← eS_91] at X
  refine lv_dup hx hb dX8_init_499 rfl ?_
  refine lv_bipush (v := (17 : Int32)) hx hb dX8_init_500 (by decide) ?_
  refine lv_bipush (v := (101 : Int32)) hx hb dX8_init_502 (by decide) ?_
  obtain ⟨S_92, eS_92, h⟩ := ltm_s h
  refine y_iast E X rfl (by decide) dX8_init_504 (fun H locs X => ?_)
  rw [← eS_92] at X
  refine lv_dup hx hb dX8_init_505 rfl ?_
  refine lv_bipush (v := (18 : Int32)) hx hb dX8_init_506 (by decide) ?_
  refine lv_bipush (v := (101 : Int32)) hx hb dX8_init_508 (by decide) ?_
  obtain ⟨S_93, eS_93, h⟩ := ltm_s h
  refine y_iast E X rfl (by decide) dX8_init_510 (fun H locs X => ?_)
  rw [← eS_93] at X
  refine lv_dup hx hb dX8_init_511 rfl ?_
  refine lv_bipush (v := (19 : Int32)) hx hb dX8_init_512 (by decide) ?_
  refine lv_bipush (v := (32 : Int32)) hx hb dX8_init_514 (by decide) ?_
  obtain ⟨S_94, eS_94, h⟩ := ltm_s h
  refine y_iast E X rfl (by decide) dX8_init_516 (fun H locs X => ?_)
  rw [← eS_94] at X
  refine lv_dup hx hb dX8_init_517 rfl ?_
  refine lv_bipush (v := (20 : Int32)) hx hb dX8_init_518 (by decide) ?_
  refine lv_bipush (v := (119 : Int32)) hx hb dX8_init_520 (by decide) ?_
  obtain ⟨S_95, eS_95, h⟩ := ltm_s h
  refine y_iast E X rfl (by decide) dX8_init_522 (fun H locs X => ?_)
  rw [← eS_95] at X
  refine lv_dup hx hb dX8_init_523 rfl ?_
  refine lv_bipush (v := (21 : Int32)) hx hb dX8_init_524 (by decide) ?_
  refine lv_bipush (v := (104 : Int32)) hx hb dX8_init_526 (by decide) ?_
  obtain ⟨S_96, eS_96, h⟩ := ltm_s h
  refine y_iast E X rfl (by decide) dX8_init_528 (fun H locs X => ?_)
  rw [← eS_96] at X
  refine lv_dup hx hb dX8_init_529 rfl ?_
  refine lv_bipush (v := (22 : Int32)) hx hb dX8_init_530 (by decide) ?_
  refine lv_bipush (v := (101 : Int32)) hx hb dX8_init_532 (by decide) ?_
  obtain ⟨S_97, eS_97, h⟩ := ltm_s h
  refine y_iast E X rfl (by decide) dX8_init_534 (fun H locs X => ?_)
  rw [← eS_97] at X
  refine lv_dup hx hb dX8_init_535 rfl ?_
  refine lv_bipush (v := (23 : Int32)) hx hb dX8_init_536 (by decide) ?_
  refine lv_bipush (v := (110 : Int32)) hx hb dX8_init_538 (by decide) ?_
  obtain ⟨S_98, eS_98, h⟩ := ltm_s h
  refine y_iast E X rfl (by decide) dX8_init_540 (fun H locs X => ?_)
  rw [← eS_98] at X
  refine lv_dup hx hb dX8_init_541 rfl ?_
  refine lv_bipush (v := (24 : Int32)) hx hb dX8_init_542 (by decide) ?_
  refine lv_bipush (v := (32 : Int32)) hx hb dX8_init_544 (by decide) ?_
  obtain ⟨S_99, eS_99, h⟩ := ltm_s h
  refine y_iast E X rfl (by decide) dX8_init_546 (fun H locs X => ?_)
  rw [← eS_99] at X
  refine lv_dup hx hb dX8_init_547 rfl ?_
  refine lv_bipush (v := (25 : Int32)) hx hb dX8_init_548 (by decide) ?_
  refine lv_bipush (v := (111 : Int32)) hx hb dX8_init_550 (by decide) ?_
  obtain ⟨S_100, eS_100, h⟩ := ltm_s h
  refine y_iast E X rfl (by decide) dX8_init_552 (fun H locs X => ?_)
  rw [← eS_100] at X
  refine lv_dup hx hb dX8_init_553 rfl ?_
  refine lv_bipush (v := (26 : Int32)) hx hb dX8_init_554 (by decide) ?_
  refine lv_bipush (v := (114 : Int32)) hx hb dX8_init_556 (by decide) ?_
  obtain ⟨S_101, eS_101, h⟩ := ltm_s h
  refine y_iast E X rfl (by decide) dX8_init_558 (fun H locs X => ?_)
  rw [← eS_101] at X
  refine lv_dup hx hb dX8_init_559 rfl ?_
  refine lv_bipush (v := (27 : Int32)) hx hb dX8_init_560 (by decide) ?_
  refine lv_bipush (v := (32 : Int32)) hx hb dX8_init_562 (by decide) ?_
  obtain ⟨S_102, eS_102, h⟩ := ltm_s h
  refine y_iast E X rfl (by decide) dX8_init_564 (fun H locs X => ?_)
  rw [← eS_102] at X
  refine lv_dup hx hb dX8_init_565 rfl ?_
  refine lv_bipush (v := (28 : Int32)) hx hb dX8_init_566 (by decide) ?_
  refine lv_bipush (v := (97 : Int32)) hx hb dX8_init_568 (by decide) ?_
  obtain ⟨S_103, eS_103, h⟩ := ltm_s h
  refine y_iast E X rfl (by decide) dX8_init_570 (fun H locs X => ?_)
  rw [← eS_103] at X
  refine lv_dup hx hb dX8_init_571 rfl ?_
  refine lv_bipush (v := (29 : Int32)) hx hb dX8_init_572 (by decide) ?_
  refine lv_bipush (v := (110 : Int32)) hx hb dX8_init_574 (by decide) ?_
  obtain ⟨S_104, eS_104, h⟩ := ltm_s h
  refine y_iast E X rfl (by decide) dX8_init_576 (fun H locs X => ?_)
  rw [← eS_104] at X
  refine lv_dup hx hb dX8_init_577 rfl ?_
  refine lv_bipush (v := (30 : Int32)) hx hb dX8_init_578 (by decide) ?_
  refine lv_bipush (v := (100 : Int32)) hx hb dX8_init_580 (by decide) ?_
  obtain ⟨S_105, eS_105, h⟩ := ltm_s h
  refine y_iast E X rfl (by decide) dX8_init_582 (fun H locs X => ?_)
  rw [← eS_105] at X
  refine lv_dup hx hb dX8_init_583 rfl ?_
  refine lv_bipush (v := (31 : Int32)) hx hb dX8_init_584 (by decide) ?_
  refine lv_bipush (v := (32 : Int32)) hx hb dX8_init_586 (by decide) ?_
  obtain ⟨S_106, eS_106, h⟩ := ltm_s h
  refine y_iast E X rfl (by decide) dX8_init_588 (fun H locs X => ?_)
  rw [← eS_106] at X
  refine lv_dup hx hb dX8_init_589 rfl ?_
  refine lv_bipush (v := (32 : Int32)) hx hb dX8_init_590 (by decide) ?_
  refine lv_bipush (v := (110 : Int32)) hx hb dX8_init_592 (by decide) ?_
  obtain ⟨S_107, eS_107, h⟩ := ltm_s h
  refine y_iast E X rfl (by decide) dX8_init_594 (fun H locs X => ?_)
  rw [← eS_107] at X
  refine lv_dup hx hb dX8_init_595 rfl ?_
  refine lv_bipush (v := (33 : Int32)) hx hb dX8_init_596 (by decide) ?_
  refine lv_bipush (v := (111 : Int32)) hx hb dX8_init_598 (by decide) ?_
  obtain ⟨S_108, eS_108, h⟩ := ltm_s h
  refine y_iast E X rfl (by decide) dX8_init_600 (fun H locs X => ?_)
  rw [← eS_108] at X
  refine lv_dup hx hb dX8_init_601 rfl ?_
  refine lv_bipush (v := (34 : Int32)) hx hb dX8_init_602 (by decide) ?_
  refine lv_bipush (v := (116 : Int32)) hx hb dX8_init_604 (by decide) ?_
  obtain ⟨S_109, eS_109, h⟩ := ltm_s h
  refine y_iast E X rfl (by decide) dX8_init_606 (fun H locs X => ?_)
  rw [← eS_109] at X
  refine lv_dup hx hb dX8_init_607 rfl ?_
  refine lv_bipush (v := (35 : Int32)) hx hb dX8_init_608 (by decide) ?_
  refine lv_bipush (v := (32 : Int32)) hx hb dX8_init_610 (by decide) ?_
  obtain ⟨S_110, eS_110, h⟩ := ltm_s h
  refine y_iast E X rfl (by decide) dX8_init_612 (fun H locs X => ?_)
  rw [← eS_110] at X
  refine lv_dup hx hb dX8_init_613 rfl ?_
  refine lv_bipush (v := (36 : Int32)) hx hb dX8_init_614 (by decide) ?_
  refine lv_bipush (v := (98 : Int32)) hx hb dX8_init_616 (by decide) ?_
  obtain ⟨S_111, eS_111, h⟩ := ltm_s h
  refine y_iast E X rfl (by decide) dX8_init_618 (fun H locs X => ?_)
  rw [← eS_111] at X
  refine lv_dup hx hb dX8_init_619 rfl ?_
  refine lv_bipush (v := (37 : Int32)) hx hb dX8_init_620 (by decide) ?_
  refine lv_bipush (v := (117 : Int32)) hx hb dX8_init_622 (by decide) ?_
  obtain ⟨S_112, eS_112, h⟩ := ltm_s h
  refine y_iast E X rfl (by decide) dX8_init_624 (fun H locs X => ?_)
  rw [← eS_112] at X
  refine lv_dup hx hb dX8_init_625 rfl ?_
  refine lv_bipush (v := (38 : Int32)) hx hb dX8_init_626 (by decide) ?_
  refine lv_bipush (v := (114 : Int32)) hx hb dX8_init_628 (by decide) ?_
  obtain ⟨S_113, eS_113, h⟩ := ltm_s h
  refine y_iast E X rfl (by decide) dX8_init_630 (fun H locs X => ?_)
  rw [← eS_113] at X
  refine lv_dup hx hb dX8_init_631 rfl ?_
  refine lv_bipush (v := (39 : Int32)) hx hb dX8_init_632 (by decide) ?_
  refine lv_bipush (v := (110 : Int32)) hx hb dX8_init_634 (by decide) ?_
  obtain ⟨S_114, eS_114, h⟩ := ltm_s h
  refine y_iast E X rfl (by decide) dX8_init_636 (fun H locs X => ?_)
  rw [← eS_114] at X
  refine lv_dup hx hb dX8_init_637 rfl ?_
  refine lv_bipush (v := (40 : Int32)) hx hb dX8_init_638 (by decide) ?_
  refine lv_bipush (v := (32 : Int32)) hx hb dX8_init_640 (by decide) ?_
  obtain ⟨S_115, eS_115, h⟩ := ltm_s h
  refine y_iast E X rfl (by decide) dX8_init_642 (fun H locs X => ?_)
  rw [← eS_115] at X
  refine lv_dup hx hb dX8_init_643 rfl ?_
  refine lv_bipush (v := (41 : Int32)) hx hb dX8_init_644 (by decide) ?_
  refine lv_bipush (v := (104 : Int32)) hx hb dX8_init_646 (by decide) ?_
  obtain ⟨S_116, eS_116, h⟩ := ltm_s h
  refine y_iast E X rfl (by decide) dX8_init_648 (fun H locs X => ?_)
  rw [← eS_116] at X
  refine lv_dup hx hb dX8_init_649 rfl ?_
  refine lv_bipush (v := (42 : Int32)) hx hb dX8_init_650 (by decide) ?_
  refine lv_bipush (v := (101 : Int32)) hx hb dX8_init_652 (by decide) ?_
  obtain ⟨S_117, eS_117, h⟩ := ltm_s h
  refine y_iast E X rfl (by decide) dX8_init_654 (fun H locs X => ?_)
  rw [← eS_117] at X
  refine lv_dup hx hb dX8_init_655 rfl ?_
  refine lv_bipush (v := (43 : Int32)) hx hb dX8_init_656 (by decide) ?_
  refine lv_bipush (v := (97 : Int32)) hx hb dX8_init_658 (by decide) ?_
  obtain ⟨S_118, eS_118, h⟩ := ltm_s h
  refine y_iast E X rfl (by decide) dX8_init_660 (fun H locs X => ?_)
  rw [← eS_118] at X
  refine lv_dup hx hb dX8_init_661 rfl ?_
  refine lv_bipush (v := (44 : Int32)) hx hb dX8_init_662 (by decide) ?_
  refine lv_bipush (v := (116 : Int32)) hx hb dX8_init_664 (by decide) ?_
  obtain ⟨S_119, eS_119, h⟩ := ltm_s h
  refine y_iast E X rfl (by decide) dX8_init_666 (fun H locs X => ?_)
  rw [← eS_119] at X
  refine lv_dup hx hb dX8_init_667 rfl ?_
  refine lv_bipush (v := (45 : Int32)) hx hb dX8_init_668 (by decide) ?_
  refine lv_bipush (v := (32 : Int32)) hx hb dX8_init_670 (by decide) ?_
  obtain ⟨S_120, eS_120, h⟩ := ltm_s h
  refine y_iast E X rfl (by decide) dX8_init_672 (fun H locs X => ?_)
  rw [← eS_120] at X
  refine lv_dup hx hb dX8_init_673 rfl ?_
  refine lv_bipush (v := (46 : Int32)) hx hb dX8_init_674 (by decide) ?_
  refine lv_bipush (v := (115 : Int32)) hx hb dX8_init_676 (by decide) ?_
  obtain ⟨S_121, eS_121, h⟩ := ltm_s h
  refine y_iast E X rfl (by decide) dX8_init_678 (fun H locs X => ?_)
  rw [← eS_121] at X
  refine lv_dup hx hb dX8_init_679 rfl ?_
  refine lv_bipush (v := (47 : Int32)) hx hb dX8_init_680 (by decide) ?_
  refine lv_bipush (v := (104 : Int32)) hx hb dX8_init_682 (by decide) ?_
  obtain ⟨S_122, eS_122, h⟩ := ltm_s h
  refine y_iast E X rfl (by decide) dX8_init_684 (fun H locs X => ?_)
  rw [← eS_122] at X
  refine lv_dup hx hb dX8_init_685 rfl ?_
  refine lv_bipush (v := (48 : Int32)) hx hb dX8_init_686 (by decide) ?_
  refine lv_bipush (v := (97 : Int32)) hx hb dX8_init_688 (by decide) ?_
  obtain ⟨S_123, eS_123, h⟩ := ltm_s h
  refine y_iast E X rfl (by decide) dX8_init_690 (fun H locs X => ?_)
  rw [← eS_123] at X
  refine lv_dup hx hb dX8_init_691 rfl ?_
  refine lv_bipush (v := (49 : Int32)) hx hb dX8_init_692 (by decide) ?_
  refine lv_bipush (v := (100 : Int32)) hx hb dX8_init_694 (by decide) ?_
  obtain ⟨S_124, eS_124, h⟩ := ltm_s h
  refine y_iast E X rfl (by decide) dX8_init_696 (fun H locs X => ?_)
  rw [← eS_124] at X
  refine lv_dup hx hb dX8_init_697 rfl ?_
  refine lv_bipush (v := (50 : Int32)) hx hb dX8_init_698 (by decide) ?_
  refine lv_bipush (v := (101 : Int32)) hx hb dX8_init_700 (by decide) ?_
  obtain ⟨S_125, eS_125, h⟩ := ltm_s h
  refine y_iast E X rfl (by decide) dX8_init_702 (fun H locs X => ?_)
  rw [← eS_125] at X
  refine lv_dup hx hb dX8_init_703 rfl ?_
  refine lv_bipush (v := (51 : Int32)) hx hb dX8_init_704 (by decide) ?_
  refine lv_bipush (v := (100 : Int32)) hx hb dX8_init_706 (by decide) ?_
  obtain ⟨S_126, eS_126, h⟩ := ltm_s h
  refine y_iast E X rfl (by decide) dX8_init_708 (fun H locs X => ?_)
  rw [← eS_126] at X
  refine lv_dup hx hb dX8_init_709 rfl ?_
  refine lv_bipush (v := (52 : Int32)) hx hb dX8_init_710 (by decide) ?_
  refine lv_bipush (v := (32 : Int32)) hx hb dX8_init_712 (by decide) ?_
  obtain ⟨S_127, eS_127, h⟩ := ltm_s h
  refine y_iast E X rfl (by decide) dX8_init_714 (fun H locs X => ?_)
  rw [← eS_127] at X
  refine lv_dup hx hb dX8_init_715 rfl ?_
  refine lv_bipush (v := (53 : Int32)) hx hb dX8_init_716 (by decide) ?_
  refine lv_bipush (v := (119 : Int32)) hx hb dX8_init_718 (by decide) ?_
  obtain ⟨S_128, eS_128, h⟩ := ltm_s h
  refine y_iast E X rfl (by decide) dX8_init_720 (fun H locs X => ?_)
  rw [← eS_128] at X
  refine lv_dup hx hb dX8_init_721 rfl ?_
  refine lv_bipush (v := (54 : Int32)) hx hb dX8_init_722 (by decide) ?_
  refine lv_bipush (v := (97 : Int32)) hx hb dX8_init_724 (by decide) ?_
  obtain ⟨S_129, eS_129, h⟩ := ltm_s h
  refine y_iast E X rfl (by decide) dX8_init_726 (fun H locs X => ?_)
  rw [← eS_129] at X
  refine lv_dup hx hb dX8_init_727 rfl ?_
  refine lv_bipush (v := (55 : Int32)) hx hb dX8_init_728 (by decide) ?_
  refine lv_bipush (v := (116 : Int32)) hx hb dX8_init_730 (by decide) ?_
  obtain ⟨S_130, eS_130, h⟩ := ltm_s h
  refine y_iast E X rfl (by decide) dX8_init_732 (fun H locs X => ?_)
  rw [← eS_130] at X
  refine lv_dup hx hb dX8_init_733 rfl ?_
  refine lv_bipush (v := (56 : Int32)) hx hb dX8_init_734 (by decide) ?_
  refine lv_bipush (v := (101 : Int32)) hx hb dX8_init_736 (by decide) ?_
  obtain ⟨S_131, eS_131, h⟩ := ltm_s h
  refine y_iast E X rfl (by decide) dX8_init_738 (fun H locs X => ?_)
  rw [← eS_131] at X
  refine lv_dup hx hb dX8_init_739 rfl ?_
  refine lv_bipush (v := (57 : Int32)) hx hb dX8_init_740 (by decide) ?_
  refine lv_bipush (v := (114 : Int32)) hx hb dX8_init_742 (by decide) ?_
  obtain ⟨S_132, eS_132, h⟩ := ltm_s h
  refine y_iast E X rfl (by decide) dX8_init_744 (fun H locs X => ?_)
  rw [← eS_132] at X
  refine lv_dup hx hb dX8_init_745 rfl ?_
  refine lv_bipush (v := (58 : Int32)) hx hb dX8_init_746 (by decide) ?_
  refine lv_bipush (v := (32 : Int32)) hx hb dX8_init_748 (by decide) ?_
  obtain ⟨S_133, eS_133, h⟩ := ltm_s h
  refine y_iast E X rfl (by decide) dX8_init_750 (fun H locs X => ?_)
  rw [← eS_133] at X
  refine lv_dup hx hb dX8_init_751 rfl ?_
  refine lv_bipush (v := (59 : Int32)) hx hb dX8_init_752 (by decide) ?_
  refine lv_bipush (v := (116 : Int32)) hx hb dX8_init_754 (by decide) ?_
  obtain ⟨S_134, eS_134, h⟩ := ltm_s h
  refine y_iast E X rfl (by decide) dX8_init_756 (fun H locs X => ?_)
  rw [← eS_134] at X
  refine lv_dup hx hb dX8_init_757 rfl ?_
  refine lv_bipush (v := (60 : Int32)) hx hb dX8_init_758 (by decide) ?_
  refine lv_bipush (v := (97 : Int32)) hx hb dX8_init_760 (by decide) ?_
  obtain ⟨S_135, eS_135, h⟩ := ltm_s h
  refine y_iast E X rfl (by decide) dX8_init_762 (fun H locs X => ?_)
  rw [← eS_135] at X
  refine lv_dup hx hb dX8_init_763 rfl ?_
  refine lv_bipush (v := (61 : Int32)) hx hb dX8_init_764 (by decide) ?_
  refine lv_bipush (v := (108 : Int32)) hx hb dX8_init_766 (by decide) ?_
  obtain ⟨S_136, eS_136, h⟩ := ltm_s h
  refine y_iast E X rfl (by decide) dX8_init_768 (fun H locs X => ?_)
  rw [← eS_136] at X
  refine lv_dup hx hb dX8_init_769 rfl ?_
  refine lv_bipush (v := (62 : Int32)) hx hb dX8_init_770 (by decide) ?_
  refine lv_bipush (v := (108 : Int32)) hx hb dX8_init_772 (by decide) ?_
  obtain ⟨S_137, eS_137, h⟩ := ltm_s h
  refine y_iast E X rfl (by decide) dX8_init_774 (fun H locs X => ?_)
  rw [← eS_137] at X
  refine lv_dup hx hb dX8_init_775 rfl ?_
  refine lv_bipush (v := (63 : Int32)) hx hb dX8_init_776 (by decide) ?_
  refine lv_bipush (v := (32 : Int32)) hx hb dX8_init_778 (by decide) ?_
  obtain ⟨S_138, eS_138, h⟩ := ltm_s h
  refine y_iast E X rfl (by decide) dX8_init_780 (fun H locs X => ?_)
  rw [← eS_138] at X
  refine lv_dup hx hb dX8_init_781 rfl ?_
  refine lv_bipush (v := (64 : Int32)) hx hb dX8_init_782 (by decide) ?_
  refine lv_bipush (v := (115 : Int32)) hx hb dX8_init_784 (by decide) ?_
  obtain ⟨S_139, eS_139, h⟩ := ltm_s h
  refine y_iast E X rfl (by decide) dX8_init_786 (fun H locs X => ?_)
  rw [← eS_139] at X
  refine lv_dup hx hb dX8_init_787 rfl ?_
  refine lv_bipush (v := (65 : Int32)) hx hb dX8_init_788 (by decide) ?_
  refine lv_bipush (v := (107 : Int32)) hx hb dX8_init_790 (by decide) ?_
  obtain ⟨S_140, eS_140, h⟩ := ltm_s h
  refine y_iast E X rfl (by decide) dX8_init_792 (fun H locs X => ?_)
  rw [← eS_140] at X
  refine lv_dup hx hb dX8_init_793 rfl ?_
  refine lv_bipush (v := (66 : Int32)) hx hb dX8_init_794 (by decide) ?_
  refine lv_bipush (v := (105 : Int32)) hx hb dX8_init_796 (by decide) ?_
  obtain ⟨S_141, eS_141, h⟩ := ltm_s h
  refine y_iast E X rfl (by decide) dX8_init_798 (fun H locs X => ?_)
  rw [← eS_141] at X
  refine lv_dup hx hb dX8_init_799 rfl ?_
  refine lv_bipush (v := (67 : Int32)) hx hb dX8_init_800 (by decide) ?_
  refine lv_bipush (v := (110 : Int32)) hx hb dX8_init_802 (by decide) ?_
  obtain ⟨S_142, eS_142, h⟩ := ltm_s h
  refine y_iast E X rfl (by decide) dX8_init_804 (fun H locs X => ?_)
  rw [← eS_142] at X
  refine lv_dup hx hb dX8_init_805 rfl ?_
  refine lv_bipush (v := (68 : Int32)) hx hb dX8_init_806 (by decide) ?_
  refine lv_bipush (v := (32 : Int32)) hx hb dX8_init_808 (by decide) ?_
  obtain ⟨S_143, eS_143, h⟩ := ltm_s h
  refine y_iast E X rfl (by decide) dX8_init_810 (fun H locs X => ?_)
  rw [← eS_143] at X
  refine lv_dup hx hb dX8_init_811 rfl ?_
  refine lv_bipush (v := (69 : Int32)) hx hb dX8_init_812 (by decide) ?_
  refine lv_bipush (v := (104 : Int32)) hx hb dX8_init_814 (by decide) ?_
  obtain ⟨S_144, eS_144, h⟩ := ltm_s h
  refine y_iast E X rfl (by decide) dX8_init_816 (fun H locs X => ?_)
  rw [← eS_144] at X
  refine lv_dup hx hb dX8_init_817 rfl ?_
  refine lv_bipush (v := (70 : Int32)) hx hb dX8_init_818 (by decide) ?_
  refine lv_bipush (v := (111 : Int32)) hx hb dX8_init_820 (by decide) ?_
  obtain ⟨S_145, eS_145, h⟩ := ltm_s h
  refine y_iast E X rfl (by decide) dX8_init_822 (fun H locs X => ?_)
  rw [← eS_145] at X
  refine lv_dup hx hb dX8_init_823 rfl ?_
  refine lv_bipush (v := (71 : Int32)) hx hb dX8_init_824 (by decide) ?_
  refine lv_bipush (v := (117 : Int32)) hx hb dX8_init_826 (by decide) ?_
  obtain ⟨S_146, eS_146, h⟩ := ltm_s h
  refine y_iast E X rfl (by decide) dX8_init_828 (fun H locs X => ?_)
  rw [← eS_146] at X
  refine lv_dup hx hb dX8_init_829 rfl ?_
  refine lv_bipush (v := (72 : Int32)) hx hb dX8_init_830 (by decide) ?_
  refine lv_bipush (v := (114 : Int32)) hx hb dX8_init_832 (by decide) ?_
  obtain ⟨S_147, eS_147, h⟩ := ltm_s h
  refine y_iast E X rfl (by decide) dX8_init_834 (fun H locs X => ?_)
  rw [← eS_147] at X
  refine lv_dup hx hb dX8_init_835 rfl ?_
  refine lv_bipush (v := (73 : Int32)) hx hb dX8_init_836 (by decide) ?_
  refine lv_bipush (v := (32 : Int32)) hx hb dX8_init_838 (by decide) ?_
  obtain ⟨S_148, eS_148, h⟩ := ltm_s h
  refine y_iast E X rfl (by decide) dX8_init_840 (fun H locs X => ?_)
  rw [← eS_148] at X
  refine lv_dup hx hb dX8_init_841 rfl ?_
  refine lv_bipush (v := (74 : Int32)) hx hb dX8_init_842 (by decide) ?_
  refine lv_bipush (v := (112 : Int32)) hx hb dX8_init_844 (by decide) ?_
  obtain ⟨S_149, eS_149, h⟩ := ltm_s h
  refine y_iast E X rfl (by decide) dX8_init_846 (fun H locs X => ?_)
  rw [← eS_149] at X
  refine lv_dup hx hb dX8_init_847 rfl ?_
  refine lv_bipush (v := (75 : Int32)) hx hb dX8_init_848 (by decide) ?_
  refine lv_bipush (v := (108 : Int32)) hx hb dX8_init_850 (by decide) ?_
  obtain ⟨S_150, eS_150, h⟩ := ltm_s h
  refine y_iast E X rfl (by decide) dX8_init_852 (fun H locs X => ?_)
  rw [← eS_150] at X
  refine lv_dup hx hb dX8_init_853 rfl ?_
  refine lv_bipush (v := (76 : Int32)) hx hb dX8_init_854 (by decide) ?_
  refine lv_bipush (v := (97 : Int32)) hx hb dX8_init_856 (by decide) ?_
  obtain ⟨S_151, eS_151, h⟩ := ltm_s h
  refine y_iast E X rfl (by decide) dX8_init_858 (fun H locs X => ?_)
  rw [← eS_151] at X
  refine lv_dup hx hb dX8_init_859 rfl ?_
  refine lv_bipush (v := (77 : Int32)) hx hb dX8_init_860 (by decide) ?_
  refine lv_bipush (v := (99 : Int32)) hx hb dX8_init_862 (by decide) ?_
  obtain ⟨S_152, eS_152, h⟩ := ltm_s h
  refine y_iast E X rfl (by decide) dX8_init_864 (fun H locs X => ?_)
  rw [← eS_152] at X
  refine lv_dup hx hb dX8_init_865 rfl ?_
  refine lv_bipush (v := (78 : Int32)) hx hb dX8_init_866 (by decide) ?_
  refine lv_bipush (v := (101 : Int32)) hx hb dX8_init_868 (by decide) ?_
  obtain ⟨S_153, eS_153, h⟩ := ltm_s h
  refine y_iast E X rfl (by decide) dX8_init_870 (fun H locs X => ?_)
  rw [← eS_153] at X
  refine lv_dup hx hb dX8_init_871 rfl ?_
  refine lv_bipush (v := (79 : Int32)) hx hb dX8_init_872 (by decide) ?_
  refine lv_bipush (v := (32 : Int32)) hx hb dX8_init_874 (by decide) ?_
  obtain ⟨S_154, eS_154, h⟩ := ltm_s h
  refine y_iast E X rfl (by decide) dX8_init_876 (fun H locs X => ?_)
  rw [← eS_154] at X
  refine lv_dup hx hb dX8_init_877 rfl ?_
  refine lv_bipush (v := (80 : Int32)) hx hb dX8_init_878 (by decide) ?_
  refine lv_bipush (v := (98 : Int32)) hx hb dX8_init_880 (by decide) ?_
  obtain ⟨S_155, eS_155, h⟩ := ltm_s h
  refine y_iast E X rfl (by decide) dX8_init_882 (fun H locs X => ?_)
  rw [← eS_155] at X
  refine lv_dup hx hb dX8_init_883 rfl ?_
  refine lv_bipush (v := (81 : Int32)) hx hb dX8_init_884 (by decide) ?_
  refine lv_bipush (v := (101 : Int32)) hx hb dX8_init_886 (by decide) ?_
  obtain ⟨S_156, eS_156, h⟩ := ltm_s h
  refine y_iast E X rfl (by decide) dX8_init_888 (fun H locs X => ?_)
  rw [← eS_156] at X
  refine lv_dup hx hb dX8_init_889 rfl ?_
  refine lv_bipush (v := (82 : Int32)) hx hb dX8_init_890 (by decide) ?_
  refine lv_bipush (v := (97 : Int32)) hx hb dX8_init_892 (by decide) ?_
  obtain ⟨S_157, eS_157, h⟩ := ltm_s h
  refine y_iast E X rfl (by decide) dX8_init_894 (fun H locs X => ?_)
  rw [← eS_157] at X
  refine lv_dup hx hb dX8_init_895 rfl ?_
  refine lv_bipush (v := (83 : Int32)) hx hb dX8_init_896 (by decide) ?_
  refine lv_bipush (v := (114 : Int32)) hx hb dX8_init_898 (by decide) ?_
  obtain ⟨S_158, eS_158, h⟩ := ltm_s h
  refine y_iast E X rfl (by decide) dX8_init_900 (fun H locs X => ?_)
  rw [← eS_158] at X
  refine lv_dup hx hb dX8_init_901 rfl ?_
  refine lv_bipush (v := (84 : Int32)) hx hb dX8_init_902 (by decide) ?_
  refine lv_bipush (v := (115 : Int32)) hx hb dX8_init_904 (by decide) ?_
  obtain ⟨S_159, eS_159, h⟩ := ltm_s h
  refine y_iast E X rfl (by decide) dX8_init_906 (fun H locs X => ?_)
  rw [← eS_159] at X
  refine lv_dup hx hb dX8_init_907 rfl ?_
  refine lv_bipush (v := (85 : Int32)) hx hb dX8_init_908 (by decide) ?_
  refine lv_bipush (v := (32 : Int32)) hx hb dX8_init_910 (by decide) ?_
  obtain ⟨S_160, eS_160, h⟩ := ltm_s h
  refine y_iast E X rfl (by decide) dX8_init_912 (fun H locs X => ?_)
  rw [← eS_160] at X
  refine lv_dup hx hb dX8_init_913 rfl ?_
  refine lv_bipush (v := (86 : Int32)) hx hb dX8_init_914 (by decide) ?_
  refine lv_bipush (v := (112 : Int32)) hx hb dX8_init_916 (by decide) ?_
  obtain ⟨S_161, eS_161, h⟩ := ltm_s h
  refine y_iast E X rfl (by decide) dX8_init_918 (fun H locs X => ?_)
  rw [← eS_161] at X
  refine lv_dup hx hb dX8_init_919 rfl ?_
  refine lv_bipush (v := (87 : Int32)) hx hb dX8_init_920 (by decide) ?_
  refine lv_bipush (v := (105 : Int32)) hx hb dX8_init_922 (by decide) ?_
  obtain ⟨S_162, eS_162, h⟩ := ltm_s h
  refine y_iast E X rfl (by decide) dX8_init_924 (fun H locs X => ?_)
  rw [← eS_162] at X
  refine lv_dup hx hb dX8_init_925 rfl ?_
  refine lv_bipush (v := (88 : Int32)) hx hb dX8_init_926 (by decide) ?_
  refine lv_bipush (v := (108 : Int32)) hx hb dX8_init_928 (by decide) ?_
  obtain ⟨S_163, eS_163, h⟩ := ltm_s h
  refine y_iast E X rfl (by decide) dX8_init_930 (fun H locs X => ?_)
  rw [← eS_163] at X
  refine lv_dup hx hb dX8_init_931 rfl ?_
  refine lv_bipush (v := (89 : Int32)) hx hb dX8_init_932 (by decide) ?_
  refine lv_bipush (v := (103 : Int32)) hx hb dX8_init_934 (by decide) ?_
  obtain ⟨S_164, eS_164, h⟩ := ltm_s h
  refine y_iast E X rfl (by decide) dX8_init_936 (fun H locs X => ?_)
  rw [← eS_164] at X
  refine lv_dup hx hb dX8_init_937 rfl ?_
  refine lv_bipush (v := (90 : Int32)) hx hb dX8_init_938 (by decide) ?_
  refine lv_bipush (v := (114 : Int32)) hx hb dX8_init_940 (by decide) ?_
  obtain ⟨S_165, eS_165, h⟩ := ltm_s h
  refine y_iast E X rfl (by decide) dX8_init_942 (fun H locs X => ?_)
  rw [← eS_165] at X
  refine lv_dup hx hb dX8_init_943 rfl ?_
  refine lv_bipush (v := (91 : Int32)) hx hb dX8_init_944 (by decide) ?_
  refine lv_bipush (v := (105 : Int32)) hx hb dX8_init_946 (by decide) ?_
  obtain ⟨S_166, eS_166, h⟩ := ltm_s h
  refine y_iast E X rfl (by decide) dX8_init_948 (fun H locs X => ?_)
  rw [← eS_166] at X
  refine lv_dup hx hb dX8_init_949 rfl ?_
  refine lv_bipush (v := (92 : Int32)) hx hb dX8_init_950 (by decide) ?_
  refine lv_bipush (v := (109 : Int32)) hx hb dX8_init_952 (by decide) ?_
  obtain ⟨S_167, eS_167, h⟩ := ltm_s h
  refine y_iast E X rfl (by decide) dX8_init_954 (fun H locs X => ?_)
  rw [← eS_167] at X
  refine lv_dup hx hb dX8_init_955 rfl ?_
  refine lv_bipush (v := (93 : Int32)) hx hb dX8_init_956 (by decide) ?_
  refine lv_bipush (v := (32 : Int32)) hx hb dX8_init_958 (by decide) ?_
  obtain ⟨S_168, eS_168, h⟩ := ltm_s h
  refine y_iast E X rfl (by decide) dX8_init_960 (fun H locs X => ?_)
  rw [← eS_168] at X
  refine y_putr E hin X frX8_43 rfl rfl (by decide) (L' := yl_117) rfl dX8_init_961 (fun H locs X => ?_)
  refine lv_aload_n hx hb dX8_init_964 rfl (lv_at hl 0 rfl) ?_
  refine lv_bipush (v := (32 : Int32)) hx hb dX8_init_965 (by decide) ?_
  obtain ⟨S_169, eS_169, h⟩ := ltm_s h
  refine y_newI E X (L' := yl_118) (k := 13) ac_I rfl rfl rfl rfl (by decide) (by decide) rfl dX8_init_967 (fun H X => ?_)
  rw [← eS_169] at X
  refine y_putr E hin X frX8_46 rfl rfl (by decide) (L' := yl_119) rfl dX8_init_969 (fun H locs X => ?_)
  refine lv_aload_n hx hb dX8_init_972 rfl (lv_at hl 0 rfl) ?_
  refine lv_bipush (v := (32 : Int32)) hx hb dX8_init_973 (by decide) ?_
  obtain ⟨S_170, eS_170, h⟩ := ltm_s h
  refine y_newI E X (L' := yl_120) (k := 14) ac_I rfl rfl rfl rfl (by decide) (by decide) rfl dX8_init_975 (fun H X => ?_)
  rw [← eS_170] at X
  refine y_putr E hin X frX8_49 rfl rfl (by decide) (L' := yl_121) rfl dX8_init_977 (fun H locs X => ?_)
  refine lv_aload_n hx hb dX8_init_980 rfl (lv_at hl 0 rfl) ?_
  refine lv_bipush (v := (32 : Int32)) hx hb dX8_init_981 (by decide) ?_
  obtain ⟨S_171, eS_171, h⟩ := ltm_s h
  refine y_newI E X (L' := yl_122) (k := 15) ac_I rfl rfl rfl rfl (by decide) (by decide) rfl dX8_init_983 (fun H X => ?_)
  rw [← eS_171] at X
  refine y_putr E hin X frX8_52 rfl rfl (by decide) (L' := yl_123) rfl dX8_init_985 (fun H locs X => ?_)
  refine lv_aload_n hx hb dX8_init_988 rfl (lv_at hl 0 rfl) ?_
  refine lv_sipush (v := (800 : Int32)) hx hb dX8_init_989 (by decide) ?_
  obtain ⟨S_172, eS_172, h⟩ := ltm_s h
  refine y_newI E X (L' := yl_124) (k := 16) ac_I rfl rfl rfl rfl (by decide) (by decide) rfl dX8_init_992 (fun H X => ?_)
  rw [← eS_172] at X
  refine y_putr E hin X frX8_55 rfl rfl (by decide) (L' := yl_125) rfl dX8_init_994 (fun H locs X => ?_)
  refine lv_aload_n hx hb dX8_init_997 rfl (lv_at hl 0 rfl) ?_
  refine lv_sipush (v := (800 : Int32)) hx hb dX8_init_998 (by decide) ?_
  obtain ⟨S_173, eS_173, h⟩ := ltm_s h
  refine y_newI E X (L' := yl_126) (k := 17) ac_I rfl rfl rfl rfl (by decide) (by decide) rfl dX8_init_1001 (fun H X => ?_)
  rw [← eS_173] at X
  refine y_putr E hin X frX8_58 rfl rfl (by decide) (L' := yl_127) rfl dX8_init_1003 (fun H locs X => ?_)
  refine lv_aload_n hx hb dX8_init_1006 rfl (lv_at hl 0 rfl) ?_
  refine lv_bipush (v := (40 : Int32)) hx hb dX8_init_1007 (by decide) ?_
  obtain ⟨S_174, eS_174, h⟩ := ltm_s h
  refine y_newI E X (L' := yl_128) (k := 18) ac_I rfl rfl rfl rfl (by decide) (by decide) rfl dX8_init_1009 (fun H X => ?_)
  rw [← eS_174] at X
  refine y_putr E hin X frX8_61 rfl rfl (by decide) (L' := yl_129) rfl dX8_init_1011 (fun H locs X => ?_)
  refine lv_aload_n hx hb dX8_init_1014 rfl (lv_at hl 0 rfl) ?_
  refine lv_iconst (v := (-1 : Int32)) hx hb dX8_init_1015 (by decide) ?_
  obtain ⟨S_175, eS_175, h⟩ := ltm_s h
  refine y_put E X fpX8_64 rfl rfl dX8_init_1016 (fun H locs X => ?_)
  rw [← eS_175] at X
  refine lv_aload_n hx hb dX8_init_1019 rfl (lv_at hl 0 rfl) ?_
  refine lv_bipush (v := (10 : Int32)) hx hb dX8_init_1020 (by decide) ?_
  obtain ⟨S_176, eS_176, h⟩ := ltm_s h
  refine y_newI E X (L' := yl_130) (k := 19) ac_I rfl rfl rfl rfl (by decide) (by decide) rfl dX8_init_1022 (fun H X => ?_)
  rw [← eS_176] at X
  refine y_putr E hin X frX8_68 rfl rfl (by decide) (L' := yl_131) rfl dX8_init_1024 (fun H locs X => ?_)
  refine lv_aload_n hx hb dX8_init_1027 rfl (lv_at hl 0 rfl) ?_
  refine lv_sipush (v := (420 : Int32)) hx hb dX8_init_1028 (by decide) ?_
  obtain ⟨S_177, eS_177, h⟩ := ltm_s h
  refine y_newI E X (L' := yl_132) (k := 20) ac_I rfl rfl rfl rfl (by decide) (by decide) rfl dX8_init_1031 (fun H X => ?_)
  rw [← eS_177] at X
  refine y_putr E hin X frX8_71 rfl rfl (by decide) (L' := yl_133) rfl dX8_init_1033 (fun H locs X => ?_)
  refine lv_aload_n hx hb dX8_init_1036 rfl (lv_at hl 0 rfl) ?_
  refine lv_bipush (v := (25 : Int32)) hx hb dX8_init_1037 (by decide) ?_
  obtain ⟨S_178, eS_178, h⟩ := ltm_s h
  refine y_newI E X (L' := yl_134) (k := 21) ac_I rfl rfl rfl rfl (by decide) (by decide) rfl dX8_init_1039 (fun H X => ?_)
  rw [← eS_178] at X
  refine y_putr E hin X frX8_74 rfl rfl (by decide) (L' := yl_135) rfl dX8_init_1041 (fun H locs X => ?_)
  refine lv_aload_n hx hb dX8_init_1044 rfl (lv_at hl 0 rfl) ?_
  refine lv_bipush (v := (25 : Int32)) hx hb dX8_init_1045 (by decide) ?_
  obtain ⟨S_179, eS_179, h⟩ := ltm_s h
  refine y_newI E X (L' := yl_136) (k := 22) ac_I rfl rfl rfl rfl (by decide) (by decide) rfl dX8_init_1047 (fun H X => ?_)
  rw [← eS_179] at X
  refine y_putr E hin X frX8_77 rfl rfl (by decide) (L' := yl_137) rfl dX8_init_1049 (fun H locs X => ?_)
  refine lv_aload_n hx hb dX8_init_1052 rfl (lv_at hl 0 rfl) ?_
  refine lv_bipush (v := (10 : Int32)) hx hb dX8_init_1053 (by decide) ?_
  obtain ⟨S_180, eS_180, h⟩ := ltm_s h
  refine y_newI E X (L' := yl_138) (k := 23) ac_I rfl rfl rfl rfl (by decide) (by decide) rfl dX8_init_1055 (fun H X => ?_)
  rw [← eS_180] at X
  refine y_putr E hin X frX8_80 rfl rfl (by decide) (L' := yl_139) rfl dX8_init_1057 (fun H locs X => ?_)
  refine lv_aload_n hx hb dX8_init_1060 rfl (lv_at hl 0 rfl) ?_
  refine lv_sipush (v := (2197 : Int32)) hx hb dX8_init_1061 (by decide) ?_
  obtain ⟨S_181, eS_181, h⟩ := ltm_s h
  refine y_newI E X (L' := yl_140) (k := 24) ac_I rfl rfl rfl rfl (by decide) (by decide) rfl dX8_init_1064 (fun H X => ?_)
  rw [← eS_181] at X
  refine y_putr E hin X frX8_83 rfl rfl (by decide) (L' := yl_141) rfl dX8_init_1066 (fun H locs X => ?_)
  refine lv_aload_n hx hb dX8_init_1069 rfl (lv_at hl 0 rfl) ?_
  refine lv_bipush (v := (10 : Int32)) hx hb dX8_init_1070 (by decide) ?_
  obtain ⟨S_182, eS_182, h⟩ := ltm_s h
  refine y_newI E X (L' := yl_142) (k := 25) ac_I rfl rfl rfl rfl (by decide) (by decide) rfl dX8_init_1072 (fun H X => ?_)
  rw [← eS_182] at X
  refine y_putr E hin X frX8_86 rfl rfl (by decide) (L' := yl_143) rfl dX8_init_1074 (fun H locs X => ?_)
  refine lv_aload_n hx hb dX8_init_1077 rfl (lv_at hl 0 rfl) ?_
  refine lv_sipush (v := (1900 : Int32)) hx hb dX8_init_1078 (by decide) ?_
  obtain ⟨S_183, eS_183, h⟩ := ltm_s h
  refine y_newI E X (L' := yl_144) (k := 26) ac_I rfl rfl rfl rfl (by decide) (by decide) rfl dX8_init_1081 (fun H X => ?_)
  rw [← eS_183] at X
  refine y_putr E hin X frX8_89 rfl rfl (by decide) (L' := yl_145) rfl dX8_init_1083 (fun H locs X => ?_)
  exact y_vret E X h dX8_init_1086
/-- SevenToAShadowModel.<init>()V -/
theorem mX8_init_0 (l : Launch) (B : Nat) (Z : XG) (hB : ∀ k, Z.2.1 k = B + k) {S S' : Mem} {r : Int32} (h : fX8_init_0 S = some (r, S')) : XMc l yX8_init cX8_init 1 { frames := 1, cells := 26, slots := 8454, locals := 12 } B yl_93 yl_145 Z [.ref (Z.2.1 0)] S S' 26 8454 := by
  refine XMc.of (own := RX8) (by decide +kernel) rfl rfl rfl hB (fun p e s m args below meth c E hin ls hl X => ?_)
  exact wX8_init_0 E hin S h _ _ _ X hl
