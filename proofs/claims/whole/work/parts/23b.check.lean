set_option maxRecDepth 50000 in
theorem gw_76 : Cond.code gm_76.1 gm_76.2.1 gm_76.2.2.1 gm_76.2.2.2.1 ∈ g_tw := g_cw (g_t6 (k := 50) rfl)
theorem gc_76 : g_ckP 76 gm_76 := g_ck_of gw_76 (by decide +kernel)
set_option maxRecDepth 50000 in
theorem gw_77 : Cond.code gm_77.1 gm_77.2.1 gm_77.2.2.1 gm_77.2.2.2.1 ∈ g_tw := g_cw (g_t1 (k := 172) rfl)
theorem gc_77 : g_ckP 77 gm_77 := g_ck_of gw_77 (by decide +kernel)
set_option maxRecDepth 50000 in
theorem gw_78 : Cond.code gm_78.1 gm_78.2.1 gm_78.2.2.1 gm_78.2.2.2.1 ∈ g_tw := g_cw (g_t4 (k := 127) rfl)
theorem gc_78 : g_ckP 78 gm_78 := g_ck_of gw_78 (by decide +kernel)
set_option maxRecDepth 50000 in
theorem gw_79 : Cond.code gm_79.1 gm_79.2.1 gm_79.2.2.1 gm_79.2.2.2.1 ∈ g_tw := g_cw (g_t5 (k := 111) rfl)
theorem gc_79 : g_ckP 79 gm_79 := g_ck_of gw_79 (by decide +kernel)
set_option maxRecDepth 50000 in
theorem gw_80 : Cond.code gm_80.1 gm_80.2.1 gm_80.2.2.1 gm_80.2.2.2.1 ∈ g_tw := g_cw (g_t3 (k := 27) rfl)
theorem gc_80 : g_ckP 80 gm_80 := g_ck_of gw_80 (by decide +kernel)
set_option maxRecDepth 50000 in
theorem gw_81 : Cond.code gm_81.1 gm_81.2.1 gm_81.2.2.1 gm_81.2.2.2.1 ∈ g_tw := g_cw (g_t3 (k := 181) rfl)
theorem gc_81 : g_ckP 81 gm_81 := g_ck_of gw_81 (by decide +kernel)
set_option maxRecDepth 50000 in
theorem gw_82 : Cond.code gm_82.1 gm_82.2.1 gm_82.2.2.1 gm_82.2.2.2.1 ∈ g_tw := g_cw (g_t4 (k := 186) rfl)
theorem gc_82 : g_ckP 82 gm_82 := g_ck_of gw_82 (by decide +kernel)
set_option maxRecDepth 50000 in
theorem gw_83 : Cond.code gm_83.1 gm_83.2.1 gm_83.2.2.1 gm_83.2.2.2.1 ∈ g_tw := g_cw (g_t4 (k := 178) rfl)
theorem gc_83 : g_ckP 83 gm_83 := g_ck_of gw_83 (by decide +kernel)
set_option maxRecDepth 50000 in
theorem gw_84 : Cond.code gm_84.1 gm_84.2.1 gm_84.2.2.1 gm_84.2.2.2.1 ∈ g_tw := g_cw (g_t4 (k := 205) rfl)
theorem gc_84 : g_ckP 84 gm_84 := g_ck_of gw_84 (by decide +kernel)
set_option maxRecDepth 50000 in
theorem gw_85 : Cond.code gm_85.1 gm_85.2.1 gm_85.2.2.1 gm_85.2.2.2.1 ∈ g_tw := g_cw (g_t6 (k := 36) rfl)
theorem gc_85 : g_ckP 85 gm_85 := g_ck_of gw_85 (by decide +kernel)
set_option maxRecDepth 50000 in
theorem gw_86 : Cond.code gm_86.1 gm_86.2.1 gm_86.2.2.1 gm_86.2.2.2.1 ∈ g_tw := g_cw (g_t1 (k := 123) rfl)
theorem gc_86 : g_ckP 86 gm_86 := g_ck_of gw_86 (by decide +kernel)
set_option maxRecDepth 50000 in
theorem gw_87 : Cond.code gm_87.1 gm_87.2.1 gm_87.2.2.1 gm_87.2.2.2.1 ∈ g_tw := g_cw (g_t1 (k := 128) rfl)
theorem gc_87 : g_ckP 87 gm_87 := g_ck_of gw_87 (by decide +kernel)
set_option maxRecDepth 50000 in
theorem gw_88 : Cond.code gm_88.1 gm_88.2.1 gm_88.2.2.1 gm_88.2.2.2.1 ∈ g_tw := g_cw (g_t4 (k := 194) rfl)
theorem gc_88 : g_ckP 88 gm_88 := g_ck_of gw_88 (by decide +kernel)
set_option maxRecDepth 50000 in
theorem gw_89 : Cond.code gm_89.1 gm_89.2.1 gm_89.2.2.1 gm_89.2.2.2.1 ∈ g_tw := g_cw (g_t4 (k := 197) rfl)
theorem gc_89 : g_ckP 89 gm_89 := g_ck_of gw_89 (by decide +kernel)
set_option maxRecDepth 50000 in
theorem gw_90 : Cond.code gm_90.1 gm_90.2.1 gm_90.2.2.1 gm_90.2.2.2.1 ∈ g_tw := g_cw (g_t4 (k := 162) rfl)
theorem gc_90 : g_ckP 90 gm_90 := g_ck_of gw_90 (by decide +kernel)
set_option maxRecDepth 50000 in
theorem gw_91 : Cond.code gm_91.1 gm_91.2.1 gm_91.2.2.1 gm_91.2.2.2.1 ∈ g_tw := g_cw (g_t5 (k := 103) rfl)
theorem gc_91 : g_ckP 91 gm_91 := g_ck_of gw_91 (by decide +kernel)
set_option maxRecDepth 50000 in
theorem gw_92 : Cond.code gm_92.1 gm_92.2.1 gm_92.2.2.1 gm_92.2.2.2.1 ∈ g_tw := g_cw (g_t6 (k := 76) rfl)
theorem gc_92 : g_ckP 92 gm_92 := g_ck_of gw_92 (by decide +kernel)
set_option maxRecDepth 50000 in
theorem gw_93 : Cond.code gm_93.1 gm_93.2.1 gm_93.2.2.1 gm_93.2.2.2.1 ∈ g_tw := g_cw (g_t6 (k := 88) rfl)
theorem gc_93 : g_ckP 93 gm_93 := g_ck_of gw_93 (by decide +kernel)
set_option maxRecDepth 50000 in
theorem gw_94 : Cond.code gm_94.1 gm_94.2.1 gm_94.2.2.1 gm_94.2.2.2.1 ∈ g_tw := g_cw (g_t1 (k := 39) rfl)
theorem gc_94 : g_ckP 94 gm_94 := g_ck_of gw_94 (by decide +kernel)
set_option maxRecDepth 50000 in
theorem gw_95 : Cond.code gm_95.1 gm_95.2.1 gm_95.2.2.1 gm_95.2.2.2.1 ∈ g_tw := g_cw (g_t3 (k := 19) rfl)
theorem gc_95 : g_ckP 95 gm_95 := g_ck_of gw_95 (by decide +kernel)
set_option maxRecDepth 50000 in
theorem gw_96 : Cond.code gm_96.1 gm_96.2.1 gm_96.2.2.1 gm_96.2.2.2.1 ∈ g_tw := g_cw (g_t3 (k := 31) rfl)
theorem gc_96 : g_ckP 96 gm_96 := g_ck_of gw_96 (by decide +kernel)
set_option maxRecDepth 50000 in
theorem gw_97 : Cond.code gm_97.1 gm_97.2.1 gm_97.2.2.1 gm_97.2.2.2.1 ∈ g_tw := g_cw (g_t3 (k := 35) rfl)
theorem gc_97 : g_ckP 97 gm_97 := g_ck_of gw_97 (by decide +kernel)
set_option maxRecDepth 50000 in
theorem gw_98 : Cond.code gm_98.1 gm_98.2.1 gm_98.2.2.1 gm_98.2.2.2.1 ∈ g_tw := g_cw (g_t3 (k := 39) rfl)
theorem gc_98 : g_ckP 98 gm_98 := g_ck_of gw_98 (by decide +kernel)
set_option maxRecDepth 50000 in
theorem gw_99 : Cond.code gm_99.1 gm_99.2.1 gm_99.2.2.1 gm_99.2.2.2.1 ∈ g_tw := g_cw (g_t3 (k := 43) rfl)
theorem gc_99 : g_ckP 99 gm_99 := g_ck_of gw_99 (by decide +kernel)
set_option maxRecDepth 50000 in
theorem gw_100 : Cond.code gm_100.1 gm_100.2.1 gm_100.2.2.1 gm_100.2.2.2.1 ∈ g_tw := g_cw (g_t3 (k := 176) rfl)
theorem gc_100 : g_ckP 100 gm_100 := g_ck_of gw_100 (by decide +kernel)
set_option maxRecDepth 50000 in
theorem gw_101 : Cond.code gm_101.1 gm_101.2.1 gm_101.2.2.1 gm_101.2.2.2.1 ∈ g_tw := g_cw (g_t3 (k := 139) rfl)
theorem gc_101 : g_ckP 101 gm_101 := g_ck_of gw_101 (by decide +kernel)
set_option maxRecDepth 50000 in
theorem gw_102 : Cond.code gm_102.1 gm_102.2.1 gm_102.2.2.1 gm_102.2.2.2.1 ∈ g_tw := g_cw (g_t3 (k := 226) rfl)
theorem gc_102 : g_ckP 102 gm_102 := g_ck_of gw_102 (by decide +kernel)
set_option maxRecDepth 50000 in
theorem gw_103 : Cond.code gm_103.1 gm_103.2.1 gm_103.2.2.1 gm_103.2.2.2.1 ∈ g_tw := g_cw (g_t3 (k := 187) rfl)
theorem gc_103 : g_ckP 103 gm_103 := g_ck_of gw_103 (by decide +kernel)
set_option maxRecDepth 50000 in
theorem gw_104 : Cond.code gm_104.1 gm_104.2.1 gm_104.2.2.1 gm_104.2.2.2.1 ∈ g_tw := g_cw (g_t3 (k := 164) rfl)
theorem gc_104 : g_ckP 104 gm_104 := g_ck_of gw_104 (by decide +kernel)
set_option maxRecDepth 50000 in
theorem gw_105 : Cond.code gm_105.1 gm_105.2.1 gm_105.2.2.1 gm_105.2.2.2.1 ∈ g_tw := g_cw (g_t3 (k := 135) rfl)
theorem gc_105 : g_ckP 105 gm_105 := g_ck_of gw_105 (by decide +kernel)
set_option maxRecDepth 50000 in
theorem gw_106 : Cond.code gm_106.1 gm_106.2.1 gm_106.2.2.1 gm_106.2.2.2.1 ∈ g_tw := g_cw (g_t3 (k := 172) rfl)
theorem gc_106 : g_ckP 106 gm_106 := g_ck_of gw_106 (by decide +kernel)
set_option maxRecDepth 50000 in
theorem gw_107 : Cond.code gm_107.1 gm_107.2.1 gm_107.2.2.1 gm_107.2.2.2.1 ∈ g_tw := g_cw (g_t3 (k := 168) rfl)
theorem gc_107 : g_ckP 107 gm_107 := g_ck_of gw_107 (by decide +kernel)
set_option maxRecDepth 50000 in
theorem gw_108 : Cond.code gm_108.1 gm_108.2.1 gm_108.2.2.1 gm_108.2.2.2.1 ∈ g_tw := g_cw (g_t2 (k := 186) rfl)
theorem gc_108 : g_ckP 108 gm_108 := g_ck_of gw_108 (by decide +kernel)
set_option maxRecDepth 50000 in
theorem gw_109 : Cond.code gm_109.1 gm_109.2.1 gm_109.2.2.1 gm_109.2.2.2.1 ∈ g_tw := g_cw (g_t6 (k := 11) rfl)
theorem gc_109 : g_ckP 109 gm_109 := g_ck_of gw_109 (by decide +kernel)
set_option maxRecDepth 50000 in
theorem gw_110 : Cond.code gm_110.1 gm_110.2.1 gm_110.2.2.1 gm_110.2.2.2.1 ∈ g_tw := g_cw (g_t6 (k := 16) rfl)
theorem gc_110 : g_ckP 110 gm_110 := g_ck_of gw_110 (by decide +kernel)
set_option maxRecDepth 50000 in
theorem gw_111 : Cond.code gm_111.1 gm_111.2.1 gm_111.2.2.1 gm_111.2.2.2.1 ∈ g_tw := g_cw (g_t6 (k := 20) rfl)
theorem gc_111 : g_ckP 111 gm_111 := g_ck_of gw_111 (by decide +kernel)
set_option maxRecDepth 50000 in
theorem gw_112 : Cond.code gm_112.1 gm_112.2.1 gm_112.2.2.1 gm_112.2.2.2.1 ∈ g_tw := g_cw (g_t6 (k := 24) rfl)
theorem gc_112 : g_ckP 112 gm_112 := g_ck_of gw_112 (by decide +kernel)
set_option maxRecDepth 50000 in
theorem gw_113 : Cond.code gm_113.1 gm_113.2.1 gm_113.2.2.1 gm_113.2.2.2.1 ∈ g_tw := g_cw (g_t6 (k := 28) rfl)
theorem gc_113 : g_ckP 113 gm_113 := g_ck_of gw_113 (by decide +kernel)
set_option maxRecDepth 50000 in
theorem gw_114 : Cond.code gm_114.1 gm_114.2.1 gm_114.2.2.1 gm_114.2.2.2.1 ∈ g_tw := g_cw (g_t1 (k := 202) rfl)
theorem gc_114 : g_ckP 114 gm_114 := g_ck_of gw_114 (by decide +kernel)
set_option maxRecDepth 50000 in
theorem gw_115 : Cond.code gm_115.1 gm_115.2.1 gm_115.2.2.1 gm_115.2.2.2.1 ∈ g_tw := g_cw (g_t1 (k := 224) rfl)
theorem gc_115 : g_ckP 115 gm_115 := g_ck_of gw_115 (by decide +kernel)
set_option maxRecDepth 50000 in
theorem gw_116 : Cond.code gm_116.1 gm_116.2.1 gm_116.2.2.1 gm_116.2.2.2.1 ∈ g_tw := g_cw (g_t4 (k := 237) rfl)
theorem gc_116 : g_ckP 116 gm_116 := g_ck_of gw_116 (by decide +kernel)
set_option maxRecDepth 50000 in
theorem gw_117 : Cond.code gm_117.1 gm_117.2.1 gm_117.2.2.1 gm_117.2.2.2.1 ∈ g_tw := g_cw (g_t4 (k := 24) rfl)
theorem gc_117 : g_ckP 117 gm_117 := g_ck_of gw_117 (by decide +kernel)
set_option maxRecDepth 50000 in
theorem gw_118 : Cond.code gm_118.1 gm_118.2.1 gm_118.2.2.1 gm_118.2.2.2.1 ∈ g_tw := g_cw (g_t4 (k := 20) rfl)
theorem gc_118 : g_ckP 118 gm_118 := g_ck_of gw_118 (by decide +kernel)
set_option maxRecDepth 50000 in
theorem gw_119 : Cond.code gm_119.1 gm_119.2.1 gm_119.2.2.1 gm_119.2.2.2.1 ∈ g_tw := g_cw (g_t1 (k := 81) rfl)
theorem gc_119 : g_ckP 119 gm_119 := g_ck_of gw_119 (by decide +kernel)
set_option maxRecDepth 50000 in
theorem gw_120 : Cond.code gm_120.1 gm_120.2.1 gm_120.2.2.1 gm_120.2.2.2.1 ∈ g_tw := g_cw (g_t3 (k := 208) rfl)
theorem gc_120 : g_ckP 120 gm_120 := g_ck_of gw_120 (by decide +kernel)
set_option maxRecDepth 50000 in
theorem gw_121 : Cond.code gm_121.1 gm_121.2.1 gm_121.2.2.1 gm_121.2.2.2.1 ∈ g_tw := g_cw (g_t3 (k := 214) rfl)
theorem gc_121 : g_ckP 121 gm_121 := g_ck_of gw_121 (by decide +kernel)
set_option maxRecDepth 50000 in
theorem gw_122 : Cond.code gm_122.1 gm_122.2.1 gm_122.2.2.1 gm_122.2.2.2.1 ∈ g_tw := g_cw (g_t4 (k := 47) rfl)
theorem gc_122 : g_ckP 122 gm_122 := g_ck_of gw_122 (by decide +kernel)
set_option maxRecDepth 50000 in
theorem gw_123 : Cond.code gm_123.1 gm_123.2.1 gm_123.2.2.1 gm_123.2.2.2.1 ∈ g_tw := g_cw (g_t3 (k := 220) rfl)
theorem gc_123 : g_ckP 123 gm_123 := g_ck_of gw_123 (by decide +kernel)
set_option maxRecDepth 50000 in
theorem gw_124 : Cond.code gm_124.1 gm_124.2.1 gm_124.2.2.1 gm_124.2.2.2.1 ∈ g_tw := g_cw (g_t4 (k := 30) rfl)
theorem gc_124 : g_ckP 124 gm_124 := g_ck_of gw_124 (by decide +kernel)
set_option maxRecDepth 50000 in
theorem gw_125 : Cond.code gm_125.1 gm_125.2.1 gm_125.2.2.1 gm_125.2.2.2.1 ∈ g_tw := g_cw (g_t4 (k := 43) rfl)
theorem gc_125 : g_ckP 125 gm_125 := g_ck_of gw_125 (by decide +kernel)
set_option maxRecDepth 50000 in
theorem gw_126 : Cond.code gm_126.1 gm_126.2.1 gm_126.2.2.1 gm_126.2.2.2.1 ∈ g_tw := g_cw (g_t4 (k := 51) rfl)
theorem gc_126 : g_ckP 126 gm_126 := g_ck_of gw_126 (by decide +kernel)
set_option maxRecDepth 50000 in
theorem gw_127 : Cond.code gm_127.1 gm_127.2.1 gm_127.2.2.1 gm_127.2.2.2.1 ∈ g_tw := g_cw (g_t4 (k := 55) rfl)
theorem gc_127 : g_ckP 127 gm_127 := g_ck_of gw_127 (by decide +kernel)
set_option maxRecDepth 50000 in
theorem gw_128 : Cond.code gm_128.1 gm_128.2.1 gm_128.2.2.1 gm_128.2.2.2.1 ∈ g_tw := g_cw (g_t4 (k := 59) rfl)
theorem gc_128 : g_ckP 128 gm_128 := g_ck_of gw_128 (by decide +kernel)
set_option maxRecDepth 50000 in
theorem gw_129 : Cond.code gm_129.1 gm_129.2.1 gm_129.2.2.1 gm_129.2.2.2.1 ∈ g_tw := g_cw (g_t3 (k := 230) rfl)
theorem gc_129 : g_ckP 129 gm_129 := g_ck_of gw_129 (by decide +kernel)
set_option maxRecDepth 50000 in
theorem gw_130 : Cond.code gm_130.1 gm_130.2.1 gm_130.2.2.1 gm_130.2.2.2.1 ∈ g_tw := g_cw (g_t4 (k := 39) rfl)
theorem gc_130 : g_ckP 130 gm_130 := g_ck_of gw_130 (by decide +kernel)
set_option maxRecDepth 50000 in
theorem gw_131 : Cond.code gm_131.1 gm_131.2.1 gm_131.2.2.1 gm_131.2.2.2.1 ∈ g_tw := g_cw (g_t4 (k := 34) rfl)
theorem gc_131 : g_ckP 131 gm_131 := g_ck_of gw_131 (by decide +kernel)
set_option maxRecDepth 50000 in
theorem gw_132 : Cond.code gm_132.1 gm_132.2.1 gm_132.2.2.1 gm_132.2.2.2.1 ∈ g_tw := g_cw (g_t3 (k := 234) rfl)
theorem gc_132 : g_ckP 132 gm_132 := g_ck_of gw_132 (by decide +kernel)
set_option maxRecDepth 50000 in
theorem gw_133 : Cond.code gm_133.1 gm_133.2.1 gm_133.2.2.1 gm_133.2.2.2.1 ∈ g_tw := g_cw (g_t1 (k := 31) rfl)
theorem gc_133 : g_ckP 133 gm_133 := g_ck_of gw_133 (by decide +kernel)
set_option maxRecDepth 50000 in
theorem gw_134 : Cond.code gm_134.1 gm_134.2.1 gm_134.2.2.1 gm_134.2.2.2.1 ∈ g_tw := g_cw (g_t3 (k := 15) rfl)
theorem gc_134 : g_ckP 134 gm_134 := g_ck_of gw_134 (by decide +kernel)
set_option maxRecDepth 50000 in
theorem gw_135 : Cond.code gm_135.1 gm_135.2.1 gm_135.2.2.1 gm_135.2.2.2.1 ∈ g_tw := g_cw (g_t3 (k := 23) rfl)
theorem gc_135 : g_ckP 135 gm_135 := g_ck_of gw_135 (by decide +kernel)
set_option maxRecDepth 50000 in
theorem gw_136 : Cond.code gm_136.1 gm_136.2.1 gm_136.2.2.1 gm_136.2.2.2.1 ∈ g_tw := g_cw (g_t3 (k := 204) rfl)
theorem gc_136 : g_ckP 136 gm_136 := g_ck_of gw_136 (by decide +kernel)
set_option maxRecDepth 50000 in
theorem gw_137 : Cond.code gm_137.1 gm_137.2.1 gm_137.2.2.1 gm_137.2.2.2.1 ∈ g_tw := g_cw (g_t4 (k := 123) rfl)
theorem gc_137 : g_ckP 137 gm_137 := g_ck_of gw_137 (by decide +kernel)
set_option maxRecDepth 50000 in
theorem gw_138 : Cond.code gm_138.1 gm_138.2.1 gm_138.2.2.1 gm_138.2.2.2.1 ∈ g_tw := g_cw (g_t4 (k := 131) rfl)
theorem gc_138 : g_ckP 138 gm_138 := g_ck_of gw_138 (by decide +kernel)
set_option maxRecDepth 50000 in
theorem gw_139 : Cond.code gm_139.1 gm_139.2.1 gm_139.2.2.1 gm_139.2.2.2.1 ∈ g_tw := g_cw (g_t4 (k := 142) rfl)
theorem gc_139 : g_ckP 139 gm_139 := g_ck_of gw_139 (by decide +kernel)
set_option maxRecDepth 50000 in
theorem gw_140 : Cond.code gm_140.1 gm_140.2.1 gm_140.2.2.1 gm_140.2.2.2.1 ∈ g_tw := g_cw (g_t4 (k := 150) rfl)
theorem gc_140 : g_ckP 140 gm_140 := g_ck_of gw_140 (by decide +kernel)
set_option maxRecDepth 50000 in
theorem gw_141 : Cond.code gm_141.1 gm_141.2.1 gm_141.2.2.1 gm_141.2.2.2.1 ∈ g_tw := g_cw (g_t4 (k := 210) rfl)
theorem gc_141 : g_ckP 141 gm_141 := g_ck_of gw_141 (by decide +kernel)
set_option maxRecDepth 50000 in
theorem gw_142 : Cond.code gm_142.1 gm_142.2.1 gm_142.2.2.1 gm_142.2.2.2.1 ∈ g_tw := g_cw (g_t4 (k := 233) rfl)
theorem gc_142 : g_ckP 142 gm_142 := g_ck_of gw_142 (by decide +kernel)
set_option maxRecDepth 50000 in
theorem gw_143 : Cond.code gm_143.1 gm_143.2.1 gm_143.2.2.1 gm_143.2.2.2.1 ∈ g_tw := g_cw (g_t5 (k := 9) rfl)
theorem gc_143 : g_ckP 143 gm_143 := g_ck_of gw_143 (by decide +kernel)
set_option maxRecDepth 50000 in
theorem gw_144 : Cond.code gm_144.1 gm_144.2.1 gm_144.2.2.1 gm_144.2.2.2.1 ∈ g_tw := g_cw (g_t5 (k := 25) rfl)
theorem gc_144 : g_ckP 144 gm_144 := g_ck_of gw_144 (by decide +kernel)
set_option maxRecDepth 50000 in
theorem gw_145 : Cond.code gm_145.1 gm_145.2.1 gm_145.2.2.1 gm_145.2.2.2.1 ∈ g_tw := g_cw (g_t5 (k := 87) rfl)
theorem gc_145 : g_ckP 145 gm_145 := g_ck_of gw_145 (by decide +kernel)
set_option maxRecDepth 50000 in
theorem gw_146 : Cond.code gm_146.1 gm_146.2.1 gm_146.2.2.1 gm_146.2.2.2.1 ∈ g_tw := g_cw (g_t5 (k := 95) rfl)
theorem gc_146 : g_ckP 146 gm_146 := g_ck_of gw_146 (by decide +kernel)
set_option maxRecDepth 50000 in
theorem gw_147 : Cond.code gm_147.1 gm_147.2.1 gm_147.2.2.1 gm_147.2.2.2.1 ∈ g_tw := g_cw (g_t5 (k := 107) rfl)
theorem gc_147 : g_ckP 147 gm_147 := g_ck_of gw_147 (by decide +kernel)
set_option maxRecDepth 50000 in
theorem gw_148 : Cond.code gm_148.1 gm_148.2.1 gm_148.2.2.1 gm_148.2.2.2.1 ∈ g_tw := g_cw (g_t5 (k := 117) rfl)
theorem gc_148 : g_ckP 148 gm_148 := g_ck_of gw_148 (by decide +kernel)
set_option maxRecDepth 50000 in
theorem gw_149 : Cond.code gm_149.1 gm_149.2.1 gm_149.2.2.1 gm_149.2.2.2.1 ∈ g_tw := g_cw (g_t6 (k := 96) rfl)
theorem gc_149 : g_ckP 149 gm_149 := g_ck_of gw_149 (by decide +kernel)
set_option maxRecDepth 50000 in
theorem gw_150 : Cond.code gm_150.1 gm_150.2.1 gm_150.2.2.1 gm_150.2.2.2.1 ∈ g_tw := g_cw (g_t6 (k := 172) rfl)
theorem gc_150 : g_ckP 150 gm_150 := g_ck_of gw_150 (by decide +kernel)
set_option maxRecDepth 50000 in
theorem gw_151 : Cond.code gm_151.1 gm_151.2.1 gm_151.2.2.1 gm_151.2.2.2.1 ∈ g_tw := g_cw (g_t5 (k := 140) rfl)
theorem gc_151 : g_ckP 151 gm_151 := g_ck_of gw_151 (by decide +kernel)
set_option maxRecDepth 50000 in
theorem gw_152 : Cond.code gm_152.1 gm_152.2.1 gm_152.2.2.1 gm_152.2.2.2.1 ∈ g_tw := g_cw (g_t5 (k := 174) rfl)
theorem gc_152 : g_ckP 152 gm_152 := g_ck_of gw_152 (by decide +kernel)
