/-! the code lists are the code (by program) -/
set_option maxRecDepth 100000 in
theorem vk67 : (vt67.all fun y => vokB 67 y && vdecB 67 y && vparB y) = true := by decide +kernel
set_option maxRecDepth 100000 in
theorem vk68 : (vt68.all fun y => vokB 68 y && vdecB 68 y && vparB y) = true := by decide +kernel
set_option maxRecDepth 100000 in
theorem vk69 : (vt69.all fun y => vokB 69 y && vdecB 69 y && vparB y) = true := by decide +kernel
set_option maxRecDepth 100000 in
theorem vk70 : (vt70.all fun y => vokB 70 y && vdecB 70 y && vparB y) = true := by decide +kernel
set_option maxRecDepth 100000 in
theorem vk71 : (vt71.all fun y => vokB 71 y && vdecB 71 y && vparB y) = true := by decide +kernel
set_option maxRecDepth 100000 in
theorem vk72 : (vt72.all fun y => vokB 72 y && vdecB 72 y && vparB y) = true := by decide +kernel
set_option maxRecDepth 100000 in
theorem vk73 : (vt73.all fun y => vokB 73 y && vdecB 73 y && vparB y) = true := by decide +kernel
set_option maxRecDepth 100000 in
theorem vk74 : (vt74.all fun y => vokB 74 y && vdecB 74 y && vparB y) = true := by decide +kernel
set_option maxRecDepth 100000 in
theorem vk75 : (vt75.all fun y => vokB 75 y && vdecB 75 y && vparB y) = true := by decide +kernel
set_option maxRecDepth 100000 in
theorem vk76 : (vt76.all fun y => vokB 76 y && vdecB 76 y && vparB y) = true := by decide +kernel
set_option maxRecDepth 100000 in
theorem vk77 : (vt77.all fun y => vokB 77 y && vdecB 77 y && vparB y) = true := by decide +kernel
set_option maxRecDepth 100000 in
theorem vk78 : (vt78.all fun y => vokB 78 y && vdecB 78 y && vparB y) = true := by decide +kernel
set_option maxRecDepth 100000 in
theorem vk79 : (vt79.all fun y => vokB 79 y && vdecB 79 y && vparB y) = true := by decide +kernel
set_option maxRecDepth 100000 in
theorem vk80 : (vt80.all fun y => vokB 80 y && vdecB 80 y && vparB y) = true := by decide +kernel
set_option maxRecDepth 100000 in
theorem vk81 : (vt81.all fun y => vokB 81 y && vdecB 81 y && vparB y) = true := by decide +kernel
set_option maxRecDepth 100000 in
theorem vk82 : (vt82.all fun y => vokB 82 y && vdecB 82 y && vparB y) = true := by decide +kernel
set_option maxRecDepth 100000 in
theorem vk83 : (vt83.all fun y => vokB 83 y && vdecB 83 y && vparB y) = true := by decide +kernel
set_option maxRecDepth 100000 in
theorem vk84 : (vt84.all fun y => vokB 84 y && vdecB 84 y && vparB y) = true := by decide +kernel
set_option maxRecDepth 100000 in
theorem vk85 : (vt85.all fun y => vokB 85 y && vdecB 85 y && vparB y) = true := by decide +kernel
set_option maxRecDepth 100000 in
theorem vk86 : (vt86.all fun y => vokB 86 y && vdecB 86 y && vparB y) = true := by decide +kernel
set_option maxRecDepth 100000 in
theorem vk87 : (vt87.all fun y => vokB 87 y && vdecB 87 y && vparB y) = true := by decide +kernel
set_option maxRecDepth 100000 in
theorem vk88 : (vt88.all fun y => vokB 88 y && vdecB 88 y && vparB y) = true := by decide +kernel
set_option maxRecDepth 100000 in
theorem vk89 : (vt89.all fun y => vokB 89 y && vdecB 89 y && vparB y) = true := by decide +kernel
set_option maxRecDepth 100000 in
theorem vk90 : (vt90.all fun y => vokB 90 y && vdecB 90 y && vparB y) = true := by decide +kernel
set_option maxRecDepth 100000 in
theorem vk91 : (vt91.all fun y => vokB 91 y && vdecB 91 y && vparB y) = true := by decide +kernel
set_option maxRecDepth 100000 in
theorem vk92 : (vt92.all fun y => vokB 92 y && vdecB 92 y && vparB y) = true := by decide +kernel
set_option maxRecDepth 100000 in
theorem vk93 : (vt93.all fun y => vokB 93 y && vdecB 93 y && vparB y) = true := by decide +kernel
set_option maxRecDepth 100000 in
theorem vk94 : (vt94.all fun y => vokB 94 y && vdecB 94 y && vparB y) = true := by decide +kernel
set_option maxRecDepth 100000 in
theorem vk95 : (vt95.all fun y => vokB 95 y && vdecB 95 y && vparB y) = true := by decide +kernel
set_option maxRecDepth 100000 in
theorem vk96 : (vt96.all fun y => vokB 96 y && vdecB 96 y && vparB y) = true := by decide +kernel
set_option maxRecDepth 100000 in
theorem vk97 : (vt97.all fun y => vokB 97 y && vdecB 97 y && vparB y) = true := by decide +kernel
set_option maxRecDepth 100000 in
theorem vk98 : (vt98.all fun y => vokB 98 y && vdecB 98 y && vparB y) = true := by decide +kernel
set_option maxRecDepth 100000 in
theorem vk99 : (vt99.all fun y => vokB 99 y && vdecB 99 y && vparB y) = true := by decide +kernel
set_option maxRecDepth 100000 in
theorem vk100 : (vt100.all fun y => vokB 100 y && vdecB 100 y && vparB y) = true := by decide +kernel
set_option maxRecDepth 100000 in
theorem vk101 : (vt101.all fun y => vokB 101 y && vdecB 101 y && vparB y) = true := by decide +kernel
set_option maxRecDepth 100000 in
theorem vk102 : (vt102.all fun y => vokB 102 y && vdecB 102 y && vparB y) = true := by decide +kernel
set_option maxRecDepth 100000 in
theorem vk103 : (vt103.all fun y => vokB 103 y && vdecB 103 y && vparB y) = true := by decide +kernel
set_option maxRecDepth 100000 in
theorem vk104 : (vt104.all fun y => vokB 104 y && vdecB 104 y && vparB y) = true := by decide +kernel
set_option maxRecDepth 100000 in
theorem vk105 : (vt105.all fun y => vokB 105 y && vdecB 105 y && vparB y) = true := by decide +kernel
set_option maxRecDepth 100000 in
theorem vk106 : (vt106.all fun y => vokB 106 y && vdecB 106 y && vparB y) = true := by decide +kernel
set_option maxRecDepth 100000 in
theorem vk107 : (vt107.all fun y => vokB 107 y && vdecB 107 y && vparB y) = true := by decide +kernel
set_option maxRecDepth 100000 in
theorem vk108 : (vt108.all fun y => vokB 108 y && vdecB 108 y && vparB y) = true := by decide +kernel
set_option maxRecDepth 100000 in
theorem vk109 : (vt109.all fun y => vokB 109 y && vdecB 109 y && vparB y) = true := by decide +kernel
set_option maxRecDepth 100000 in
theorem vk110 : (vt110.all fun y => vokB 110 y && vdecB 110 y && vparB y) = true := by decide +kernel
set_option maxRecDepth 100000 in
theorem vk111 : (vt111.all fun y => vokB 111 y && vdecB 111 y && vparB y) = true := by decide +kernel
set_option maxRecDepth 100000 in
theorem vk112 : (vt112.all fun y => vokB 112 y && vdecB 112 y && vparB y) = true := by decide +kernel
set_option maxRecDepth 100000 in
theorem vk113 : (vt113.all fun y => vokB 113 y && vdecB 113 y && vparB y) = true := by decide +kernel
set_option maxRecDepth 100000 in
theorem vk114 : (vt114.all fun y => vokB 114 y && vdecB 114 y && vparB y) = true := by decide +kernel
set_option maxRecDepth 100000 in
theorem vk115 : (vt115.all fun y => vokB 115 y && vdecB 115 y && vparB y) = true := by decide +kernel
set_option maxRecDepth 100000 in
theorem vk116 : (vt116.all fun y => vokB 116 y && vdecB 116 y && vparB y) = true := by decide +kernel
set_option maxRecDepth 100000 in
theorem vk117 : (vt117.all fun y => vokB 117 y && vdecB 117 y && vparB y) = true := by decide +kernel
set_option maxRecDepth 100000 in
theorem vk118 : (vt118.all fun y => vokB 118 y && vdecB 118 y && vparB y) = true := by decide +kernel
set_option maxRecDepth 100000 in
theorem vk119 : (vt119.all fun y => vokB 119 y && vdecB 119 y && vparB y) = true := by decide +kernel
set_option maxRecDepth 100000 in
theorem vk120 : (vt120.all fun y => vokB 120 y && vdecB 120 y && vparB y) = true := by decide +kernel
set_option maxRecDepth 100000 in
theorem vk121 : (vt121.all fun y => vokB 121 y && vdecB 121 y && vparB y) = true := by decide +kernel
set_option maxRecDepth 100000 in
theorem vk122 : (vt122.all fun y => vokB 122 y && vdecB 122 y && vparB y) = true := by decide +kernel
set_option maxRecDepth 100000 in
theorem vk123 : (vt123.all fun y => vokB 123 y && vdecB 123 y && vparB y) = true := by decide +kernel
set_option maxRecDepth 100000 in
theorem vk124 : (vt124.all fun y => vokB 124 y && vdecB 124 y && vparB y) = true := by decide +kernel
set_option maxRecDepth 100000 in
theorem vk125 : (vt125.all fun y => vokB 125 y && vdecB 125 y && vparB y) = true := by decide +kernel
set_option maxRecDepth 100000 in
theorem vk126 : (vt126.all fun y => vokB 126 y && vdecB 126 y && vparB y) = true := by decide +kernel
set_option maxRecDepth 100000 in
theorem vk127 : (vt127.all fun y => vokB 127 y && vdecB 127 y && vparB y) = true := by decide +kernel
set_option maxRecDepth 100000 in
theorem vk128 : (vt128.all fun y => vokB 128 y && vdecB 128 y && vparB y) = true := by decide +kernel
set_option maxRecDepth 100000 in
theorem vk129 : (vt129.all fun y => vokB 129 y && vdecB 129 y && vparB y) = true := by decide +kernel
set_option maxRecDepth 100000 in
theorem vk130 : (vt130.all fun y => vokB 130 y && vdecB 130 y && vparB y) = true := by decide +kernel
set_option maxRecDepth 100000 in
theorem vk131 : (vt131.all fun y => vokB 131 y && vdecB 131 y && vparB y) = true := by decide +kernel
set_option maxRecDepth 100000 in
theorem vk132 : (vt132.all fun y => vokB 132 y && vdecB 132 y && vparB y) = true := by decide +kernel
set_option maxRecDepth 100000 in
theorem vk133 : (vt133.all fun y => vokB 133 y && vdecB 133 y && vparB y) = true := by decide +kernel
set_option maxRecDepth 100000 in
theorem vk134 : (vt134.all fun y => vokB 134 y && vdecB 134 y && vparB y) = true := by decide +kernel
set_option maxRecDepth 100000 in
theorem vk135 : (vt135.all fun y => vokB 135 y && vdecB 135 y && vparB y) = true := by decide +kernel
set_option maxRecDepth 100000 in
theorem vk136 : (vt136.all fun y => vokB 136 y && vdecB 136 y && vparB y) = true := by decide +kernel
set_option maxRecDepth 100000 in
theorem vk137 : (vt137.all fun y => vokB 137 y && vdecB 137 y && vparB y) = true := by decide +kernel
set_option maxRecDepth 100000 in
theorem vk138 : (vt138.all fun y => vokB 138 y && vdecB 138 y && vparB y) = true := by decide +kernel
set_option maxRecDepth 100000 in
theorem vk139 : (vt139.all fun y => vokB 139 y && vdecB 139 y && vparB y) = true := by decide +kernel
set_option maxRecDepth 100000 in
theorem vk140 : (vt140.all fun y => vokB 140 y && vdecB 140 y && vparB y) = true := by decide +kernel
set_option maxRecDepth 100000 in
theorem vk141 : (vt141.all fun y => vokB 141 y && vdecB 141 y && vparB y) = true := by decide +kernel
set_option maxRecDepth 100000 in
theorem vk142 : (vt142.all fun y => vokB 142 y && vdecB 142 y && vparB y) = true := by decide +kernel
set_option maxRecDepth 100000 in
theorem vk143 : (vt143.all fun y => vokB 143 y && vdecB 143 y && vparB y) = true := by decide +kernel
set_option maxRecDepth 100000 in
theorem vk144 : (vt144.all fun y => vokB 144 y && vdecB 144 y && vparB y) = true := by decide +kernel
set_option maxRecDepth 100000 in
theorem vk145 : (vt145.all fun y => vokB 145 y && vdecB 145 y && vparB y) = true := by decide +kernel
set_option maxRecDepth 100000 in
theorem vk146 : (vt146.all fun y => vokB 146 y && vdecB 146 y && vparB y) = true := by decide +kernel
set_option maxRecDepth 100000 in
theorem vk147 : (vt147.all fun y => vokB 147 y && vdecB 147 y && vparB y) = true := by decide +kernel
set_option maxRecDepth 100000 in
theorem vk148 : (vt148.all fun y => vokB 148 y && vdecB 148 y && vparB y) = true := by decide +kernel
set_option maxRecDepth 100000 in
theorem vk149 : (vt149.all fun y => vokB 149 y && vdecB 149 y && vparB y) = true := by decide +kernel
set_option maxRecDepth 100000 in
theorem vk150 : (vt150.all fun y => vokB 150 y && vdecB 150 y && vparB y) = true := by decide +kernel
set_option maxRecDepth 100000 in
theorem vk151 : (vt151.all fun y => vokB 151 y && vdecB 151 y && vparB y) = true := by decide +kernel
set_option maxRecDepth 100000 in
theorem vk152 : (vt152.all fun y => vokB 152 y && vdecB 152 y && vparB y) = true := by decide +kernel
set_option maxRecDepth 100000 in
theorem vk153 : (vt153.all fun y => vokB 153 y && vdecB 153 y && vparB y) = true := by decide +kernel
set_option maxRecDepth 100000 in
theorem vk154 : (vt154.all fun y => vokB 154 y && vdecB 154 y && vparB y) = true := by decide +kernel
set_option maxRecDepth 100000 in
theorem vk155 : (vt155.all fun y => vokB 155 y && vdecB 155 y && vparB y) = true := by decide +kernel
set_option maxRecDepth 100000 in
theorem vk156 : (vt156.all fun y => vokB 156 y && vdecB 156 y && vparB y) = true := by decide +kernel
set_option maxRecDepth 100000 in
theorem vk157 : (vt157.all fun y => vokB 157 y && vdecB 157 y && vparB y) = true := by decide +kernel
set_option maxRecDepth 100000 in
theorem vk158 : (vt158.all fun y => vokB 158 y && vdecB 158 y && vparB y) = true := by decide +kernel
set_option maxRecDepth 100000 in
theorem vk159 : (vt159.all fun y => vokB 159 y && vdecB 159 y && vparB y) = true := by decide +kernel
set_option maxRecDepth 100000 in
theorem vk160 : (vt160.all fun y => vokB 160 y && vdecB 160 y && vparB y) = true := by decide +kernel
set_option maxRecDepth 100000 in
theorem vk161 : (vt161.all fun y => vokB 161 y && vdecB 161 y && vparB y) = true := by decide +kernel
set_option maxRecDepth 100000 in
theorem vk162 : (vt162.all fun y => vokB 162 y && vdecB 162 y && vparB y) = true := by decide +kernel
set_option maxRecDepth 100000 in
theorem vk163 : (vt163.all fun y => vokB 163 y && vdecB 163 y && vparB y) = true := by decide +kernel
set_option maxRecDepth 100000 in
theorem vk164 : (vt164.all fun y => vokB 164 y && vdecB 164 y && vparB y) = true := by decide +kernel
set_option maxRecDepth 100000 in
theorem vk165 : (vt165.all fun y => vokB 165 y && vdecB 165 y && vparB y) = true := by decide +kernel
set_option maxRecDepth 100000 in
theorem vk166 : (vt166.all fun y => vokB 166 y && vdecB 166 y && vparB y) = true := by decide +kernel
set_option maxRecDepth 100000 in
theorem vk167 : (vt167.all fun y => vokB 167 y && vdecB 167 y && vparB y) = true := by decide +kernel
