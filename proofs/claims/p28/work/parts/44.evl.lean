set_option maxHeartbeats 0 in
theorem e_0_0_1_2_23 : (okG (runF 0 0 1 2 2) && okG (runF 0 0 1 2 3)) = true := by decide +kernel
set_option maxHeartbeats 0 in
theorem e_0_1_0_1_23 : (okG (runF 0 1 0 1 2) && okG (runF 0 1 0 1 3)) = true := by decide +kernel
set_option maxHeartbeats 0 in
theorem e_0_1_2_3_23 : (okG (runF 0 1 2 3 2) && okG (runF 0 1 2 3 3)) = true := by decide +kernel
set_option maxHeartbeats 0 in
theorem e_0_2_2_2_23 : (okG (runF 0 2 2 2 2) && okG (runF 0 2 2 2 3)) = true := by decide +kernel
set_option maxHeartbeats 0 in
theorem e_1_0_1_3_23 : (okG (runF 1 0 1 3 2) && okG (runF 1 0 1 3 3)) = true := by decide +kernel
set_option maxHeartbeats 0 in
theorem e_1_1_1_2_23 : (okG (runF 1 1 1 2 2) && okG (runF 1 1 1 2 3)) = true := by decide +kernel
set_option maxHeartbeats 0 in
theorem e_1_2_0_1_1 : (okG (runF 1 2 0 1 1)) = true := by decide +kernel
set_option maxHeartbeats 0 in
theorem e_1_2_1_3_1 : (okG (runF 1 2 1 3 1)) = true := by decide +kernel
set_option maxHeartbeats 0 in
theorem e_1_2_2_3_1 : (okG (runF 1 2 2 3 1)) = true := by decide +kernel
set_option maxHeartbeats 0 in
theorem e_2_0_1_3_23 : (okG (runF 2 0 1 3 2) && okG (runF 2 0 1 3 3)) = true := by decide +kernel
set_option maxHeartbeats 0 in
theorem e_2_1_0_1_3 : (okG (runF 2 1 0 1 3)) = true := by decide +kernel
set_option maxHeartbeats 0 in
theorem e_2_1_1_3_3 : (okG (runF 2 1 1 3 3)) = true := by decide +kernel
set_option maxHeartbeats 0 in
theorem e_2_1_2_3_3 : (okG (runF 2 1 2 3 3)) = true := by decide +kernel
set_option maxHeartbeats 0 in
theorem e_2_2_1_2_3 : (okG (runF 2 2 1 2 3)) = true := by decide +kernel
set_option maxHeartbeats 0 in
theorem e_2_2_2_2_3 : (okG (runF 2 2 2 2 3)) = true := by decide +kernel
