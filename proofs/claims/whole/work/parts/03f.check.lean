theorem ab_ckl0 : (List.range' 0 60).all (fun i => ab_ck 246 i && ab_ckw 246 i) = true := by decide +kernel
set_option maxRecDepth 100000 in
theorem ab_cwl0 : (List.range' 0 60).map (ab_gwI 246) = (List.range' 0 60).map (ab_ewI 246) := rfl
theorem ab_ckl1 : (List.range' 60 60).all (fun i => ab_ck 246 i && ab_ckw 246 i) = true := by decide +kernel
set_option maxRecDepth 100000 in
theorem ab_cwl1 : (List.range' 60 60).map (ab_gwI 246) = (List.range' 60 60).map (ab_ewI 246) := rfl
theorem ab_ckl2 : (List.range' 120 60).all (fun i => ab_ck 246 i && ab_ckw 246 i) = true := by decide +kernel
set_option maxRecDepth 100000 in
theorem ab_cwl2 : (List.range' 120 60).map (ab_gwI 246) = (List.range' 120 60).map (ab_ewI 246) := rfl
theorem ab_ckl3 : (List.range' 180 60).all (fun i => ab_ck 246 i && ab_ckw 246 i) = true := by decide +kernel
set_option maxRecDepth 100000 in
theorem ab_cwl3 : (List.range' 180 60).map (ab_gwI 246) = (List.range' 180 60).map (ab_ewI 246) := rfl
theorem ab_ckl4 : (List.range' 240 60).all (fun i => ab_ck 246 i && ab_ckw 246 i) = true := by decide +kernel
set_option maxRecDepth 100000 in
theorem ab_cwl4 : (List.range' 240 60).map (ab_gwI 246) = (List.range' 240 60).map (ab_ewI 246) := rfl
theorem ab_ckl5 : (List.range' 300 60).all (fun i => ab_ck 246 i && ab_ckw 246 i) = true := by decide +kernel
set_option maxRecDepth 100000 in
theorem ab_cwl5 : (List.range' 300 60).map (ab_gwI 246) = (List.range' 300 60).map (ab_ewI 246) := rfl
theorem ab_ckl6 : (List.range' 360 60).all (fun i => ab_ck 246 i && ab_ckw 246 i) = true := by decide +kernel
set_option maxRecDepth 100000 in
theorem ab_cwl6 : (List.range' 360 60).map (ab_gwI 246) = (List.range' 360 60).map (ab_ewI 246) := rfl
theorem ab_ckl7 : (List.range' 420 60).all (fun i => ab_ck 246 i && ab_ckw 246 i) = true := by decide +kernel
set_option maxRecDepth 100000 in
theorem ab_cwl7 : (List.range' 420 60).map (ab_gwI 246) = (List.range' 420 60).map (ab_ewI 246) := rfl
