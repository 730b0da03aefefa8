theorem ab_ckl8 : (List.range' 480 60).all (fun i => ab_ck 246 i && ab_ckw 246 i) = true := by decide +kernel
set_option maxRecDepth 100000 in
theorem ab_cwl8 : (List.range' 480 60).map (ab_gwI 246) = (List.range' 480 60).map (ab_ewI 246) := rfl
theorem ab_ckl9 : (List.range' 540 60).all (fun i => ab_ck 246 i && ab_ckw 246 i) = true := by decide +kernel
set_option maxRecDepth 100000 in
theorem ab_cwl9 : (List.range' 540 60).map (ab_gwI 246) = (List.range' 540 60).map (ab_ewI 246) := rfl
theorem ab_ckl10 : (List.range' 600 60).all (fun i => ab_ck 246 i && ab_ckw 246 i) = true := by decide +kernel
set_option maxRecDepth 100000 in
theorem ab_cwl10 : (List.range' 600 60).map (ab_gwI 246) = (List.range' 600 60).map (ab_ewI 246) := rfl
theorem ab_ckl11 : (List.range' 660 60).all (fun i => ab_ck 246 i && ab_ckw 246 i) = true := by decide +kernel
set_option maxRecDepth 100000 in
theorem ab_cwl11 : (List.range' 660 60).map (ab_gwI 246) = (List.range' 660 60).map (ab_ewI 246) := rfl
theorem ab_ckl12 : (List.range' 720 60).all (fun i => ab_ck 246 i && ab_ckw 246 i) = true := by decide +kernel
set_option maxRecDepth 100000 in
theorem ab_cwl12 : (List.range' 720 60).map (ab_gwI 246) = (List.range' 720 60).map (ab_ewI 246) := rfl
theorem ab_ckl13 : (List.range' 780 60).all (fun i => ab_ck 246 i && ab_ckw 246 i) = true := by decide +kernel
set_option maxRecDepth 100000 in
theorem ab_cwl13 : (List.range' 780 60).map (ab_gwI 246) = (List.range' 780 60).map (ab_ewI 246) := rfl
theorem ab_ckl14 : (List.range' 840 60).all (fun i => ab_ck 246 i && ab_ckw 246 i) = true := by decide +kernel
set_option maxRecDepth 100000 in
theorem ab_cwl14 : (List.range' 840 60).map (ab_gwI 246) = (List.range' 840 60).map (ab_ewI 246) := rfl
theorem ab_ckl15 : (List.range' 900 43).all (fun i => ab_ck 246 i && ab_ckw 246 i) = true := by decide +kernel
set_option maxRecDepth 100000 in
theorem ab_cwl15 : (List.range' 900 43).map (ab_gwI 246) = (List.range' 900 43).map (ab_ewI 246) := rfl
