theorem ab_ckg27 : (List.range' 200 9).all (fun k => (List.range (ab_cod k).length).all (fun i => ab_ck k i && ab_ckw k i)) = true := by decide +kernel
set_option maxRecDepth 100000 in
theorem ab_cwg27 : (List.range' 200 9).map ab_gwM = (List.range' 200 9).map ab_ewM := rfl
theorem ab_ckg28 : (List.range' 209 4).all (fun k => (List.range (ab_cod k).length).all (fun i => ab_ck k i && ab_ckw k i)) = true := by decide +kernel
set_option maxRecDepth 100000 in
theorem ab_cwg28 : (List.range' 209 4).map ab_gwM = (List.range' 209 4).map ab_ewM := rfl
theorem ab_ckg29 : (List.range' 213 12).all (fun k => (List.range (ab_cod k).length).all (fun i => ab_ck k i && ab_ckw k i)) = true := by decide +kernel
set_option maxRecDepth 100000 in
theorem ab_cwg29 : (List.range' 213 12).map ab_gwM = (List.range' 213 12).map ab_ewM := rfl
theorem ab_ckg30 : (List.range' 225 11).all (fun k => (List.range (ab_cod k).length).all (fun i => ab_ck k i && ab_ckw k i)) = true := by decide +kernel
set_option maxRecDepth 100000 in
theorem ab_cwg30 : (List.range' 225 11).map ab_gwM = (List.range' 225 11).map ab_ewM := rfl
theorem ab_ckg31 : (List.range' 236 5).all (fun k => (List.range (ab_cod k).length).all (fun i => ab_ck k i && ab_ckw k i)) = true := by decide +kernel
set_option maxRecDepth 100000 in
theorem ab_cwg31 : (List.range' 236 5).map ab_gwM = (List.range' 236 5).map ab_ewM := rfl
theorem ab_ckg32 : (List.range' 241 5).all (fun k => (List.range (ab_cod k).length).all (fun i => ab_ck k i && ab_ckw k i)) = true := by decide +kernel
set_option maxRecDepth 100000 in
theorem ab_cwg32 : (List.range' 241 5).map ab_gwM = (List.range' 241 5).map ab_ewM := rfl
