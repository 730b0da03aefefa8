theorem ab_ckg0 : (List.range' 0 7).all (fun k => (List.range (ab_cod k).length).all (fun i => ab_ck k i && ab_ckw k i)) = true := by decide +kernel
set_option maxRecDepth 100000 in
theorem ab_cwg0 : (List.range' 0 7).map ab_gwM = (List.range' 0 7).map ab_ewM := rfl
theorem ab_ckg1 : (List.range' 7 9).all (fun k => (List.range (ab_cod k).length).all (fun i => ab_ck k i && ab_ckw k i)) = true := by decide +kernel
set_option maxRecDepth 100000 in
theorem ab_cwg1 : (List.range' 7 9).map ab_gwM = (List.range' 7 9).map ab_ewM := rfl
theorem ab_ckg2 : (List.range' 16 7).all (fun k => (List.range (ab_cod k).length).all (fun i => ab_ck k i && ab_ckw k i)) = true := by decide +kernel
set_option maxRecDepth 100000 in
theorem ab_cwg2 : (List.range' 16 7).map ab_gwM = (List.range' 16 7).map ab_ewM := rfl
theorem ab_ckg3 : (List.range' 23 7).all (fun k => (List.range (ab_cod k).length).all (fun i => ab_ck k i && ab_ckw k i)) = true := by decide +kernel
set_option maxRecDepth 100000 in
theorem ab_cwg3 : (List.range' 23 7).map ab_gwM = (List.range' 23 7).map ab_ewM := rfl
theorem ab_ckg4 : (List.range' 30 7).all (fun k => (List.range (ab_cod k).length).all (fun i => ab_ck k i && ab_ckw k i)) = true := by decide +kernel
set_option maxRecDepth 100000 in
theorem ab_cwg4 : (List.range' 30 7).map ab_gwM = (List.range' 30 7).map ab_ewM := rfl
theorem ab_ckg5 : (List.range' 37 14).all (fun k => (List.range (ab_cod k).length).all (fun i => ab_ck k i && ab_ckw k i)) = true := by decide +kernel
set_option maxRecDepth 100000 in
theorem ab_cwg5 : (List.range' 37 14).map ab_gwM = (List.range' 37 14).map ab_ewM := rfl
theorem ab_ckg6 : (List.range' 51 8).all (fun k => (List.range (ab_cod k).length).all (fun i => ab_ck k i && ab_ckw k i)) = true := by decide +kernel
set_option maxRecDepth 100000 in
theorem ab_cwg6 : (List.range' 51 8).map ab_gwM = (List.range' 51 8).map ab_ewM := rfl
theorem ab_ckg7 : (List.range' 59 7).all (fun k => (List.range (ab_cod k).length).all (fun i => ab_ck k i && ab_ckw k i)) = true := by decide +kernel
set_option maxRecDepth 100000 in
theorem ab_cwg7 : (List.range' 59 7).map ab_gwM = (List.range' 59 7).map ab_ewM := rfl
theorem ab_ckg8 : (List.range' 66 12).all (fun k => (List.range (ab_cod k).length).all (fun i => ab_ck k i && ab_ckw k i)) = true := by decide +kernel
set_option maxRecDepth 100000 in
theorem ab_cwg8 : (List.range' 66 12).map ab_gwM = (List.range' 66 12).map ab_ewM := rfl
