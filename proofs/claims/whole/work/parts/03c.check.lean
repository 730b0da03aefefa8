theorem ab_ckg9 : (List.range' 78 5).all (fun k => (List.range (ab_cod k).length).all (fun i => ab_ck k i && ab_ckw k i)) = true := by decide +kernel
set_option maxRecDepth 100000 in
theorem ab_cwg9 : (List.range' 78 5).map ab_gwM = (List.range' 78 5).map ab_ewM := rfl
theorem ab_ckg10 : (List.range' 83 1).all (fun k => (List.range (ab_cod k).length).all (fun i => ab_ck k i && ab_ckw k i)) = true := by decide +kernel
set_option maxRecDepth 100000 in
theorem ab_cwg10 : (List.range' 83 1).map ab_gwM = (List.range' 83 1).map ab_ewM := rfl
theorem ab_ckg11 : (List.range' 84 4).all (fun k => (List.range (ab_cod k).length).all (fun i => ab_ck k i && ab_ckw k i)) = true := by decide +kernel
set_option maxRecDepth 100000 in
theorem ab_cwg11 : (List.range' 84 4).map ab_gwM = (List.range' 84 4).map ab_ewM := rfl
theorem ab_ckg12 : (List.range' 88 8).all (fun k => (List.range (ab_cod k).length).all (fun i => ab_ck k i && ab_ckw k i)) = true := by decide +kernel
set_option maxRecDepth 100000 in
theorem ab_cwg12 : (List.range' 88 8).map ab_gwM = (List.range' 88 8).map ab_ewM := rfl
theorem ab_ckg13 : (List.range' 96 10).all (fun k => (List.range (ab_cod k).length).all (fun i => ab_ck k i && ab_ckw k i)) = true := by decide +kernel
set_option maxRecDepth 100000 in
theorem ab_cwg13 : (List.range' 96 10).map ab_gwM = (List.range' 96 10).map ab_ewM := rfl
theorem ab_ckg14 : (List.range' 106 4).all (fun k => (List.range (ab_cod k).length).all (fun i => ab_ck k i && ab_ckw k i)) = true := by decide +kernel
set_option maxRecDepth 100000 in
theorem ab_cwg14 : (List.range' 106 4).map ab_gwM = (List.range' 106 4).map ab_ewM := rfl
theorem ab_ckg15 : (List.range' 110 3).all (fun k => (List.range (ab_cod k).length).all (fun i => ab_ck k i && ab_ckw k i)) = true := by decide +kernel
set_option maxRecDepth 100000 in
theorem ab_cwg15 : (List.range' 110 3).map ab_gwM = (List.range' 110 3).map ab_ewM := rfl
theorem ab_ckg16 : (List.range' 113 3).all (fun k => (List.range (ab_cod k).length).all (fun i => ab_ck k i && ab_ckw k i)) = true := by decide +kernel
set_option maxRecDepth 100000 in
theorem ab_cwg16 : (List.range' 113 3).map ab_gwM = (List.range' 113 3).map ab_ewM := rfl
theorem ab_ckg17 : (List.range' 116 11).all (fun k => (List.range (ab_cod k).length).all (fun i => ab_ck k i && ab_ckw k i)) = true := by decide +kernel
set_option maxRecDepth 100000 in
theorem ab_cwg17 : (List.range' 116 11).map ab_gwM = (List.range' 116 11).map ab_ewM := rfl
