theorem ab_ckg18 : (List.range' 127 10).all (fun k => (List.range (ab_cod k).length).all (fun i => ab_ck k i && ab_ckw k i)) = true := by decide +kernel
set_option maxRecDepth 100000 in
theorem ab_cwg18 : (List.range' 127 10).map ab_gwM = (List.range' 127 10).map ab_ewM := rfl
theorem ab_ckg19 : (List.range' 137 7).all (fun k => (List.range (ab_cod k).length).all (fun i => ab_ck k i && ab_ckw k i)) = true := by decide +kernel
set_option maxRecDepth 100000 in
theorem ab_cwg19 : (List.range' 137 7).map ab_gwM = (List.range' 137 7).map ab_ewM := rfl
theorem ab_ckg20 : (List.range' 144 7).all (fun k => (List.range (ab_cod k).length).all (fun i => ab_ck k i && ab_ckw k i)) = true := by decide +kernel
set_option maxRecDepth 100000 in
theorem ab_cwg20 : (List.range' 144 7).map ab_gwM = (List.range' 144 7).map ab_ewM := rfl
theorem ab_ckg21 : (List.range' 151 6).all (fun k => (List.range (ab_cod k).length).all (fun i => ab_ck k i && ab_ckw k i)) = true := by decide +kernel
set_option maxRecDepth 100000 in
theorem ab_cwg21 : (List.range' 151 6).map ab_gwM = (List.range' 151 6).map ab_ewM := rfl
theorem ab_ckg22 : (List.range' 157 6).all (fun k => (List.range (ab_cod k).length).all (fun i => ab_ck k i && ab_ckw k i)) = true := by decide +kernel
set_option maxRecDepth 100000 in
theorem ab_cwg22 : (List.range' 157 6).map ab_gwM = (List.range' 157 6).map ab_ewM := rfl
theorem ab_ckg23 : (List.range' 163 9).all (fun k => (List.range (ab_cod k).length).all (fun i => ab_ck k i && ab_ckw k i)) = true := by decide +kernel
set_option maxRecDepth 100000 in
theorem ab_cwg23 : (List.range' 163 9).map ab_gwM = (List.range' 163 9).map ab_ewM := rfl
theorem ab_ckg24 : (List.range' 172 9).all (fun k => (List.range (ab_cod k).length).all (fun i => ab_ck k i && ab_ckw k i)) = true := by decide +kernel
set_option maxRecDepth 100000 in
theorem ab_cwg24 : (List.range' 172 9).map ab_gwM = (List.range' 172 9).map ab_ewM := rfl
theorem ab_ckg25 : (List.range' 181 7).all (fun k => (List.range (ab_cod k).length).all (fun i => ab_ck k i && ab_ckw k i)) = true := by decide +kernel
set_option maxRecDepth 100000 in
theorem ab_cwg25 : (List.range' 181 7).map ab_gwM = (List.range' 181 7).map ab_ewM := rfl
theorem ab_ckg26 : (List.range' 188 12).all (fun k => (List.range (ab_cod k).length).all (fun i => ab_ck k i && ab_ckw k i)) = true := by decide +kernel
set_option maxRecDepth 100000 in
theorem ab_cwg26 : (List.range' 188 12).map ab_gwM = (List.range' 188 12).map ab_ewM := rfl
