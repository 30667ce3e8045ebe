theorem az_claimok : az_claim := az_claim_of lw_allok
