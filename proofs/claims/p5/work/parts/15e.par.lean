section GM
end GM
