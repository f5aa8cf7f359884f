/** Shares out an estate that may not suffice among creditors of several ranks, one unit after the other. */
public final class InsolvencyPool {
    public static final int EQUAL = 0;
    public static final int LOSSES = 1;
    public static final int SHARES = 2;
    public static final int HALVES = 3;

    private static final int MOST_CREDITORS = 8;
    private static final int MOST_CLAIM = 150;
    private static final int MOST_ESTATE = 1500;
    private static final int RANKS = 4;
    private static final int NOBODY = -1;

    private final int[] claimHeld = new int[MOST_CREDITORS];
    private final int[] rankHeld = new int[MOST_CREDITORS];
    private final int[] ruleHeld = new int[RANKS];
    private int creditorCount;
    private int estateHeld;

    // Room to work in: every question shares out anew, so nothing here outlives a call.
    private final int[] received = new int[MOST_CREDITORS];

    public InsolvencyPool() {
        creditorCount = 0;
        estateHeld = 0;
        for (int rank = 0; rank < RANKS; rank++) {
            ruleHeld[rank] = EQUAL;
        }
    }

    public int add(int claim, int rank) {
        if (!isClaim(claim)) {
            return -1;
        }
        if (!isRank(rank)) {
            return -2;
        }
        if (creditorCount >= MOST_CREDITORS) {
            return -3;
        }
        int creditor = creditorCount;
        claimHeld[creditor] = claim;
        rankHeld[creditor] = rank;
        creditorCount = creditor + 1;
        return creditor;
    }

    public int remove(int creditor) {
        if (!isCreditor(creditor)) {
            return -1;
        }
        for (int later = creditor + 1; later < creditorCount; later++) {
            claimHeld[later - 1] = claimHeld[later];
            rankHeld[later - 1] = rankHeld[later];
        }
        creditorCount--;
        return creditorCount;
    }

    public int change(int creditor, int claim) {
        if (!isCreditor(creditor)) {
            return -1;
        }
        if (!isClaim(claim)) {
            return -2;
        }
        int before = claimHeld[creditor];
        claimHeld[creditor] = claim;
        return before;
    }

    public int move(int creditor, int rank) {
        if (!isCreditor(creditor)) {
            return -1;
        }
        if (!isRank(rank)) {
            return -2;
        }
        int before = rankHeld[creditor];
        rankHeld[creditor] = rank;
        return before;
    }

    public int rule(int rank, int rule) {
        if (!isRank(rank)) {
            return -1;
        }
        if (!isRule(rule)) {
            return -2;
        }
        int before = ruleHeld[rank];
        ruleHeld[rank] = rule;
        return before;
    }

    public int estate(int delta) {
        // Compared with the room on either side, because the sum could wrap around.
        if (delta < -estateHeld || delta > MOST_ESTATE - estateHeld) {
            return -1;
        }
        estateHeld += delta;
        return estateHeld;
    }

    public int creditors() {
        return creditorCount;
    }

    public int claimOf(int creditor) {
        if (!isCreditor(creditor)) {
            return -1;
        }
        return claimHeld[creditor];
    }

    public int share(int creditor) {
        if (!isCreditor(creditor)) {
            return -1;
        }
        shareOut(estateHeld);
        return received[creditor];
    }

    public int shareOf(int creditor, int amount) {
        if (!isCreditor(creditor)) {
            return -1;
        }
        if (amount < 0 || amount > MOST_ESTATE) {
            return -2;
        }
        shareOut(amount);
        return received[creditor];
    }

    public int shareUnder(int creditor, int rule) {
        if (!isCreditor(creditor)) {
            return -1;
        }
        if (!isRule(rule)) {
            return -2;
        }
        int rank = rankHeld[creditor];
        int before = ruleHeld[rank];
        ruleHeld[rank] = rule;
        shareOut(estateHeld);
        ruleHeld[rank] = before;
        return received[creditor];
    }

    public int leastEstate(int creditor, int x) {
        if (!isCreditor(creditor)) {
            return -1;
        }
        if (x < 0 || x > MOST_CLAIM) {
            return -2;
        }
        // A unit once given is never taken back, so the first amount that reaches x is the least.
        takeAllBack();
        for (int amount = 0; amount <= MOST_ESTATE; amount++) {
            if (received[creditor] >= x) {
                return amount;
            }
            if (!giveUnit()) {
                break;
            }
        }
        return -3;
    }

    public int claims(int rank) {
        if (!isRank(rank)) {
            return -1;
        }
        int sum = 0;
        for (int creditor = 0; creditor < creditorCount; creditor++) {
            if (rankHeld[creditor] == rank) {
                sum += claimHeld[creditor];
            }
        }
        return sum;
    }

    public int paid(int rank) {
        if (!isRank(rank)) {
            return -1;
        }
        shareOut(estateHeld);
        int sum = 0;
        for (int creditor = 0; creditor < creditorCount; creditor++) {
            if (rankHeld[creditor] == rank) {
                sum += received[creditor];
            }
        }
        return sum;
    }

    public int left() {
        shareOut(estateHeld);
        int rest = estateHeld;
        for (int creditor = 0; creditor < creditorCount; creditor++) {
            rest -= received[creditor];
        }
        return rest;
    }

    public int next() {
        shareOut(estateHeld);
        return nextTaker();
    }

    public int unpaid() {
        shareOut(estateHeld);
        int open = 0;
        for (int creditor = 0; creditor < creditorCount; creditor++) {
            if (isOpen(creditor)) {
                open++;
            }
        }
        return open;
    }

    public int worst() {
        shareOut(estateHeld);
        int greatest = 0;
        for (int creditor = 0; creditor < creditorCount; creditor++) {
            int loss = claimHeld[creditor] - received[creditor];
            if (loss > greatest) {
                greatest = loss;
            }
        }
        return greatest;
    }

    private boolean isCreditor(int creditor) {
        return creditor >= 0 && creditor < creditorCount;
    }

    private static boolean isClaim(int claim) {
        return claim >= 0 && claim <= MOST_CLAIM;
    }

    private static boolean isRank(int rank) {
        return rank >= 0 && rank < RANKS;
    }

    private static boolean isRule(int rule) {
        return rule >= EQUAL && rule <= HALVES;
    }

    private void shareOut(int amount) {
        takeAllBack();
        for (int unit = 0; unit < amount; unit++) {
            if (!giveUnit()) {
                break;
            }
        }
    }

    private void takeAllBack() {
        for (int creditor = 0; creditor < MOST_CREDITORS; creditor++) {
            received[creditor] = 0;
        }
    }

    /** Answers false if the unit, and so every later one, is left over. */
    private boolean giveUnit() {
        int taker = nextTaker();
        if (taker == NOBODY) {
            return false;
        }
        received[taker]++;
        return true;
    }

    private int nextTaker() {
        int rank = RANKS;
        for (int creditor = 0; creditor < creditorCount; creditor++) {
            if (isOpen(creditor) && rankHeld[creditor] < rank) {
                rank = rankHeld[creditor];
            }
        }
        if (rank == RANKS) {
            return NOBODY;
        }
        return takerInRank(rank);
    }

    private int takerInRank(int rank) {
        int order = ruleHeld[rank];
        boolean firstHalf = order == HALVES && isInFirstHalf(rank);
        if (order == HALVES) {
            order = firstHalf ? EQUAL : LOSSES;
        }
        int best = NOBODY;
        for (int creditor = 0; creditor < creditorCount; creditor++) {
            boolean mayTake = firstHalf ? isBelowHalf(creditor) : isOpen(creditor);
            if (rankHeld[creditor] != rank || !mayTake) {
                continue;
            }
            // Only one who is strictly ahead displaces, so that among equals the least number stays.
            if (best == NOBODY || isAhead(creditor, best, order)) {
                best = creditor;
            }
        }
        return best;
    }

    private boolean isInFirstHalf(int rank) {
        int claimed = 0;
        int given = 0;
        for (int creditor = 0; creditor < creditorCount; creditor++) {
            if (rankHeld[creditor] == rank) {
                claimed += claimHeld[creditor];
                given += received[creditor];
            }
        }
        return 2 * given < claimed;
    }

    private boolean isOpen(int creditor) {
        return received[creditor] < claimHeld[creditor];
    }

    private boolean isBelowHalf(int creditor) {
        return 2 * received[creditor] < claimHeld[creditor];
    }

    private boolean isAhead(int one, int other, int order) {
        if (order == EQUAL) {
            return received[one] < received[other];
        }
        if (order == LOSSES) {
            return claimHeld[one] - received[one] > claimHeld[other] - received[other];
        }
        // The two fractions multiplied crosswise, which keeps the comparison exact.
        return claimHeld[one] * (received[other] + 1) > claimHeld[other] * (received[one] + 1);
    }
}
