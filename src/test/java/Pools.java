/** Makes and reads pools for the tests. */
final class Pools {
    private Pools() {
    }

    /** A pool whose creditors all stand in the rank, under the rule. */
    static InsolvencyPool inRank(int rank, int rule, int... claims) {
        InsolvencyPool pool = new InsolvencyPool();
        for (int claim : claims) {
            pool.add(claim, rank);
        }
        pool.rule(rank, rule);
        return pool;
    }

    static String shares(InsolvencyPool pool) {
        StringBuilder text = new StringBuilder();
        for (int creditor = 0; creditor < pool.creditors(); creditor++) {
            text.append(creditor == 0 ? "" : " ").append(pool.share(creditor));
        }
        return text.toString();
    }

    /** Pays in unit after unit and tells who takes each, "-" being nobody; next and shares must agree. */
    static String takers(InsolvencyPool pool, int units) {
        StringBuilder text = new StringBuilder();
        for (int unit = 0; unit < units; unit++) {
            int foretold = pool.next();
            int shareBefore = pool.share(foretold);
            pool.estate(1);
            boolean kept = foretold == -1 || pool.share(foretold) == shareBefore + 1;
            text.append(foretold == -1 ? "-" : Integer.toString(foretold)).append(kept ? "" : "?");
        }
        return text.toString();
    }

    /** Every answer that tells of the state, in about 90 calls for 8 creditors. */
    static String view(InsolvencyPool pool) {
        StringBuilder text = new StringBuilder();
        text.append(pool.estate(0)).append(' ').append(pool.creditors()).append(' ').append(pool.left()).append(' ')
                .append(pool.next()).append(' ').append(pool.unpaid()).append(' ').append(pool.worst());
        for (int rank = 0; rank < 4; rank++) {
            text.append(" r").append(pool.claims(rank)).append('/').append(pool.paid(rank));
        }
        for (int creditor = 0; creditor < pool.creditors(); creditor++) {
            text.append(" c").append(pool.claimOf(creditor)).append('/').append(pool.share(creditor));
            text.append('/').append(pool.shareOf(creditor, 50)).append('/').append(pool.shareUnder(creditor, 1));
            text.append('/').append(pool.leastEstate(creditor, 3));
        }
        return text.toString();
    }
}
