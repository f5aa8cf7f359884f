/** Promises 10 to 13 and 15 to 19: how the estate is shared, and the questions about it. */
public final class SharePromisesTest {
    private static final int EQUAL = InsolvencyPool.EQUAL;
    private static final int LOSSES = InsolvencyPool.LOSSES;
    private static final int SHARES = InsolvencyPool.SHARES;
    private static final int HALVES = InsolvencyPool.HALVES;
    private static final int LEAST = Integer.MIN_VALUE;
    private static final int GREATEST = Integer.MAX_VALUE;
    private static final Checks checks = new Checks();

    public static void main(String[] args) {
        termsOrderOfUnits();
        termsRanks();
        promise10Share();
        promise11ShareOf();
        promise12ShareUnder();
        promise13LeastEstate();
        promise15Paid();
        promise16Left();
        promise17Next();
        promise18Unpaid();
        promise19Worst();
        questionsChangeNothing();
        checks.end();
    }

    private static void termsOrderOfUnits() {
        for (int rank = 0; rank < 4; rank++) {
            String at = " in rank " + rank;
            checks.due("EQUAL" + at, Pools.takers(Pools.inRank(rank, EQUAL, 5, 2, 5), 13), "012012020202-");
            checks.due("LOSSES" + at, Pools.takers(Pools.inRank(rank, LOSSES, 5, 2, 5), 13), "020202012012-");
            checks.due("SHARES" + at, Pools.takers(Pools.inRank(rank, SHARES, 6, 3), 10), "001001001-");
            // 7/2 against 3/1: whole-number division would call them equal.
            checks.due("SHARES exactly" + at, Pools.takers(Pools.inRank(rank, SHARES, 3, 7), 11), "1101101101-");
            checks.due("HALVES" + at, Pools.takers(Pools.inRank(rank, HALVES, 2, 6), 9), "01111101-");
            checks.due("HALVES, odd sum" + at, Pools.takers(Pools.inRank(rank, HALVES, 1, 4), 6), "01111-");
            checks.due("HALVES, odd claims" + at, Pools.takers(Pools.inRank(rank, HALVES, 3, 3), 7), "010101-");
            // Losses begin just at half of the sum: one unit sooner or later would go to another creditor.
            checks.due("HALVES turn" + at, Pools.takers(Pools.inRank(rank, HALVES, 5, 7), 13), "010101110101-");
            String many = Pools.takers(Pools.inRank(rank, HALVES, 9, 3, 3, 3), 19);
            checks.due("HALVES of many" + at, many, "012301230000000123-");
        }
        for (int rule = 0; rule < 4; rule++) {
            checks.due("claims of nothing, rule " + rule, Pools.takers(Pools.inRank(0, rule, 0, 0), 2), "--");
            checks.due("one creditor, rule " + rule, Pools.takers(Pools.inRank(0, rule, 0, 3), 4), "111-");
        }
    }

    private static void termsRanks() {
        InsolvencyPool pool = new InsolvencyPool();
        pool.add(2, 3);
        pool.add(4, 1);
        pool.add(2, 1);
        pool.add(0, 0);
        pool.add(1, 0);
        pool.rule(1, LOSSES);
        checks.due("least rank first", Pools.takers(pool, 10), "411121200-");
        InsolvencyPool halves = new InsolvencyPool();
        halves.add(5, 0);
        halves.add(2, 2);
        halves.add(6, 2);
        halves.rule(2, HALVES);
        checks.due("halves count their own rank alone", Pools.takers(halves, 14), "0000012222212-");
    }

    private static void promise10Share() {
        InsolvencyPool pool = Pools.inRank(0, EQUAL, 100, 40, 70);
        checks.due("10: of nothing", Pools.shares(pool), "0 0 0");
        pool.estate(123);
        checks.due("10: EQUAL", Pools.shares(pool), "42 40 41");
        pool.rule(0, LOSSES);
        checks.due("10: LOSSES", Pools.shares(pool), "71 11 41");
        pool.rule(0, SHARES);
        checks.due("10: SHARES", Pools.shares(pool), "59 23 41");
        pool.rule(0, HALVES);
        checks.due("10: HALVES", Pools.shares(pool), "67 20 36");
        pool.estate(87);
        checks.due("10: just enough", Pools.shares(pool), "100 40 70");
        pool.estate(1290);
        checks.due("10: more than enough", Pools.shares(pool), "100 40 70");
        for (int creditor : new int[] {-1, 3, 7, 8, LEAST, GREATEST}) {
            checks.due("10: of " + creditor, pool.share(creditor), -1);
        }
        pool.remove(2);
        checks.due("10: of one taken out", pool.share(2), -1);
        checks.due("10: of nobody", new InsolvencyPool().share(0), -1);
    }

    private static void promise11ShareOf() {
        InsolvencyPool pool = Pools.inRank(2, LOSSES, 5, 2, 5);
        pool.estate(3);
        int[] second = {0, 0, 0, 0, 0, 0, 0, 0, 1, 1, 1, 2, 2};
        for (int amount = 0; amount < second.length; amount++) {
            checks.due("11: of " + amount, pool.shareOf(1, amount), second[amount]);
        }
        checks.due("11: of the greatest", pool.shareOf(0, 1500), 5);
        checks.due("11: the estate stays", Pools.shares(pool), "2 0 1");
        for (int creditor : new int[] {-1, 3, 8, LEAST, GREATEST}) {
            checks.due("11: creditor " + creditor, pool.shareOf(creditor, 1), -1);
            checks.due("11: creditor before amount " + creditor, pool.shareOf(creditor, -1), -1);
        }
        for (int amount : new int[] {-1, 1501, LEAST, GREATEST}) {
            checks.due("11: amount " + amount, pool.shareOf(0, amount), -2);
        }
    }

    private static void promise12ShareUnder() {
        InsolvencyPool pool = Pools.inRank(1, LOSSES, 100, 40, 70);
        pool.add(10, 0);
        pool.add(9, 0);
        pool.estate(142);
        int[][] due = {{42, 40, 41}, {71, 11, 41}, {59, 23, 41}, {67, 20, 36}};
        for (int rule = 0; rule < 4; rule++) {
            for (int creditor = 0; creditor < 3; creditor++) {
                String what = "12: of " + creditor + " under " + rule;
                checks.due(what, pool.shareUnder(creditor, rule), due[rule][creditor]);
            }
        }
        checks.due("12: the rule stays", pool.rule(1, LOSSES), LOSSES);
        checks.due("12: the shares stay", Pools.shares(pool), "71 11 41 10 9");
        pool.estate(-141);
        checks.due("12: another rank's rule is another's", pool.shareUnder(4, LOSSES), 0);
        for (int creditor : new int[] {-1, 5, 8, LEAST, GREATEST}) {
            checks.due("12: creditor " + creditor, pool.shareUnder(creditor, 0), -1);
            checks.due("12: creditor before rule " + creditor, pool.shareUnder(creditor, 4), -1);
        }
        for (int rule : new int[] {-1, 4, LEAST, GREATEST}) {
            checks.due("12: rule " + rule, pool.shareUnder(0, rule), -2);
        }
    }

    private static void promise13LeastEstate() {
        InsolvencyPool pool = Pools.inRank(2, LOSSES, 5, 2, 5);
        pool.add(0, 0);
        pool.add(150, 3);
        pool.estate(9);
        int[] first = {0, 1, 3, 5, 7, 10};
        for (int x = 0; x < first.length; x++) {
            checks.due("13: for " + x, pool.leastEstate(0, x), first[x]);
        }
        checks.due("13: above the claim", pool.leastEstate(0, 6), -3);
        checks.due("13: far above the claim", pool.leastEstate(0, 150), -3);
        checks.due("13: nothing for a claim of 0", pool.leastEstate(3, 0), 0);
        checks.due("13: something for a claim of 0", pool.leastEstate(3, 1), -3);
        checks.due("13: a later rank", pool.leastEstate(4, 1), 13);
        checks.due("13: the greatest claim", pool.leastEstate(4, 150), 162);
        for (int creditor : new int[] {-1, 5, 8, LEAST, GREATEST}) {
            checks.due("13: creditor " + creditor, pool.leastEstate(creditor, 0), -1);
            checks.due("13: creditor before x " + creditor, pool.leastEstate(creditor, -1), -1);
        }
        for (int x : new int[] {-1, 151, LEAST, GREATEST}) {
            checks.due("13: x " + x, pool.leastEstate(0, x), -2);
        }
        checks.due("13: the estate stays", pool.estate(0), 9);
        InsolvencyPool great = Pools.inRank(0, EQUAL, 150, 150, 150, 150, 150, 150, 150, 150);
        checks.due("13: the last unit of all", great.leastEstate(7, 150), 1200);
    }

    private static void promise15Paid() {
        InsolvencyPool pool = new InsolvencyPool();
        pool.add(10, 1);
        pool.add(20, 0);
        pool.add(30, 1);
        pool.add(40, 3);
        int[][] due = {{0, 0, 0, 0, 0}, {20, 20, 0, 0, 0}, {45, 20, 25, 0, 0}, {61, 20, 40, 0, 1}, {999, 20, 40, 0, 40}};
        for (int[] row : due) {
            pool.estate(row[0] - pool.estate(0));
            for (int rank = 0; rank < 4; rank++) {
                checks.due("15: rank " + rank + " at " + row[0], pool.paid(rank), row[rank + 1]);
            }
        }
        for (int rank : new int[] {-1, 4, LEAST, GREATEST}) {
            checks.due("15: rank " + rank, pool.paid(rank), -1);
        }
    }

    private static void promise16Left() {
        InsolvencyPool pool = new InsolvencyPool();
        pool.estate(1500);
        checks.due("16: nobody", pool.left(), 1500);
        pool.add(0, 0);
        checks.due("16: a claim of 0", pool.left(), 1500);
        pool.change(0, 7);
        checks.due("16: a claim of 7", pool.left(), 1493);
        pool.change(0, 0);
        pool.add(150, 3);
        pool.add(100, 0);
        checks.due("16: two claims", pool.left(), 1250);
        pool.estate(-1249);
        checks.due("16: one too many", pool.left(), 1);
        pool.estate(-1);
        checks.due("16: just enough", pool.left(), 0);
        pool.estate(-1);
        checks.due("16: one too few", pool.left(), 0);
    }

    private static void promise17Next() {
        InsolvencyPool pool = Pools.inRank(1, EQUAL, 2, 1, 2);
        checks.due("17: at first", pool.next(), 0);
        pool.estate(3);
        checks.due("17: in the middle", pool.next(), 0);
        pool.estate(1);
        checks.due("17: the last unit", pool.next(), 2);
        pool.estate(1);
        checks.due("17: nobody", pool.next(), -1);
        pool.add(1, 3);
        checks.due("17: a later rank", pool.next(), 3);
        pool.add(1, 0);
        checks.due("17: an earlier rank has its unit already", pool.next(), 2);
        pool.estate(1495);
        checks.due("17: at the greatest estate", pool.next(), -1);
        checks.due("17: without creditors", new InsolvencyPool().next(), -1);
    }

    private static void promise18Unpaid() {
        InsolvencyPool pool = Pools.inRank(1, EQUAL, 2, 0, 1, 2);
        pool.add(1, 2);
        int[] due = {4, 4, 3, 3, 2, 1, 0, 0};
        for (int estate = 0; estate < due.length; estate++) {
            checks.due("18: at " + estate, pool.unpaid(), due[estate]);
            pool.estate(1);
        }
        checks.due("18: nobody", new InsolvencyPool().unpaid(), 0);
    }

    private static void promise19Worst() {
        InsolvencyPool pool = Pools.inRank(0, EQUAL, 3, 9, 0);
        pool.add(5, 1);
        int[] due = {9, 9, 8, 8, 7, 7, 6, 5, 5, 5, 5, 5, 5, 4, 3, 2, 1, 0, 0};
        for (int estate = 0; estate < due.length; estate++) {
            checks.due("19: at " + estate, pool.worst(), due[estate]);
            pool.estate(1);
        }
        checks.due("19: the first has the greatest", Pools.inRank(2, EQUAL, 9, 8).worst(), 9);
        checks.due("19: nobody", new InsolvencyPool().worst(), 0);
    }

    private static void questionsChangeNothing() {
        InsolvencyPool pool = Pools.inRank(1, HALVES, 10, 60, 150, 0, 5, 33, 70, 41);
        pool.move(4, 0);
        pool.move(7, 3);
        pool.rule(3, LOSSES);
        pool.estate(222);
        String before = Pools.view(pool);
        for (int creditor = -1; creditor < 9; creditor++) {
            pool.shareOf(creditor, 1500);
            pool.leastEstate(creditor, 2);
            for (int rule = 0; rule < 4; rule++) {
                pool.shareUnder(creditor, rule);
            }
        }
        checks.due("questions change nothing", Pools.view(pool), before);
        checks.due("rule of 1 stays", pool.rule(1, 0), HALVES);
        checks.due("rule of 3 stays", pool.rule(3, 0), LOSSES);
    }
}
