/** Long runs of mixed calls, good and wrong, each answer held against the model's. */
public final class RunsAgainstModelTest {
    private static final int RUNS = 400;
    private static final int CALLS = 512;
    private static final int[] ODD = {-1, 4, 8, 151, 1501, -1501, Integer.MIN_VALUE, Integer.MAX_VALUE};
    private static final Checks checks = new Checks();

    private static long seed;
    private static int greatestClaim;

    public static void main(String[] args) {
        int[] claimBounds = {150, 12, 4, 60};
        for (int run = 0; run < RUNS && !checks.anyWrong(); run++) {
            seed = run;
            greatestClaim = claimBounds[run % claimBounds.length];
            oneRun(run);
        }
        afterTheLastCall();
        checks.end();
    }

    private static void oneRun(int run) {
        InsolvencyPool pool = new InsolvencyPool();
        PoolModel model = new PoolModel();
        for (int call = 0; call < CALLS && !checks.anyWrong(); call++) {
            oneCall("run " + run + ", call " + call + ": ", pool, model);
        }
    }

    private static void oneCall(String at, InsolvencyPool p, PoolModel m) {
        int creditor = oddOr(below(m.creditors() + 1));
        int rank = oddOr(below(4));
        int rule = oddOr(below(4));
        int claim = oddOr(below(greatestClaim + 1));
        int delta = oddOr(below(greatestClaim * 6) - greatestClaim * 3);
        int amount = oddOr(below(greatestClaim * 8));
        String two = "(" + creditor + ", ";
        switch (below(25)) {
            case 0, 1, 2 -> checks.due(at + "add(" + claim + ", " + rank + ")", p.add(claim, rank), m.add(claim, rank));
            case 3 -> checks.due(at + "remove(" + creditor + ")", p.remove(creditor), m.remove(creditor));
            case 4 -> checks.due(at + "change" + two + claim + ")", p.change(creditor, claim), m.change(creditor, claim));
            case 5 -> checks.due(at + "move" + two + rank + ")", p.move(creditor, rank), m.move(creditor, rank));
            case 6, 7 -> checks.due(at + "rule(" + rank + ", " + rule + ")", p.rule(rank, rule), m.rule(rank, rule));
            case 8, 9 -> checks.due(at + "estate(" + delta + ")", p.estate(delta), m.estate(delta));
            case 10 -> checks.due(at + "creditors()", p.creditors(), m.creditors());
            case 11 -> checks.due(at + "claimOf(" + creditor + ")", p.claimOf(creditor), m.claimOf(creditor));
            case 12, 13 -> checks.due(at + "share(" + creditor + ")", p.share(creditor), m.share(creditor));
            case 14, 15 ->
                checks.due(at + "shareOf" + two + amount + ")", p.shareOf(creditor, amount), m.shareOf(creditor, amount));
            case 16, 17 ->
                checks.due(at + "shareUnder" + two + rule + ")", p.shareUnder(creditor, rule), m.shareUnder(creditor, rule));
            case 18 -> checks.due(at + "leastEstate" + two + claim + ")",
                    p.leastEstate(creditor, claim), m.leastEstate(creditor, claim));
            case 19 -> checks.due(at + "claims(" + rank + ")", p.claims(rank), m.claims(rank));
            case 20 -> checks.due(at + "paid(" + rank + ")", p.paid(rank), m.paid(rank));
            case 21 -> checks.due(at + "left()", p.left(), m.left());
            case 22 -> checks.due(at + "next()", p.next(), m.next());
            case 23 -> checks.due(at + "unpaid()", p.unpaid(), m.unpaid());
            default -> checks.due(at + "worst()", p.worst(), m.worst());
        }
    }

    /** What a later call answers is free, but it must end and not throw. */
    private static void afterTheLastCall() {
        InsolvencyPool pool = new InsolvencyPool();
        for (int call = 0; call < 5000; call++) {
            int one = oddOr(below(9));
            int other = oddOr(below(151));
            pool.add(other, one);
            pool.change(one, other);
            pool.move(one, oddOr(below(4)));
            pool.rule(one, oddOr(below(4)));
            pool.estate(other);
            pool.shareOf(one, other);
            pool.shareUnder(one, oddOr(below(4)));
            pool.leastEstate(one, other);
            pool.paid(one);
            pool.next();
            if (call % 8 == 0) {
                pool.remove(one);
            }
        }
        checks.due("an object after its last call still counts its creditors", pool.creditors() <= 8, true);
    }

    private static int oddOr(int usual) {
        return below(16) == 0 ? ODD[below(ODD.length)] : usual;
    }

    /** A fixed sequence for each seed, so that every run of the test is the same. */
    private static int below(int bound) {
        seed = seed * 6364136223846793005L + 1442695040888963407L;
        return (int) ((seed >>> 33) % bound);
    }
}
