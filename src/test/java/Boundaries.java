import java.util.function.ToIntFunction;

/** What the tests of the document's boundary sentences have in common. */
final class Boundaries {
    static final int LEAST = Integer.MIN_VALUE;
    static final int GREATEST = Integer.MAX_VALUE;

    /** The wrong arguments next to the good ones, and the outermost ints. */
    static final int[] WRONG_CLAIMS = {LEAST, -1, 151, GREATEST};
    static final int[] WRONG_RANKS = {LEAST, -1, 4, GREATEST};
    static final int[] WRONG_RULES = {LEAST, -1, 4, GREATEST};
    static final int[] WRONG_AMOUNTS = {LEAST, -1, 1501, GREATEST};

    /** A call with one argument left open. */
    interface Call {
        int on(InsolvencyPool pool, int argument);
    }

    private final Checks checks;

    Boundaries(Checks checks) {
        this.checks = checks;
    }

    static int[] wrongCreditors(int count) {
        return new int[] {LEAST, -1, count, count + 1, 8, 9, GREATEST};
    }

    /** A pool in which ranks, rules, claims and shares all differ; behind its last creditor one was taken out. */
    static InsolvencyPool standing(int count) {
        InsolvencyPool pool = new InsolvencyPool();
        for (int creditor = 0; creditor <= count; creditor++) {
            pool.add(20 + 3 * creditor, creditor % 4);
        }
        if (count < 8) {
            pool.remove(count);
        }
        for (int rank = 0; rank < 4; rank++) {
            pool.rule(rank, 3 - rank);
        }
        pool.estate(100);
        return pool;
    }

    /** All that a pool holds; ranks and rules can only be read by setting them, so they are put back. */
    static String state(InsolvencyPool pool) {
        int count = pool.creditors();
        StringBuilder text = new StringBuilder("estate " + pool.estate(0) + ", rules");
        for (int rank = 0; rank < 4; rank++) {
            int rule = pool.rule(rank, 0);
            pool.rule(rank, rule);
            text.append(' ').append(rule);
        }
        for (int creditor = 0; creditor < count; creditor++) {
            int rank = pool.move(creditor, 0);
            pool.move(creditor, rank);
            text.append(", ").append(pool.claimOf(creditor)).append(" in rank ").append(rank);
        }
        return text.toString();
    }

    /** The call answers what is due and leaves all that the pool holds as it was. */
    void answersAndKeeps(String what, InsolvencyPool pool, ToIntFunction<InsolvencyPool> call, int due) {
        String before = state(pool);
        checks.due(what, call.applyAsInt(pool), due);
        checks.due("what the pool holds after " + what, state(pool), before);
    }

    /** Every one of the arguments is refused with the answer, whether there are few creditors or many. */
    void refuses(String what, int[] wrong, Call call, int due) {
        for (int count : new int[] {1, 7, 8}) {
            for (int argument : wrong) {
                String told = what + " with " + argument + " among " + count;
                answersAndKeeps(told, standing(count), pool -> call.on(pool, argument), due);
            }
        }
    }

    /** A creditor that there is not is refused with -1, whatever the number of creditors. */
    void refusesWrongCreditors(String what, Call call) {
        for (int count = 0; count <= 8; count++) {
            for (int creditor : wrongCreditors(count)) {
                String told = what + " of creditor " + creditor + " among " + count;
                answersAndKeeps(told, standing(count), pool -> call.on(pool, creditor), -1);
            }
            for (int creditor = 0; creditor < count; creditor++) {
                int good = call.on(standing(count), creditor);
                checks.due(what + " of creditor " + creditor + " among " + count + " is not refused", good >= 0, true);
            }
        }
    }
}
