/** Promises 1 to 9 and 14: what is put in, changed, taken out and read back. */
public final class BookPromisesTest {
    private static final int LEAST = Integer.MIN_VALUE;
    private static final int GREATEST = Integer.MAX_VALUE;
    private static final Checks checks = new Checks();

    public static void main(String[] args) {
        promise1NewObject();
        promise2Add();
        promise2TestsInOrder();
        promise3Remove();
        promise4Change();
        promise5Move();
        promise6Rule();
        promise7Estate();
        promise8Creditors();
        promise9ClaimOf();
        promise14Claims();
        refusedCallsChangeNothing();
        checks.end();
    }

    private static void promise1NewObject() {
        InsolvencyPool pool = new InsolvencyPool();
        checks.due("1: creditors", pool.creditors(), 0);
        checks.due("1: estate(0)", pool.estate(0), 0);
        checks.due("1: claimOf(0)", pool.claimOf(0), -1);
        checks.due("1: left", pool.left(), 0);
        checks.due("1: next", pool.next(), -1);
        checks.due("1: unpaid", pool.unpaid(), 0);
        checks.due("1: worst", pool.worst(), 0);
        for (int rank = 0; rank < 4; rank++) {
            checks.due("1: claims " + rank, pool.claims(rank), 0);
            checks.due("1: paid " + rank, pool.paid(rank), 0);
            checks.due("1: first rule of " + rank, pool.rule(rank, InsolvencyPool.HALVES), InsolvencyPool.EQUAL);
        }
        InsolvencyPool other = new InsolvencyPool();
        pool.add(5, 0);
        checks.due("1: another object stays empty", other.creditors(), 0);
        checks.due("1: another object keeps its rules", other.rule(0, 0), 0);
    }

    private static void promise2Add() {
        InsolvencyPool pool = new InsolvencyPool();
        int[] claims = {0, 150, 1, 149, 75, 75, 3, 2};
        for (int creditor = 0; creditor < 8; creditor++) {
            checks.due("2: add " + creditor, pool.add(claims[creditor], creditor % 4), creditor);
        }
        for (int creditor = 0; creditor < 8; creditor++) {
            checks.due("2: claim of " + creditor, pool.claimOf(creditor), claims[creditor]);
            checks.due("2: rank of " + creditor, pool.move(creditor, 0), creditor % 4);
        }
        checks.due("2: a ninth", pool.add(1, 0), -3);
        checks.due("2: creditors", pool.creditors(), 8);
        pool.remove(3);
        checks.due("2: after a removal", pool.add(9, 2), 7);
        checks.due("2: claim after a removal", pool.claimOf(7), 9);
    }

    private static void promise2TestsInOrder() {
        InsolvencyPool pool = new InsolvencyPool();
        for (int claim : new int[] {-1, 151, LEAST, GREATEST}) {
            checks.due("2: add claim " + claim, pool.add(claim, 0), -1);
            checks.due("2: claim before rank " + claim, pool.add(claim, 9), -1);
        }
        for (int rank : new int[] {-1, 4, LEAST, GREATEST}) {
            checks.due("2: add rank " + rank, pool.add(1, rank), -2);
        }
        checks.due("2: none went in", pool.creditors(), 0);
        InsolvencyPool full = Pools.inRank(0, 0, 1, 1, 1, 1, 1, 1, 1, 1);
        checks.due("2: full, claim first", full.add(151, 4), -1);
        checks.due("2: full, then rank", full.add(150, 4), -2);
        checks.due("2: full", full.add(150, 3), -3);
    }

    private static void promise3Remove() {
        InsolvencyPool pool = new InsolvencyPool();
        checks.due("3: from none", pool.remove(0), -1);
        for (int creditor = 0; creditor < 8; creditor++) {
            pool.add(10 + creditor, creditor % 4);
        }
        checks.due("3: first", pool.remove(0), 7);
        checks.due("3: middle", pool.remove(2), 6);
        checks.due("3: last", pool.remove(5), 5);
        int[] stay = {1, 2, 4, 5, 6};
        for (int creditor = 0; creditor < 5; creditor++) {
            checks.due("3: claim moved to " + creditor, pool.claimOf(creditor), 10 + stay[creditor]);
            checks.due("3: rank moved to " + creditor, pool.move(creditor, 0), stay[creditor] % 4);
        }
        for (int creditor : new int[] {-1, 5, 8, LEAST, GREATEST}) {
            checks.due("3: remove " + creditor, pool.remove(creditor), -1);
        }
        for (int count = 4; count >= 0; count--) {
            checks.due("3: down to " + count, pool.remove(0), count);
        }
        checks.due("3: nothing claimed", pool.claims(0), 0);
        InsolvencyPool ruled = Pools.inRank(2, InsolvencyPool.SHARES, 5);
        ruled.estate(4);
        ruled.remove(0);
        checks.due("3: the estate stays", ruled.left(), 4);
        checks.due("3: the rule stays", ruled.rule(2, 0), InsolvencyPool.SHARES);
    }

    private static void promise4Change() {
        InsolvencyPool pool = Pools.inRank(1, 0, 20, 30);
        checks.due("4: change", pool.change(0, 150), 20);
        checks.due("4: change again", pool.change(0, 0), 150);
        checks.due("4: read back", pool.claimOf(0), 0);
        checks.due("4: the other", pool.claimOf(1), 30);
        checks.due("4: the rank stays", pool.move(0, 1), 1);
        for (int creditor : new int[] {-1, 2, 8, LEAST, GREATEST}) {
            checks.due("4: creditor " + creditor, pool.change(creditor, 1), -1);
            checks.due("4: creditor before claim " + creditor, pool.change(creditor, 151), -1);
        }
        for (int claim : new int[] {-1, 151, LEAST, GREATEST}) {
            checks.due("4: claim " + claim, pool.change(1, claim), -2);
        }
        checks.due("4: refused changes nothing", pool.claimOf(1), 30);
    }

    private static void promise5Move() {
        InsolvencyPool pool = Pools.inRank(1, 0, 20, 30);
        checks.due("5: move", pool.move(0, 3), 1);
        checks.due("5: move again", pool.move(0, 0), 3);
        checks.due("5: claims of 0", pool.claims(0), 20);
        checks.due("5: claims of 1", pool.claims(1), 30);
        checks.due("5: claims of 3", pool.claims(3), 0);
        for (int creditor : new int[] {-1, 2, 8, LEAST, GREATEST}) {
            checks.due("5: creditor " + creditor, pool.move(creditor, 1), -1);
            checks.due("5: creditor before rank " + creditor, pool.move(creditor, 4), -1);
        }
        for (int rank : new int[] {-1, 4, LEAST, GREATEST}) {
            checks.due("5: rank " + rank, pool.move(1, rank), -2);
        }
        checks.due("5: refused changes nothing", pool.move(1, 1), 1);
    }

    private static void promise6Rule() {
        InsolvencyPool pool = new InsolvencyPool();
        for (int rank = 0; rank < 4; rank++) {
            checks.due("6: set " + rank, pool.rule(rank, 3 - rank), 0);
        }
        for (int rank = 0; rank < 4; rank++) {
            checks.due("6: set again " + rank, pool.rule(rank, rank), 3 - rank);
        }
        for (int rank : new int[] {-1, 4, LEAST, GREATEST}) {
            checks.due("6: rank " + rank, pool.rule(rank, 0), -1);
            checks.due("6: rank before rule " + rank, pool.rule(rank, 4), -1);
        }
        for (int rule : new int[] {-1, 4, LEAST, GREATEST}) {
            checks.due("6: rule " + rule, pool.rule(3, rule), -2);
        }
        for (int rank = 0; rank < 4; rank++) {
            checks.due("6: refused changes nothing " + rank, pool.rule(rank, 0), rank);
        }
    }

    private static void promise7Estate() {
        InsolvencyPool pool = new InsolvencyPool();
        checks.due("7: below none", pool.estate(-1), -1);
        checks.due("7: above all", pool.estate(1501), -1);
        checks.due("7: all at once", pool.estate(1500), 1500);
        for (int delta : new int[] {1, -1501, LEAST, LEAST + 1, GREATEST}) {
            checks.due("7: full, by " + delta, pool.estate(delta), -1);
        }
        checks.due("7: by nothing", pool.estate(0), 1500);
        checks.due("7: less", pool.estate(-700), 800);
        for (int delta : new int[] {701, -801, LEAST, GREATEST}) {
            checks.due("7: at 800, by " + delta, pool.estate(delta), -1);
        }
        checks.due("7: to the top", pool.estate(700), 1500);
        checks.due("7: to the bottom", pool.estate(-1500), 0);
        checks.due("7: left", pool.left(), 0);
        for (int delta : new int[] {LEAST, GREATEST}) {
            checks.due("7: at 0, by " + delta, pool.estate(delta), -1);
        }
    }

    private static void promise8Creditors() {
        InsolvencyPool pool = new InsolvencyPool();
        for (int count = 1; count <= 8; count++) {
            pool.add(0, 3);
            checks.due("8: creditors", pool.creditors(), count);
        }
        pool.add(0, 3);
        checks.due("8: after a refusal", pool.creditors(), 8);
        pool.remove(4);
        checks.due("8: after a removal", pool.creditors(), 7);
    }

    private static void promise9ClaimOf() {
        InsolvencyPool pool = Pools.inRank(0, 0, 0, 150, 7);
        pool.estate(100);
        checks.due("9: claim of 0", pool.claimOf(0), 0);
        checks.due("9: claim of 1", pool.claimOf(1), 150);
        checks.due("9: claim of 2", pool.claimOf(2), 7);
        for (int creditor : new int[] {-1, 3, 7, 8, LEAST, GREATEST}) {
            checks.due("9: claim of " + creditor, pool.claimOf(creditor), -1);
        }
        pool.remove(2);
        checks.due("9: claim of one taken out", pool.claimOf(2), -1);
    }

    private static void promise14Claims() {
        InsolvencyPool pool = new InsolvencyPool();
        for (int creditor = 0; creditor < 7; creditor++) {
            pool.add(1 << creditor, creditor % 3);
        }
        checks.due("14: claims of 0", pool.claims(0), 1 + 8 + 64);
        checks.due("14: claims of 1", pool.claims(1), 2 + 16);
        checks.due("14: claims of 2", pool.claims(2), 4 + 32);
        checks.due("14: claims of 3", pool.claims(3), 0);
        pool.remove(3);
        checks.due("14: after a removal", pool.claims(0), 1 + 64);
        for (int rank : new int[] {-1, 4, LEAST, GREATEST}) {
            checks.due("14: claims of " + rank, pool.claims(rank), -1);
        }
        InsolvencyPool great = Pools.inRank(3, 0, 150, 150, 150, 150, 150, 150, 150, 150);
        checks.due("14: the greatest sum", great.claims(3), 1200);
    }

    private static void refusedCallsChangeNothing() {
        InsolvencyPool pool = Pools.inRank(1, InsolvencyPool.SHARES, 10, 60, 150, 0, 5, 33, 70, 41);
        pool.move(4, 0);
        pool.move(7, 3);
        pool.estate(222);
        String before = Pools.view(pool);
        for (int wrong : new int[] {-1, 1501, LEAST, GREATEST}) {
            pool.add(wrong, 0);
            pool.add(1, wrong);
            pool.add(1, 1);
            pool.remove(wrong);
            pool.change(wrong, 1);
            pool.change(1, wrong);
            pool.move(wrong, 1);
            pool.move(1, wrong);
            pool.rule(wrong, 1);
            pool.rule(1, wrong);
            pool.shareOf(1, wrong);
            pool.shareUnder(1, wrong);
            pool.leastEstate(1, wrong);
        }
        pool.estate(1500);
        pool.estate(-223);
        checks.due("refused calls change nothing", Pools.view(pool), before);
    }
}
