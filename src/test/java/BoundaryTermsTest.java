/**
 * Every sentence of the document's section "Terms" that names a boundary, each in a method of its own with the
 * sentence above it. The promises' own sentences are in BoundaryPromisesTest.
 */
public final class BoundaryTermsTest {
    private static final int EQUAL = InsolvencyPool.EQUAL;
    private static final int LOSSES = InsolvencyPool.LOSSES;
    private static final int SHARES = InsolvencyPool.SHARES;
    private static final int HALVES = InsolvencyPool.HALVES;
    private static final Checks checks = new Checks();
    private static final Boundaries at = new Boundaries(checks);

    public static void main(String[] args) {
        atMostFiveHundredAndTwelveCalls();
        atMostEightCreditors();
        numberedInTheirOrder();
        claimFrom0To150();
        rankFrom0To3();
        ruleEqualAtFirst();
        estateFrom0To1500();
        estate0AtFirst();
        leastRankWithRoom();
        noSuchRank();
        onlyOpenCreditors();
        leastNumberAmongEquals();
        equalRule();
        lossesRule();
        sharesRule();
        sharesAsExactFractions();
        halvesWhileLessThanTheSum();
        halvesCountTheRankAlone();
        halvesTwiceReceivedLessThanTheClaim();
        halvesAfterwards();
        shareAfterTheWholeEstate();
        noQuestionChangesAnything();
        refusedCallChangesNothing();
        testsInTheOrderNamed();
        goodCreditor();
        goodRank();
        goodRule();
        checks.end();
    }

    /** "An object is used for at most 512 calls after it has been made" */
    private static void atMostFiveHundredAndTwelveCalls() {
        InsolvencyPool pool = new InsolvencyPool();
        pool.add(150, 0);
        pool.add(150, 0);
        for (int call = 3; call <= 510; call++) {
            pool.estate(call % 2 == 0 ? -1 : 2);
        }
        checks.due("the 511th call", pool.estate(0), 254);
        checks.due("the 512th call", pool.share(1), 127);
    }

    /** "There are at most 8 CREDITORS" */
    private static void atMostEightCreditors() {
        InsolvencyPool pool = new InsolvencyPool();
        for (int creditor = 0; creditor < 8; creditor++) {
            checks.due("add of creditor " + creditor, pool.add(1, 0), creditor);
        }
        checks.due("add of a ninth", pool.add(1, 0), -3);
        checks.due("creditors after the ninth", pool.creditors(), 8);
        pool.remove(7);
        checks.due("add when one is gone", pool.add(1, 0), 7);
        checks.due("add of a ninth again", pool.add(1, 0), -3);
    }

    /** "numbered 0, 1, 2, .. in their order" */
    private static void numberedInTheirOrder() {
        InsolvencyPool pool = new InsolvencyPool();
        for (int creditor = 0; creditor < 8; creditor++) {
            pool.add(8 - creditor, 3 - creditor % 4);
        }
        for (int creditor = 0; creditor < 8; creditor++) {
            checks.due("claim of the one put in as " + creditor, pool.claimOf(creditor), 8 - creditor);
        }
        pool.move(2, 3);
        pool.change(5, 150);
        checks.due("claim of 2 after it moved", pool.claimOf(2), 6);
        checks.due("claim of 4 beside one that changed", pool.claimOf(4), 4);
        checks.due("claim of 6 beside one that changed", pool.claimOf(6), 2);
    }

    /** "A creditor has a CLAIM 0 .. 150" */
    private static void claimFrom0To150() {
        InsolvencyPool pool = new InsolvencyPool();
        checks.due("add claim 0", pool.add(0, 0), 0);
        checks.due("add claim 150", pool.add(150, 0), 1);
        checks.due("add claim -1", pool.add(-1, 0), -1);
        checks.due("add claim 151", pool.add(151, 0), -1);
        checks.due("change 0 to 150", pool.change(0, 150), 0);
        checks.due("change 150 to 0", pool.change(1, 0), 150);
        checks.due("change to -1", pool.change(0, -1), -2);
        checks.due("change to 151", pool.change(0, 151), -2);
        pool.estate(1500);
        checks.due("share of the claim 150", pool.share(0), 150);
        checks.due("share of the claim 0", pool.share(1), 0);
    }

    /** "and a RANK 0 .. 3" */
    private static void rankFrom0To3() {
        InsolvencyPool pool = new InsolvencyPool();
        checks.due("add rank 0", pool.add(1, 0), 0);
        checks.due("add rank 3", pool.add(2, 3), 1);
        checks.due("add rank -1", pool.add(1, -1), -2);
        checks.due("add rank 4", pool.add(1, 4), -2);
        checks.due("move 0 to 3", pool.move(0, 3), 0);
        checks.due("move 3 to 0", pool.move(1, 0), 3);
        checks.due("move to -1", pool.move(0, -1), -2);
        checks.due("move to 4", pool.move(0, 4), -2);
        checks.due("claims of rank 0", pool.claims(0), 2);
        checks.due("claims of rank 3", pool.claims(3), 1);
    }

    /** "Every rank has a RULE, EQUAL 0 at first." */
    private static void ruleEqualAtFirst() {
        for (int rank = 0; rank < 4; rank++) {
            InsolvencyPool pool = new InsolvencyPool();
            pool.add(9, rank);
            pool.add(2, rank);
            checks.due("units of rank " + rank + " at first", Pools.takers(pool, 12), "01010000000-");
            checks.due("rule of rank " + rank + " at first", pool.rule(rank, HALVES), EQUAL);
        }
    }

    /** "THE ESTATE is a number 0 .. 1500" */
    private static void estateFrom0To1500() {
        InsolvencyPool pool = new InsolvencyPool();
        checks.due("estate below 0", pool.estate(-1), -1);
        checks.due("estate to 1500", pool.estate(1500), 1500);
        checks.due("estate above 1500", pool.estate(1), -1);
        checks.due("estate back to 0", pool.estate(-1500), 0);
        checks.due("estate to 1501 at once", pool.estate(1501), -1);
        checks.due("estate after refusals", pool.estate(0), 0);
    }

    /** "THE ESTATE is a number 0 .. 1500, 0 at first" */
    private static void estate0AtFirst() {
        checks.due("estate of a new object", new InsolvencyPool().estate(0), 0);
        checks.due("left of a new object", new InsolvencyPool().left(), 0);
        checks.due("share of the first estate", Pools.inRank(0, EQUAL, 150).share(0), 0);
    }

    /** "a unit goes to the least rank in which some creditor has received less than the claim" */
    private static void leastRankWithRoom() {
        InsolvencyPool pool = new InsolvencyPool();
        for (int rank = 3; rank >= 0; rank--) {
            pool.add(2, rank);
        }
        checks.due("units of four ranks", Pools.takers(pool, 9), "33221100-");
        InsolvencyPool claimless = new InsolvencyPool();
        claimless.add(1, 3);
        claimless.add(0, 0);
        claimless.add(1, 2);
        checks.due("units past a rank of claims 0 and an empty rank", Pools.takers(claimless, 3), "20-");
        InsolvencyPool some = new InsolvencyPool();
        some.add(1, 1);
        some.add(1, 0);
        some.add(3, 0);
        checks.due("units while one in the rank has room", Pools.takers(some, 6), "12220-");
    }

    /** "if there is no such rank, it and all later ones are left over" */
    private static void noSuchRank() {
        InsolvencyPool nobody = new InsolvencyPool();
        checks.due("units without creditors", Pools.takers(nobody, 3), "---");
        checks.due("left without creditors", nobody.left(), 3);
        for (int rule = EQUAL; rule <= HALVES; rule++) {
            InsolvencyPool claimless = Pools.inRank(3, rule, 0, 0);
            checks.due("units for claims 0 under " + rule, Pools.takers(claimless, 3), "---");
            checks.due("left beside claims 0 under " + rule, claimless.left(), 3);
            InsolvencyPool paid = Pools.inRank(3, rule, 1, 1);
            checks.due("units beyond the claims under " + rule, Pools.takers(paid, 5), "01---");
            checks.due("left beyond the claims under " + rule, paid.left(), 3);
            checks.due("shares beyond the claims under " + rule, Pools.shares(paid), "1 1");
        }
    }

    /** "the unit goes to one of the OPEN creditors of the rank (those who have received less than the claim)" */
    private static void onlyOpenCreditors() {
        checks.due("EQUAL", Pools.takers(Pools.inRank(0, EQUAL, 0, 1, 3), 5), "1222-");
        checks.due("LOSSES", Pools.takers(Pools.inRank(0, LOSSES, 0, 1, 3), 5), "2212-");
        checks.due("SHARES", Pools.takers(Pools.inRank(0, SHARES, 0, 1, 3), 5), "2212-");
        checks.due("HALVES", Pools.takers(Pools.inRank(0, HALVES, 0, 1, 3), 5), "1222-");
        InsolvencyPool pool = Pools.inRank(1, EQUAL, 2, 2);
        pool.add(2, 2);
        checks.due("of the rank alone", Pools.takers(pool, 7), "010122-");
    }

    /** "among those who are equal under the rule to the one with the least number" */
    private static void leastNumberAmongEquals() {
        for (int rule = EQUAL; rule <= HALVES; rule++) {
            InsolvencyPool pool = Pools.inRank(2, rule, 2, 2, 2);
            checks.due("equals under " + rule, Pools.takers(pool, 7), "012012-");
            InsolvencyPool fewer = Pools.inRank(2, rule, 1, 2, 2);
            fewer.remove(0);
            checks.due("equals with numbers less by one under " + rule, Pools.takers(fewer, 5), "0101-");
            InsolvencyPool moved = Pools.inRank(2, rule, 2, 2);
            moved.move(0, 1);
            moved.move(0, 2);
            checks.due("equals after a move under " + rule, Pools.takers(moved, 5), "0101-");
        }
        checks.due("equal losses of other claims", Pools.takers(Pools.inRank(0, LOSSES, 1, 2), 4), "101-");
        checks.due("equal fractions of other claims", Pools.takers(Pools.inRank(0, SHARES, 1, 2), 4), "101-");
    }

    /** "EQUAL 0: the one who has received least so far." */
    private static void equalRule() {
        checks.due("EQUAL", Pools.takers(Pools.inRank(1, EQUAL, 3, 1, 2), 7), "012020-");
    }

    /** "LOSSES 1: the one whose claim minus what was received is greatest." */
    private static void lossesRule() {
        checks.due("LOSSES", Pools.takers(Pools.inRank(1, LOSSES, 3, 1, 2), 7), "002012-");
    }

    /** "SHARES 2: the one for whom claim / (received + 1) is greatest" */
    private static void sharesRule() {
        checks.due("SHARES", Pools.takers(Pools.inRank(1, SHARES, 5, 1, 2), 9), "00200012-");
    }

    /** "(compared as exact fractions)" */
    private static void sharesAsExactFractions() {
        checks.due("50/1 = 100/2 = 150/3", Pools.takers(Pools.inRank(0, SHARES, 50, 100, 150), 6), "212012");
        checks.due("7/2 > 3/1", Pools.takers(Pools.inRank(0, SHARES, 3, 7), 3), "110");
        nextAfter("149/75 > 147/74", 147, Pools.inRank(0, SHARES, 147, 149), 1);
        nextAfter("147/74 > 149/76", 148, Pools.inRank(0, SHARES, 147, 149), 0);
        nextAfter("149/148 > 150/149", 295, Pools.inRank(0, SHARES, 150, 149), 1);
        nextAfter("150/149 > 149/149", 296, Pools.inRank(0, SHARES, 150, 149), 0);
        nextAfter("150/150 = 149/149", 297, Pools.inRank(0, SHARES, 150, 149), 0);
        nextAfter("149/149 alone", 298, Pools.inRank(0, SHARES, 150, 149), 1);
    }

    private static void nextAfter(String what, int units, InsolvencyPool pool, int due) {
        pool.estate(units);
        checks.due(what + ": next", pool.next(), due);
    }

    /** "while twice the number of units that the rank has received so far is less than the sum of the rank's claims" */
    private static void halvesWhileLessThanTheSum() {
        // In both, the small claims would go on under the first part, and the great one alone under the second.
        checks.due("an even sum", Pools.takers(Pools.inRank(0, HALVES, 4, 1, 1, 1, 1), 9), "01230004-");
        checks.due("an odd sum", Pools.takers(Pools.inRank(0, HALVES, 3, 1, 1, 1, 1), 8), "0123004-");
        checks.due("the sum 0", Pools.takers(Pools.inRank(0, HALVES, 0), 1), "-");
        checks.due("the sum 1", Pools.takers(Pools.inRank(0, HALVES, 0, 1), 2), "1-");
        checks.due("the sum 2", Pools.takers(Pools.inRank(0, HALVES, 1, 1), 3), "01-");
        InsolvencyPool great = Pools.inRank(0, HALVES, 150, 150, 150, 150, 150, 150, 150, 150);
        checks.due("the greatest sum, half", great.shareOf(7, 600), 75);
        checks.due("the greatest sum, one less", great.shareOf(7, 599), 74);
        checks.due("the greatest sum, one more", great.shareOf(0, 601), 76);
    }

    /** "units that the rank has received so far", "the sum of the rank's claims" */
    private static void halvesCountTheRankAlone() {
        InsolvencyPool pool = new InsolvencyPool();
        pool.add(9, 1);
        for (int claim : new int[] {4, 1, 1, 1, 1}) {
            pool.add(claim, 2);
        }
        pool.add(9, 3);
        pool.rule(2, HALVES);
        checks.due("halves between other ranks", Pools.takers(pool, 27), "000000000" + "12341115" + "666666666-");
    }

    /**
     * "the one who has received least among the rank's creditors for whom twice what was received is less than the
     * claim"
     */
    private static void halvesTwiceReceivedLessThanTheClaim() {
        checks.due("claims 2, 3, 5", Pools.takers(Pools.inRank(0, HALVES, 2, 3, 5), 11), "0121222012-");
        checks.due("claims 1, 8", Pools.takers(Pools.inRank(0, HALVES, 1, 8), 10), "011111111-");
        checks.due("claims 0, 2, 8", Pools.takers(Pools.inRank(0, HALVES, 0, 2, 8), 11), "1222222212-");
    }

    /** "afterwards: as under LOSSES" */
    private static void halvesAfterwards() {
        checks.due("claims 5, 7", Pools.takers(Pools.inRank(0, HALVES, 5, 7), 13), "010101110101-");
        checks.due("claims 3, 1, 2", Pools.takers(Pools.inRank(0, HALVES, 3, 1, 2), 7), "012002-");
    }

    /** "A creditor's SHARE is what the creditor has received after the estate has been shared." */
    private static void shareAfterTheWholeEstate() {
        InsolvencyPool pool = Pools.inRank(0, EQUAL, 2, 1);
        String[] due = {"0 0", "1 0", "1 1", "2 1", "2 1"};
        for (int estate = 0; estate < due.length; estate++) {
            checks.due("shares of " + estate, Pools.shares(pool), due[estate]);
            pool.estate(1);
        }
        pool.estate(-5);
        checks.due("shares when the estate is taken away", Pools.shares(pool), "0 0");
        pool.estate(2);
        pool.change(0, 0);
        checks.due("shares when the claim is taken away", Pools.shares(pool), "0 1");
    }

    /** "No question changes anything." */
    private static void noQuestionChangesAnything() {
        at.answersAndKeeps("creditors", Boundaries.standing(8), pool -> pool.creditors(), 8);
        at.answersAndKeeps("claimOf", Boundaries.standing(8), pool -> pool.claimOf(7), 41);
        at.answersAndKeeps("share", Boundaries.standing(8), pool -> pool.share(5), 29);
        at.answersAndKeeps("shareOf", Boundaries.standing(8), pool -> pool.shareOf(7, 1500), 41);
        at.answersAndKeeps("shareUnder EQUAL", Boundaries.standing(8), pool -> pool.shareUnder(1, EQUAL), 23);
        at.answersAndKeeps("shareUnder LOSSES", Boundaries.standing(8), pool -> pool.shareUnder(1, LOSSES), 18);
        at.answersAndKeeps("shareUnder SHARES", Boundaries.standing(8), pool -> pool.shareUnder(1, SHARES), 19);
        at.answersAndKeeps("shareUnder HALVES", Boundaries.standing(8), pool -> pool.shareUnder(1, HALVES), 18);
        at.answersAndKeeps("leastEstate", Boundaries.standing(8), pool -> pool.leastEstate(7, 41), 244);
        at.answersAndKeeps("leastEstate, none", Boundaries.standing(8), pool -> pool.leastEstate(7, 42), -3);
        at.answersAndKeeps("claims", Boundaries.standing(8), pool -> pool.claims(0), 52);
        at.answersAndKeeps("paid", Boundaries.standing(8), pool -> pool.paid(1), 48);
        at.answersAndKeeps("left", Boundaries.standing(8), pool -> pool.left(), 0);
        at.answersAndKeeps("next", Boundaries.standing(8), pool -> pool.next(), 5);
        at.answersAndKeeps("unpaid", Boundaries.standing(8), pool -> pool.unpaid(), 6);
        at.answersAndKeeps("worst", Boundaries.standing(8), pool -> pool.worst(), 41);
        askedInAnyOrder();
    }

    private static void askedInAnyOrder() {
        InsolvencyPool pool = Boundaries.standing(8);
        String before = Pools.view(pool);
        pool.shareOf(0, 1500);
        pool.leastEstate(7, 150);
        pool.shareUnder(1, EQUAL);
        checks.due("every answer after other questions", Pools.view(pool), before);
    }

    /** "A refused call changes nothing." Those refused for one argument are in BoundaryPromisesTest. */
    private static void refusedCallChangesNothing() {
        at.answersAndKeeps("add to 8", Boundaries.standing(8), pool -> pool.add(1, 0), -3);
        at.answersAndKeeps("add claim 151", Boundaries.standing(7), pool -> pool.add(151, 0), -1);
        at.answersAndKeeps("add rank 4", Boundaries.standing(7), pool -> pool.add(1, 4), -2);
        at.answersAndKeeps("remove 7", Boundaries.standing(7), pool -> pool.remove(7), -1);
        at.answersAndKeeps("change 7", Boundaries.standing(7), pool -> pool.change(7, 1), -1);
        at.answersAndKeeps("change to 151", Boundaries.standing(7), pool -> pool.change(6, 151), -2);
        at.answersAndKeeps("move 7", Boundaries.standing(7), pool -> pool.move(7, 1), -1);
        at.answersAndKeeps("move to 4", Boundaries.standing(7), pool -> pool.move(6, 4), -2);
        at.answersAndKeeps("rule of 4", Boundaries.standing(7), pool -> pool.rule(4, 1), -1);
        at.answersAndKeeps("rule 4", Boundaries.standing(7), pool -> pool.rule(3, 4), -2);
        at.answersAndKeeps("estate by -101", Boundaries.standing(7), pool -> pool.estate(-101), -1);
        at.answersAndKeeps("estate by 1401", Boundaries.standing(7), pool -> pool.estate(1401), -1);
        at.answersAndKeeps("shareUnder 4", Boundaries.standing(7), pool -> pool.shareUnder(6, 4), -2);
        refusedAddLeavesNoTrace();
    }

    /** What a refused add brought must not come to light when a good one follows. */
    private static void refusedAddLeavesNoTrace() {
        InsolvencyPool pool = new InsolvencyPool();
        pool.add(99, 4);
        pool.add(151, 2);
        checks.due("add after refused ones", pool.add(5, 1), 0);
        checks.due("claim after refused ones", pool.claimOf(0), 5);
        checks.due("rank after refused ones", pool.move(0, 1), 1);
    }

    /** "In every method the tests are made in the order named" */
    private static void testsInTheOrderNamed() {
        at.answersAndKeeps("add, all three wrong", Boundaries.standing(8), pool -> pool.add(151, 4), -1);
        at.answersAndKeeps("add, claim and room wrong", Boundaries.standing(8), pool -> pool.add(-1, 3), -1);
        at.answersAndKeeps("add, claim and rank wrong", Boundaries.standing(0), pool -> pool.add(-1, -1), -1);
        at.answersAndKeeps("add, rank and room wrong", Boundaries.standing(8), pool -> pool.add(150, -1), -2);
        at.answersAndKeeps("add, room wrong", Boundaries.standing(8), pool -> pool.add(150, 3), -3);
        at.refuses("rule, both wrong", Boundaries.WRONG_RANKS, (pool, rank) -> pool.rule(rank, 4), -1);
        for (int wrong : Boundaries.wrongCreditors(3)) {
            String of = " of creditor " + wrong + ", both wrong";
            at.answersAndKeeps("change" + of, Boundaries.standing(3), pool -> pool.change(wrong, 151), -1);
            at.answersAndKeeps("move" + of, Boundaries.standing(3), pool -> pool.move(wrong, 4), -1);
            at.answersAndKeeps("shareOf" + of, Boundaries.standing(3), pool -> pool.shareOf(wrong, 1501), -1);
            at.answersAndKeeps("shareUnder" + of, Boundaries.standing(3), pool -> pool.shareUnder(wrong, 4), -1);
            at.answersAndKeeps("leastEstate" + of, Boundaries.standing(3), pool -> pool.leastEstate(wrong, 151), -1);
        }
    }

    /** "a creditor is good if there is such a creditor" */
    private static void goodCreditor() {
        for (int count = 0; count <= 8; count++) {
            for (int creditor = -1; creditor <= 9; creditor++) {
                boolean there = creditor >= 0 && creditor < count;
                int due = there ? 20 + 3 * creditor : -1;
                InsolvencyPool pool = Boundaries.standing(count);
                checks.due("claimOf(" + creditor + ") among " + count, pool.claimOf(creditor), due);
            }
        }
        InsolvencyPool pool = Boundaries.standing(8);
        pool.remove(0);
        checks.due("the last number after a removal", pool.claimOf(7), -1);
        pool.add(1, 1);
        checks.due("the last number put in again", pool.claimOf(7), 1);
    }

    /** "a rank if it is 0 .. 3" */
    private static void goodRank() {
        for (int rank = -1; rank <= 4; rank++) {
            boolean good = rank >= 0 && rank <= 3;
            checks.due("claims of rank " + rank, new InsolvencyPool().claims(rank), good ? 0 : -1);
            checks.due("paid of rank " + rank, new InsolvencyPool().paid(rank), good ? 0 : -1);
            checks.due("add to rank " + rank, new InsolvencyPool().add(1, rank), good ? 0 : -2);
            checks.due("move to rank " + rank, Pools.inRank(1, EQUAL, 1).move(0, rank), good ? 1 : -2);
            checks.due("rule of rank " + rank, new InsolvencyPool().rule(rank, LOSSES), good ? 0 : -1);
        }
    }

    /** "a rule if it is 0 .. 3" */
    private static void goodRule() {
        for (int rule = -1; rule <= 4; rule++) {
            boolean good = rule >= 0 && rule <= 3;
            checks.due("rule " + rule, Pools.inRank(0, SHARES, 1).rule(0, rule), good ? SHARES : -2);
            InsolvencyPool pool = Pools.inRank(0, SHARES, 1);
            pool.estate(1);
            checks.due("shareUnder " + rule, pool.shareUnder(0, rule), good ? 1 : -2);
        }
    }
}
