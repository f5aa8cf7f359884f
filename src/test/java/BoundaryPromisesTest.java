/**
 * Every part of the promises 1 to 19 that names a boundary, each in a method of its own with the document's words
 * above it. The sentences of the section "Terms" are in BoundaryTermsTest.
 */
public final class BoundaryPromisesTest {
    private static final int EQUAL = InsolvencyPool.EQUAL;
    private static final int LOSSES = InsolvencyPool.LOSSES;
    private static final int SHARES = InsolvencyPool.SHARES;
    private static final int HALVES = InsolvencyPool.HALVES;
    private static final int LEAST = Boundaries.LEAST;
    private static final int GREATEST = Boundaries.GREATEST;
    private static final Checks checks = new Checks();
    private static final Boundaries at = new Boundaries(checks);

    public static void main(String[] args) {
        newObjectHasNoCreditors();
        add();
        remove();
        change();
        move();
        rule();
        estate();
        creditorsFromNoneToFull();
        claimOf();
        share();
        shareOf();
        shareUnder();
        leastEstate();
        claims();
        paid();
        leftOver();
        next();
        unpaidIsLessThanTheClaim();
        worst();
        checks.end();
    }

    /** Promise 1: "No creditors at first." */
    private static void newObjectHasNoCreditors() {
        InsolvencyPool pool = new InsolvencyPool();
        checks.due("1: creditors", pool.creditors(), 0);
        checks.due("1: claimOf(0)", pool.claimOf(0), -1);
        checks.due("1: remove(0)", pool.remove(0), -1);
        checks.due("1: the first number", pool.add(1, 0), 0);
    }

    private static void add() {
        addClaimNotIn0To150();
        addRankNotGood();
        addWhenThereAre8();
        addAnswersTheNumber();
    }

    /** Promise 2: "-1 if claim is not in 0 .. 150" */
    private static void addClaimNotIn0To150() {
        at.refuses("2: claim", Boundaries.WRONG_CLAIMS, (pool, claim) -> pool.add(claim, 0), -1);
        checks.due("2: claim 0", new InsolvencyPool().add(0, 0), 0);
        checks.due("2: claim 150", new InsolvencyPool().add(150, 0), 0);
    }

    /** Promise 2: "-2 if rank is not good" */
    private static void addRankNotGood() {
        at.refuses("2: rank", Boundaries.WRONG_RANKS, (pool, rank) -> pool.add(0, rank), -2);
        checks.due("2: rank 0", new InsolvencyPool().add(0, 0), 0);
        checks.due("2: rank 3", new InsolvencyPool().add(0, 3), 0);
    }

    /** Promise 2: "-3 if there are 8 creditors" */
    private static void addWhenThereAre8() {
        at.answersAndKeeps("2: the ninth", Boundaries.standing(8), pool -> pool.add(0, 0), -3);
        checks.due("2: the eighth", Boundaries.standing(7).add(0, 0), 7);
        InsolvencyPool pool = Boundaries.standing(8);
        pool.remove(0);
        checks.due("2: the eighth again", pool.add(0, 0), 7);
    }

    /** Promise 2: "otherwise answers the creditor's number" */
    private static void addAnswersTheNumber() {
        for (int count = 0; count < 8; count++) {
            InsolvencyPool pool = Boundaries.standing(count);
            checks.due("2: number among " + count, pool.add(77, 2), count);
            checks.due("2: claim under that number", pool.claimOf(count), 77);
            checks.due("2: rank under that number", pool.move(count, 2), 2);
        }
    }

    private static void remove() {
        laterOnesGetNumbersLessByOne();
        removeCreditorNotGood();
        removeAnswersHowManyAreLeft();
    }

    /** Promise 3: "later ones get numbers less by one" */
    private static void laterOnesGetNumbersLessByOne() {
        for (int gone : new int[] {0, 3, 6, 7}) {
            InsolvencyPool pool = Boundaries.standing(8);
            pool.remove(gone);
            for (int creditor = 0; creditor < 7; creditor++) {
                int before = creditor < gone ? creditor : creditor + 1;
                checks.due("3: claim of " + creditor + " without " + gone, pool.claimOf(creditor), 20 + 3 * before);
                checks.due("3: rank of " + creditor + " without " + gone, pool.move(creditor, 0), before % 4);
            }
            checks.due("3: claim of 7 without " + gone, pool.claimOf(7), -1);
        }
    }

    /** Promise 3: "-1 if creditor is not good" */
    private static void removeCreditorNotGood() {
        at.refusesWrongCreditors("3: remove", (pool, creditor) -> pool.remove(creditor));
    }

    /** Promise 3: "otherwise answers how many are left" */
    private static void removeAnswersHowManyAreLeft() {
        for (int count = 8; count > 0; count--) {
            checks.due("3: the first of " + count, Boundaries.standing(count).remove(0), count - 1);
            checks.due("3: the last of " + count, Boundaries.standing(count).remove(count - 1), count - 1);
        }
    }

    private static void change() {
        changeCreditorNotGood();
        changeClaimNotIn0To150();
        changeAnswersTheClaimBefore();
    }

    /** Promise 4: "-1 if creditor is not good" */
    private static void changeCreditorNotGood() {
        at.refusesWrongCreditors("4: change", (pool, creditor) -> pool.change(creditor, 5));
    }

    /** Promise 4: "-2 if claim is not in 0 .. 150" */
    private static void changeClaimNotIn0To150() {
        at.refuses("4: claim", Boundaries.WRONG_CLAIMS, (pool, claim) -> pool.change(0, claim), -2);
    }

    /** Promise 4: "otherwise answers the claim before" */
    private static void changeAnswersTheClaimBefore() {
        InsolvencyPool pool = Boundaries.standing(8);
        checks.due("4: to the least", pool.change(7, 0), 41);
        checks.due("4: to the same", pool.change(7, 0), 0);
        checks.due("4: to the greatest", pool.change(7, 150), 0);
        checks.due("4: back", pool.change(7, 41), 150);
        checks.due("4: the one before it", pool.claimOf(6), 38);
    }

    private static void move() {
        moveCreditorNotGood();
        moveRankNotGood();
        moveAnswersTheRankBefore();
    }

    /** Promise 5: "-1 if creditor is not good" */
    private static void moveCreditorNotGood() {
        at.refusesWrongCreditors("5: move", (pool, creditor) -> pool.move(creditor, 2));
    }

    /** Promise 5: "-2 if rank is not good" */
    private static void moveRankNotGood() {
        at.refuses("5: rank", Boundaries.WRONG_RANKS, (pool, rank) -> pool.move(0, rank), -2);
    }

    /** Promise 5: "otherwise answers the rank before" */
    private static void moveAnswersTheRankBefore() {
        InsolvencyPool pool = Boundaries.standing(8);
        checks.due("5: to the first", pool.move(7, 0), 3);
        checks.due("5: to the same", pool.move(7, 0), 0);
        checks.due("5: to the last", pool.move(7, 3), 0);
        checks.due("5: once more", pool.move(7, 3), 3);
        checks.due("5: the claim stays", pool.claimOf(7), 41);
        checks.due("5: the one before it", pool.move(6, 2), 2);
    }

    private static void rule() {
        ruleRankNotGood();
        ruleRuleNotGood();
        ruleAnswersTheRuleBefore();
    }

    /** Promise 6: "-1 if rank is not good" */
    private static void ruleRankNotGood() {
        at.refuses("6: rank", Boundaries.WRONG_RANKS, (pool, rank) -> pool.rule(rank, 0), -1);
    }

    /** Promise 6: "-2 if rule is not good" */
    private static void ruleRuleNotGood() {
        for (int rank = 0; rank < 4; rank++) {
            int ofRank = rank;
            at.refuses("6: rule of " + rank, Boundaries.WRONG_RULES, (pool, rule) -> pool.rule(ofRank, rule), -2);
        }
    }

    /** Promise 6: "otherwise answers the rule before" */
    private static void ruleAnswersTheRuleBefore() {
        for (int rank = 0; rank < 4; rank++) {
            InsolvencyPool pool = new InsolvencyPool();
            checks.due("6: at first, rank " + rank, pool.rule(rank, HALVES), EQUAL);
            checks.due("6: the same, rank " + rank, pool.rule(rank, HALVES), HALVES);
            for (int other = 0; other < 4; other++) {
                checks.due("6: rank " + other + " beside " + rank, pool.rule(other, 0), other == rank ? HALVES : EQUAL);
            }
        }
    }

    private static void estate() {
        estateNotIn0To1500();
        estateByAnyInt();
        estateAnswersTheNewOne();
    }

    /** Promise 7: "-1 if it would not be in 0 .. 1500" */
    private static void estateNotIn0To1500() {
        for (int before : new int[] {0, 1, 749, 1499, 1500}) {
            InsolvencyPool pool = holding(before);
            checks.due("7: from " + before + " to -1", pool.estate(-before - 1), -1);
            checks.due("7: from " + before + " to 1501", pool.estate(1501 - before), -1);
            checks.due("7: after the refusals", pool.estate(0), before);
            checks.due("7: from " + before + " to 1500", pool.estate(1500 - before), 1500);
            checks.due("7: from 1500 to 0", pool.estate(-1500), 0);
        }
    }

    /** Promise 7: "(delta may be any int)" */
    private static void estateByAnyInt() {
        int[] outermost = {LEAST, LEAST + 1, LEAST + 1500, LEAST + 1501, GREATEST, GREATEST - 1, GREATEST - 1500};
        for (int before : new int[] {0, 1, 1499, 1500}) {
            for (int delta : outermost) {
                InsolvencyPool pool = holding(before);
                checks.due("7: from " + before + " by " + delta, pool.estate(delta), -1);
                checks.due("7: still " + before, pool.estate(0), before);
            }
        }
    }

    /** Promise 7: "otherwise answers the new estate" */
    private static void estateAnswersTheNewOne() {
        InsolvencyPool pool = new InsolvencyPool();
        checks.due("7: by 0", pool.estate(0), 0);
        checks.due("7: by 1", pool.estate(1), 1);
        checks.due("7: by 1499", pool.estate(1499), 1500);
        checks.due("7: by -1", pool.estate(-1), 1499);
        checks.due("7: by -1499", pool.estate(-1499), 0);
    }

    private static InsolvencyPool holding(int estate) {
        InsolvencyPool pool = new InsolvencyPool();
        pool.estate(estate);
        return pool;
    }

    /** Promise 8: "How many creditors there are." */
    private static void creditorsFromNoneToFull() {
        for (int count = 0; count <= 8; count++) {
            checks.due("8: among " + count, Boundaries.standing(count).creditors(), count);
        }
    }

    /** Promise 9: "The claim of a creditor; -1 if creditor is not good." */
    private static void claimOf() {
        at.refusesWrongCreditors("9: claimOf", (pool, creditor) -> pool.claimOf(creditor));
        checks.due("9: the least claim", Pools.inRank(0, EQUAL, 0).claimOf(0), 0);
        checks.due("9: the greatest claim", Pools.inRank(0, EQUAL, 150).claimOf(0), 150);
    }

    /** Promise 10: "The share of a creditor; -1 if creditor is not good." */
    private static void share() {
        at.refusesWrongCreditors("10: share", (pool, creditor) -> pool.share(creditor));
        InsolvencyPool pool = Pools.inRank(3, EQUAL, 150, 150, 150, 150, 150, 150, 150, 150);
        checks.due("10: of the estate 0", pool.share(7), 0);
        pool.estate(1199);
        checks.due("10: one unit too few, the first", pool.share(0), 150);
        checks.due("10: one unit too few, the last", pool.share(7), 149);
        pool.estate(1);
        checks.due("10: just enough", pool.share(7), 150);
        pool.estate(300);
        checks.due("10: of the estate 1500", pool.share(7), 150);
    }

    private static void shareOf() {
        shareOfTheOutermostAmounts();
        shareOfCreditorNotGood();
        shareOfAmountNotIn0To1500();
    }

    /** Promise 11: "The share that a creditor would have if the estate were amount." */
    private static void shareOfTheOutermostAmounts() {
        for (int estate : new int[] {0, 1, 1500}) {
            InsolvencyPool pool = Pools.inRank(0, LOSSES, 150, 149);
            pool.estate(estate);
            checks.due("11: of 0 while it is " + estate, pool.shareOf(0, 0), 0);
            checks.due("11: of 1 while it is " + estate, pool.shareOf(0, 1), 1);
            checks.due("11: of 298 while it is " + estate, pool.shareOf(1, 298), 148);
            checks.due("11: of 299 while it is " + estate, pool.shareOf(1, 299), 149);
            checks.due("11: of 1500 while it is " + estate, pool.shareOf(1, 1500), 149);
        }
    }

    /** Promise 11: "-1 if creditor is not good" */
    private static void shareOfCreditorNotGood() {
        at.refusesWrongCreditors("11: shareOf", (pool, creditor) -> pool.shareOf(creditor, 9));
    }

    /** Promise 11: "-2 if amount is not in 0 .. 1500" */
    private static void shareOfAmountNotIn0To1500() {
        at.refuses("11: amount", Boundaries.WRONG_AMOUNTS, (pool, amount) -> pool.shareOf(0, amount), -2);
    }

    private static void shareUnder() {
        shareUnderTheRuleOfTheRank();
        shareUnderCreditorNotGood();
        shareUnderRuleNotGood();
    }

    /** Promise 12: "if the rank of the creditor had the rule" */
    private static void shareUnderTheRuleOfTheRank() {
        InsolvencyPool pool = new InsolvencyPool();
        pool.add(2, 0);
        pool.add(9, 0);
        pool.add(2, 3);
        pool.add(9, 3);
        pool.rule(0, LOSSES);
        pool.estate(5);
        checks.due("12: the rule it has", pool.shareUnder(0, LOSSES), pool.share(0));
        checks.due("12: another rule", pool.shareUnder(0, EQUAL), 2);
        checks.due("12: under HALVES", pool.shareUnder(1, HALVES), 4);
        pool.estate(10);
        checks.due("12: the last rank", pool.shareUnder(2, LOSSES), 0);
        checks.due("12: its rule stays EQUAL", pool.share(2), 2);
        pool.estate(-15);
        checks.due("12: of the estate 0", pool.shareUnder(0, SHARES), 0);
        pool.estate(1500);
        checks.due("12: of the estate 1500", pool.shareUnder(3, SHARES), 9);
    }

    /** Promise 12: "-1 if creditor is not good" */
    private static void shareUnderCreditorNotGood() {
        at.refusesWrongCreditors("12: shareUnder", (pool, creditor) -> pool.shareUnder(creditor, LOSSES));
    }

    /** Promise 12: "-2 if rule is not good" */
    private static void shareUnderRuleNotGood() {
        at.refuses("12: rule", Boundaries.WRONG_RULES, (pool, rule) -> pool.shareUnder(0, rule), -2);
    }

    private static void leastEstate() {
        leastEstateFrom0();
        leastEstateIsTheLeast();
        leastEstateCreditorNotGood();
        leastEstateXNotIn0To150();
        leastEstateNone();
    }

    /** Promise 13: "The least estate 0 .. 1500" */
    private static void leastEstateFrom0() {
        checks.due("13: x 0", Pools.inRank(0, EQUAL, 150).leastEstate(0, 0), 0);
        checks.due("13: x 0 of a claim 0", Pools.inRank(0, EQUAL, 0).leastEstate(0, 0), 0);
        checks.due("13: x 1", Pools.inRank(0, EQUAL, 150).leastEstate(0, 1), 1);
        InsolvencyPool full = Pools.inRank(0, EQUAL, 150, 150, 150, 150, 150, 150, 150, 150);
        checks.due("13: the greatest that there can be", full.leastEstate(7, 150), 1200);
        full.move(0, 3);
        checks.due("13: the greatest, in the last rank", full.leastEstate(0, 150), 1200);
        checks.due("13: the first unit of the last rank", full.leastEstate(0, 1), 1051);
        full.estate(1500);
        checks.due("13: whatever the estate is", full.leastEstate(0, 1), 1051);
    }

    /** Promise 13: "at which a creditor's share would be at least x" */
    private static void leastEstateIsTheLeast() {
        for (int rule = EQUAL; rule <= HALVES; rule++) {
            InsolvencyPool pool = Pools.inRank(0, rule, 7, 150, 31);
            for (int x = 1; x <= 31; x++) {
                int least = pool.leastEstate(2, x);
                checks.due("13: share at the least for " + x + " under " + rule, pool.shareOf(2, least), x);
                checks.due("13: share just below, for " + x + " under " + rule, pool.shareOf(2, least - 1), x - 1);
            }
        }
    }

    /** Promise 13: "-1 if creditor is not good" */
    private static void leastEstateCreditorNotGood() {
        at.refusesWrongCreditors("13: leastEstate", (pool, creditor) -> pool.leastEstate(creditor, 1));
    }

    /** Promise 13: "-2 if x is not in 0 .. 150" */
    private static void leastEstateXNotIn0To150() {
        at.refuses("13: x", Boundaries.WRONG_CLAIMS, (pool, x) -> pool.leastEstate(0, x), -2);
        checks.due("13: x 150 is good", Pools.inRank(0, EQUAL, 150).leastEstate(0, 150), 150);
    }

    /** Promise 13: "-3 if there is none" */
    private static void leastEstateNone() {
        checks.due("13: claim 149, x 149", Pools.inRank(0, EQUAL, 149).leastEstate(0, 149), 149);
        checks.due("13: claim 149, x 150", Pools.inRank(0, EQUAL, 149).leastEstate(0, 150), -3);
        checks.due("13: claim 0, x 1", Pools.inRank(0, EQUAL, 0).leastEstate(0, 1), -3);
        checks.due("13: claim 0 beside another, x 1", Pools.inRank(0, EQUAL, 0, 150).leastEstate(0, 1), -3);
        checks.due("13: claim 7, x 8", Pools.inRank(3, HALVES, 7, 150).leastEstate(0, 8), -3);
    }

    /** Promise 14: "The sum of the claims of a rank's creditors; -1 if rank is not good." */
    private static void claims() {
        at.refuses("14: rank", Boundaries.WRONG_RANKS, (pool, rank) -> pool.claims(rank), -1);
        for (int rank = 0; rank < 4; rank++) {
            checks.due("14: nobody in rank " + rank, new InsolvencyPool().claims(rank), 0);
            checks.due("14: a claim 0 in rank " + rank, Pools.inRank(rank, EQUAL, 0).claims(rank), 0);
            InsolvencyPool full = Pools.inRank(rank, EQUAL, 150, 150, 150, 150, 150, 150, 150, 150);
            checks.due("14: the greatest sum in rank " + rank, full.claims(rank), 1200);
            checks.due("14: the rank beside " + rank, full.claims((rank + 1) % 4), 0);
            full.remove(7);
            checks.due("14: without the last in rank " + rank, full.claims(rank), 1050);
        }
    }

    /** Promise 15: "The sum of the shares of a rank's creditors; -1 if rank is not good." */
    private static void paid() {
        at.refuses("15: rank", Boundaries.WRONG_RANKS, (pool, rank) -> pool.paid(rank), -1);
        for (int rank = 0; rank < 4; rank++) {
            checks.due("15: nobody in rank " + rank, holding(1500).paid(rank), 0);
            InsolvencyPool full = Pools.inRank(rank, EQUAL, 150, 150, 150, 150, 150, 150, 150, 150);
            checks.due("15: estate 0, rank " + rank, full.paid(rank), 0);
            full.estate(1199);
            checks.due("15: one too few, rank " + rank, full.paid(rank), 1199);
            full.estate(301);
            checks.due("15: the greatest sum in rank " + rank, full.paid(rank), 1200);
            checks.due("15: the rank beside " + rank, full.paid((rank + 1) % 4), 0);
        }
        int[][] due = {{51, 51, 0}, {52, 52, 0}, {53, 52, 1}};
        for (int[] row : due) {
            InsolvencyPool pool = Boundaries.standing(8);
            pool.estate(row[0] - 100);
            checks.due("15: rank 0 at " + row[0], pool.paid(0), row[1]);
            checks.due("15: rank 1 at " + row[0], pool.paid(1), row[2]);
        }
    }

    /** Promise 16: "How many units of the estate are left over." */
    private static void leftOver() {
        checks.due("16: of the estate 0", new InsolvencyPool().left(), 0);
        checks.due("16: nobody", holding(1500).left(), 1500);
        InsolvencyPool claimless = Pools.inRank(0, EQUAL, 0, 0, 0, 0, 0, 0, 0, 0);
        claimless.estate(1500);
        checks.due("16: claims of 0 alone", claimless.left(), 1500);
        InsolvencyPool full = Pools.inRank(3, EQUAL, 150, 150, 150, 150, 150, 150, 150, 150);
        full.estate(1199);
        checks.due("16: one too few", full.left(), 0);
        full.estate(1);
        checks.due("16: just enough", full.left(), 0);
        full.estate(1);
        checks.due("16: one too many", full.left(), 1);
        full.estate(299);
        checks.due("16: of the estate 1500", full.left(), 300);
    }

    private static void next() {
        nextIfGreaterByOne();
        nextLeftOver();
    }

    /** Promise 17: "The creditor to whom the next unit would go if the estate were greater by one" */
    private static void nextIfGreaterByOne() {
        InsolvencyPool full = Pools.inRank(3, EQUAL, 150, 150, 150, 150, 150, 150, 150, 150);
        checks.due("17: the first unit", full.next(), 0);
        full.estate(7);
        checks.due("17: the eighth unit", full.next(), 7);
        full.estate(1);
        checks.due("17: the ninth unit", full.next(), 0);
        full.estate(1191);
        checks.due("17: the last unit", full.next(), 7);
        InsolvencyPool ranks = Boundaries.standing(8);
        ranks.estate(-49);
        checks.due("17: the last unit of rank 0", ranks.next(), 4);
        ranks.estate(1);
        checks.due("17: the first unit of rank 1", ranks.next(), 5);
    }

    /** Promise 17: "-1 if it would be left over" */
    private static void nextLeftOver() {
        checks.due("17: nobody", new InsolvencyPool().next(), -1);
        checks.due("17: nobody, at 1500", holding(1500).next(), -1);
        checks.due("17: a claim 0", Pools.inRank(0, EQUAL, 0).next(), -1);
        InsolvencyPool full = Pools.inRank(3, EQUAL, 150, 150, 150, 150, 150, 150, 150, 150);
        full.estate(1200);
        checks.due("17: all are paid", full.next(), -1);
        full.estate(300);
        checks.due("17: all are paid, at 1500", full.next(), -1);
    }

    /** Promise 18: "How many creditors have a share that is less than the claim." */
    private static void unpaidIsLessThanTheClaim() {
        checks.due("18: nobody", new InsolvencyPool().unpaid(), 0);
        checks.due("18: a claim 0", Pools.inRank(0, EQUAL, 0).unpaid(), 0);
        InsolvencyPool full = Pools.inRank(3, EQUAL, 150, 150, 150, 150, 150, 150, 150, 150);
        checks.due("18: all", full.unpaid(), 8);
        full.estate(1192);
        checks.due("18: all by one unit", full.unpaid(), 8);
        full.estate(7);
        checks.due("18: one by one unit", full.unpaid(), 1);
        full.estate(1);
        checks.due("18: just enough", full.unpaid(), 0);
        full.estate(300);
        checks.due("18: at 1500", full.unpaid(), 0);
    }

    private static void worst() {
        worstIsTheGreatest();
        worstNone();
    }

    /** Promise 19: "The greatest claim minus share of a creditor" */
    private static void worstIsTheGreatest() {
        checks.due("19: the greatest there can be", Pools.inRank(0, EQUAL, 150).worst(), 150);
        checks.due("19: the first", Pools.inRank(0, EQUAL, 150, 1).worst(), 150);
        checks.due("19: the last", Pools.inRank(0, EQUAL, 1, 150).worst(), 150);
        InsolvencyPool pool = Pools.inRank(0, EQUAL, 1, 150);
        pool.estate(150);
        checks.due("19: one unit too few", pool.worst(), 1);
    }

    /** Promise 19: "0 if there is none" */
    private static void worstNone() {
        checks.due("19: nobody", new InsolvencyPool().worst(), 0);
        checks.due("19: nobody, at 1500", holding(1500).worst(), 0);
        checks.due("19: a claim 0", Pools.inRank(0, EQUAL, 0).worst(), 0);
        InsolvencyPool pool = Pools.inRank(0, EQUAL, 1, 150);
        pool.estate(151);
        checks.due("19: all are paid", pool.worst(), 0);
        pool.remove(1);
        pool.remove(0);
        checks.due("19: all are taken out", pool.worst(), 0);
    }
}
