/** The example of README.md, call by call, so that what it tells a reader stays true. */
public final class ReadmeTest {
    public static void main(String[] args) {
        Checks checks = new Checks();
        InsolvencyPool pool = new InsolvencyPool();
        checks.due("add(100, 0)", pool.add(100, 0), 0);
        checks.due("add(40, 0)", pool.add(40, 0), 1);
        checks.due("add(50, 1)", pool.add(50, 1), 2);
        checks.due("add(151, 0)", pool.add(151, 0), -1);
        checks.due("estate(123)", pool.estate(123), 123);
        checks.due("share(0)", pool.share(0), 83);
        checks.due("rule(0, LOSSES)", pool.rule(0, InsolvencyPool.LOSSES), 0);
        checks.due("share(0) under LOSSES", pool.share(0), 92);
        checks.due("shareUnder(0, SHARES)", pool.shareUnder(0, InsolvencyPool.SHARES), 88);
        checks.due("leastEstate(2, 1)", pool.leastEstate(2, 1), 141);
        checks.due("remove(0)", pool.remove(0), 2);
        checks.due("share(1)", pool.share(1), 50);
        checks.due("left()", pool.left(), 33);
        checks.end();
    }
}
