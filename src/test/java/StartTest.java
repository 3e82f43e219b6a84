/** Promise 1: what a new object answers. */
public final class StartTest {
    public static void main(String[] args) {
        Due due = new Due();
        due.part("promise 1");
        TableBench x = new TableBench();
        due.is("about(0)", x.about(0), 0);
        due.is("about(1)", x.about(1), 0);
        due.is("results()", x.results(), 0);
        due.is("where()", x.where(), TableBench.NONE);
        due.is("seen()", x.seen(), 0);
        due.is("finding()", x.finding(), 0);
        due.is("trace(0)", x.trace(0), TableBench.NONE);
        for (int k = 0; k < 5; k++) {
            due.is("about(2 + k)", x.about(2 + k), 0);
        }
        for (int f = 1; f <= 8; f++) {
            due.is("findings(f)", x.findings(f), 0);
        }
        for (int l = 0; l < 16; l++) {
            due.is("lose(l)", x.lose(l), -11);
        }
        due.is("kind(0)", x.kind(0), TableBench.UNKNOWN);
        due.end();
    }
}
