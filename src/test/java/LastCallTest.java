/** "An object is used for at most 512 calls": the last of them are answered as the first ones. */
public final class LastCallTest {
    private static final int MOST_CALLS = 512;

    public static void main(String[] args) {
        throwsToTheLast();
        actsToTheLast();
        textsToTheLast();
        Check.end("LastCallTest");
    }

    /** Each plays(60) is 60 faults, so that FAULTS stop at 99 and THROWS go on. */
    private static void throwsToTheLast() {
        HopCourts x = new HopCourts();
        x.sign('1' << 24);
        x.end(1);
        x.rule();
        x.sign('1' << 24 | '9' << 16);
        x.end(2);
        Check.due("players()", x.players(), 1);
        int calls = 6;
        for (int i = 1; calls < MOST_CALLS - 4; calls++, i++) {
            Check.due("plays(60), call " + i, x.plays(60), 0);
        }
        int thrown = 60 * (MOST_CALLS - 10);
        Check.due("THROWS", x.count(4), thrown);
        Check.due("FAULTS", x.count(5), 99);
        Check.due("what can be undone", x.count(9), 12);
        Check.due("undo(), the last call", x.undo(), 11);
    }

    private static void actsToTheLast() {
        HopCourts x = new HopCourts();
        x.sign('1' << 24 | '9' << 16 | ';' << 8 | '2');
        x.sign('9' << 24);
        x.end(5);
        Check.due("players()", x.players(), 2);
        for (int call = 5; call <= MOST_CALLS; call++) {
            Check.due("passes(), call " + call, x.passes(), call % 2);
        }
    }

    private static void textsToTheLast() {
        HopCourts x = new HopCourts();
        for (int call = 1; call + 2 < MOST_CALLS; call += 3) {
            Check.due("sign(), call " + call, x.sign('1' << 24 | '2' << 16 | '2' << 8 | '1'), 4);
            Check.due("end(3)", x.end(3), true);
            Check.due("court()", x.court(), 5);
        }
    }
}
