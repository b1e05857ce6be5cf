/** Promises 8 to 10: day, run, mend. */
public final class DaysTest {
    private static final int BAD = SolesByWhatIsTold.BAD, NONE = SolesByWhatIsTold.NONE;

    public static void main(String[] args) {
        promise8();
        promise8Bounds();
        promise9();
        promise9Thought();
        promise9Refusals();
        promise10();
        Checks.end();
    }

    private static void promise8() {
        Checks.begin("promise 8");
        SolesByWhatIsTold x = new SolesByWhatIsTold();
        Checks.due("day() of none", x.day(), 0);
        Checks.due("count(1)", x.count(1), 1);
        x.walker(0, 0, 0);
        x.walker(5, 3, 0);
        x.walker(5, 3, 1);
        Checks.due("day()", x.day(), 2);
        Checks.due("STEP as far as the SOLES last", x.told(0, 5), 5);
        Checks.due("WORN", x.told(0, 6), 5);
        Checks.due("STEP of a DOG", x.told(1, 5), 3);
        Checks.due("STEP of who is STOPPED", x.told(2, 5), 0);
        Checks.due("WORN of who is STOPPED", x.told(2, 6), 0);
        Checks.due("count(2)", x.count(2), 1);
        Checks.due("day(), one in SOCKS", x.day(), 1);
        Checks.due("STEP in SOCKS", x.told(0, 5), 5);
        Checks.due("STEP of a DOG", x.told(1, 5), 6);
        Checks.due("count(1)", x.count(1), 3);

        // all is told ahead of the DAY
        x = new SolesByWhatIsTold();
        x.walker(0, 0, 0);
        x.walker(0, 0, 0);
        Checks.rule(x, "20 - step", "3 + worn + day", "7 < day");
        Checks.due("day()", x.day(), 2);
        Checks.due("STEP", x.told(0, 5), 3);
        Checks.due("day()", x.day(), 2);
        Checks.due("STEP", x.told(0, 5), 10);
        Checks.due("in SOCKS", x.told(0, 13), 1);
        x.set(0, 0, 7);
        x.set(5, 0, 0);
        x.set(6, 0, 0);
        Checks.due("count(3)", x.count(3), 0);
        Checks.due("day()", x.day(), 1);
        Checks.due("STEP", x.told(0, 5), 10);
        Checks.due("count(3)", x.count(3), 2);

        // a PACE of 0 is gone on with, by none
        x = new SolesByWhatIsTold();
        x.walker(0, 0, 0);
        Checks.rule(x, "20", "0", "0");
        Checks.due("day() by a PACE of 0", x.day(), 1);
        Checks.due("STEP", x.told(0, 5), 0);
    }

    private static void promise8Bounds() {
        Checks.begin("promise 8, bounds");
        SolesByWhatIsTold x = new SolesByWhatIsTold();
        x.walker(0, 0, 0);
        x.set(5, 0, 995);
        x.set(0, 0, 998);
        Checks.rule(x, "20", "9", "0");
        Checks.due("day()", x.day(), 1);
        Checks.due("STEP, 999 at most", x.told(0, 5), 999);
        Checks.due("WORN goes on", x.told(0, 6), 9);
        Checks.due("count(1)", x.count(1), 999);
        Checks.due("day(), DAY is 999", x.day(), SolesByWhatIsTold.STATE);
        Checks.due("WORN as it was", x.told(0, 6), 9);
        Checks.due("count(1)", x.count(1), 999);
        x.set(0, 0, 5);
        Checks.due("day()", x.day(), 1);
        Checks.due("STEP", x.told(0, 5), 999);
        Checks.due("WORN", x.told(0, 6), 18);
        Checks.due("day()", x.day(), 1);
        Checks.due("WORN", x.told(0, 6), 20);
        Checks.due("day()", x.day(), 0);
        x.set(6, 0, 9999);
        Checks.due("day()", x.day(), 0);
        Checks.due("WORN", x.told(0, 6), 9999);
    }

    private static void promise9() {
        Checks.begin("promise 9");
        SolesByWhatIsTold x = new SolesByWhatIsTold();
        x.walker(0, 0, 0);
        x.set(5, 0, 100);
        Checks.rule(x, "10", "4", "0");
        int[] steps = {100, 104, 108, 110, 110, 110};
        int[] socks = {NONE, NONE, NONE, 2, 2, 2};
        int[] stays = {NONE, NONE, NONE, NONE, 3, 3};
        int[] worn = {0, 4, 8, 10, 10, 10};
        for (int n = 0; n < 6; n++) {
            Checks.due("run(0, n, 0)", x.run(0, n, 0), steps[n]);
            Checks.due("run(0, n, 1)", x.run(0, n, 1), socks[n]);
            Checks.due("run(0, n, 2)", x.run(0, n, 2), stays[n]);
            Checks.due("run(0, n, 3)", x.run(0, n, 3), worn[n]);
        }
        Checks.due("run(0, 40, 0)", x.run(0, 40, 0), 110);
        Checks.due("STEP is as it was", x.told(0, 5), 100);
        Checks.due("WORN is as it was", x.told(0, 6), 0);
        Checks.due("DAY is as it was", x.count(1), 0);
        x.set(6, 0, 10);
        Checks.due("run(0, 1, 1), in SOCKS from the first", x.run(0, 1, 1), 0);
        Checks.due("run(0, 1, 2)", x.run(0, 1, 2), 0);
        Checks.due("run(0, 0, 1)", x.run(0, 0, 1), NONE);
        Checks.due("run(0, 0, 2)", x.run(0, 0, 2), NONE);
    }

    private static void promise9Thought() {
        Checks.begin("promise 9, in thought");
        SolesByWhatIsTold x = new SolesByWhatIsTold();
        x.walker(0, 0, 0);
        // DAY may pass 999
        x.set(0, 0, 998);
        Checks.rule(x, "999", "day - 995", "1001 < day");
        Checks.due("run(0, 1, 0)", x.run(0, 1, 0), 3);
        Checks.due("run(0, 4, 0)", x.run(0, 4, 0), 3 + 4 + 5 + 6);
        Checks.due("run(0, 5, 0)", x.run(0, 5, 0), 3 + 4 + 5 + 6);
        Checks.due("run(0, 40, 2)", x.run(0, 40, 2), 4);
        Checks.due("count(1)", x.count(1), 998);

        // in SOCKS is told behind the DAY, as DAY is 1 more
        x.set(0, 0, 0);
        Checks.rule(x, "10 - day * 2", "3", "0");
        Checks.due("run(0, 1, 1)", x.run(0, 1, 1), NONE);
        Checks.due("run(0, 2, 1)", x.run(0, 2, 1), 1);
        Checks.due("run(0, 2, 3)", x.run(0, 2, 3), 6);
        Checks.due("run(0, 3, 2)", x.run(0, 3, 2), 2);

        // who stays may go on later, as DAY is another one
        Checks.rule(x, "100", "5", "not day = 3 and not 5 < day");
        Checks.due("run(0, 3, 0)", x.run(0, 3, 0), 0);
        Checks.due("run(0, 4, 0)", x.run(0, 4, 0), 5);
        Checks.due("run(0, 6, 0)", x.run(0, 6, 0), 5);
        Checks.due("run(0, 40, 0)", x.run(0, 40, 0), 100);
        Checks.due("run(0, 40, 1)", x.run(0, 40, 1), 24);
        Checks.due("run(0, 40, 2)", x.run(0, 40, 2), 0);

        // a SAILOR who brings nothing along is never STOPPED, and lasts as long as DAY tells
        x.walker(1, 0, 0);
        Checks.rule(x, "day", "day", "day");
        Checks.due("run(1, 1, 0)", x.run(1, 1, 0), 0);
        Checks.due("run(1, 5, 0)", x.run(1, 5, 0), 4);
        Checks.due("run(1, 5, 1)", x.run(1, 5, 1), NONE);

        // the rule that tells of DAY is not THE RULE of one that does not
        x.force(0);
        Checks.due("run(0, 40, 0)", x.run(0, 40, 0), 5);
    }

    private static void promise9Refusals() {
        Checks.begin("promise 9, refusals");
        SolesByWhatIsTold x = new SolesByWhatIsTold();
        x.walker(0, 0, 0);
        Checks.due("run(1, 0, 0)", x.run(1, 0, 0), BAD);
        Checks.due("run(-1, 0, 0)", x.run(-1, 0, 0), BAD);
        Checks.due("run(0, -1, 0)", x.run(0, -1, 0), BAD);
        Checks.due("run(0, 41, 0)", x.run(0, 41, 0), BAD);
        Checks.due("run(0, 0, -1)", x.run(0, 0, -1), BAD);
        Checks.due("run(0, 0, 4)", x.run(0, 0, 4), BAD);
        Checks.due("run(0, far, 0)", x.run(0, Integer.MAX_VALUE, 0), BAD);
    }

    private static void promise10() {
        Checks.begin("promise 10");
        SolesByWhatIsTold x = new SolesByWhatIsTold();
        x.walker(0, 0, 0);
        x.walker(0, 0, 0);
        x.day();
        Checks.due("count(2)", x.count(2), 2);
        Checks.due("mend(1)", x.mend(1), 5);
        Checks.due("count(2)", x.count(2), 1);
        Checks.due("mend(1)", x.mend(1), 0);
        Checks.due("told(0, 6)", x.told(0, 6), 5);
        Checks.due("told(1, 6)", x.told(1, 6), 0);
        Checks.due("told(1, 5)", x.told(1, 5), 5);
        Checks.due("day()", x.day(), 1);
        Checks.due("told(1, 5)", x.told(1, 5), 10);
        Checks.due("mend(2)", x.mend(2), BAD);
        Checks.due("mend(-1)", x.mend(-1), BAD);
    }
}
