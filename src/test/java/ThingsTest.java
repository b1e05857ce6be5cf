/** Promises 1 to 4: a new object, set, walker, told. */
public final class ThingsTest {
    private static final int BAD = SolesByWhatIsTold.BAD;

    public static void main(String[] args) {
        promise1();
        promise2();
        promise2Refusals();
        promise3();
        promise4();
        promise4Kinds();
        promise4Edges();
        promise4Bounds();
        Checks.end();
    }

    private static void promise1() {
        Checks.begin("promise 1");
        SolesByWhatIsTold x = new SolesByWhatIsTold();
        for (int what = 0; what < 7; what++) {
            Checks.due("count(" + what + ")", x.count(what), what == 4 ? 1 : 0);
        }
        for (int thing = 0; thing < 8; thing++) {
            Checks.due("told(thing, 1)", x.told(thing, 1), 10);
        }
        Checks.due("told(0, 0)", x.told(0, 0), 0);
        Checks.due("told(0, 7)", x.told(0, 7), BAD);
        Checks.due("taken(0, 0)", x.taken(0, 0), -11);
        Checks.due("back()", x.back(), -3);
        for (int sheet = 0; sheet < 4; sheet++) {
            Checks.due("cell(sheet, 0, 0)", x.cell(sheet, 0, 0), -11);
        }
        x.walker(0, 0, 0);
        Checks.due("count(0) of another object", new SolesByWhatIsTold().count(0), 0);
    }

    private static void promise2() {
        Checks.begin("promise 2");
        SolesByWhatIsTold x = new SolesByWhatIsTold();
        x.walker(0, 1, 2);
        x.walker(1, 2, 3);
        int[] most = {999, 99, 9, 255, 255, 999, 9999};
        int[] first = {0, 10, 2, 3, 0, 0, 0};
        for (int what = 0; what < 7; what++) {
            Checks.due("set(what, 1, 1)", x.set(what, 1, 1), first[what]);
            Checks.due("set(what, 1, most)", x.set(what, 1, most[what]), 1);
            Checks.due("told(1, what)", x.told(1, what), most[what]);
            Checks.due("set(what, 1, most + 1)", x.set(what, 1, most[what] + 1), BAD);
            Checks.due("set(what, 1, -1)", x.set(what, 1, -1), BAD);
            Checks.due("told(1, what) behind a refusal", x.told(1, what), most[what]);
            Checks.due("set(what, 1, 0)", x.set(what, 1, 0), most[what]);
            Checks.due("told(1, what)", x.told(1, what), 0);
        }
        int[] ofFirst = {0, 10, 1, 2, 0, 0, 0};
        for (int what = 0; what < 7; what++) {
            Checks.due("told(0, what), of which nothing was set", x.told(0, what), ofFirst[what]);
        }
        // of DAY it does not matter what it is of
        Checks.due("set(0, -7, 5)", x.set(0, -7, 5), 0);
        Checks.due("set(0, 99, 6)", x.set(0, 99, 6), 5);
        // what is no TIE is kept, but does not count
        x.set(3, 1, 1);
        x.set(4, 1, 255);
        Checks.due("told(1, 4)", x.told(1, 4), 255);
        x.set(1, 0, 9);
        Checks.due("told(1, 8)", x.told(1, 8), 9);
        x.set(3, 1, 3);
        x.set(1, 1, 20);
        Checks.due("told(1, 8) of more TIES", x.told(1, 8), 29);
    }

    private static void promise2Refusals() {
        Checks.begin("promise 2, refusals");
        SolesByWhatIsTold x = new SolesByWhatIsTold();
        x.walker(0, 1, 2);
        Checks.due("set(-1, 0, 0)", x.set(-1, 0, 0), BAD);
        Checks.due("set(7, 0, 0)", x.set(7, 0, 0), BAD);
        Checks.due("set(1, -1, 0)", x.set(1, -1, 0), BAD);
        Checks.due("set(1, 8, 0)", x.set(1, 8, 0), BAD);
        Checks.due("set(1, 7, 0)", x.set(1, 7, 0), 10);
        for (int what = 2; what < 7; what++) {
            Checks.due("set(what, 1, 0)", x.set(what, 1, 0), BAD);
            Checks.due("set(what, -1, 0)", x.set(what, -1, 0), BAD);
        }
        int far = Integer.MAX_VALUE;
        Checks.due("set(far)", x.set(far, far, far), BAD);
        Checks.due("set(-far)", x.set(-far - 1, -far - 1, -far - 1), BAD);
        Checks.due("set(0, 0, far)", x.set(0, 0, far), BAD);
        Checks.due("set(2, far, 1)", x.set(2, far, 1), BAD);
    }

    private static void promise3() {
        Checks.begin("promise 3");
        SolesByWhatIsTold x = new SolesByWhatIsTold();
        Checks.due("walker(-1, 0, 0)", x.walker(-1, 0, 0), BAD);
        Checks.due("walker(6, 0, 0)", x.walker(6, 0, 0), BAD);
        Checks.due("walker(0, -1, 0)", x.walker(0, -1, 0), BAD);
        Checks.due("walker(0, 10, 0)", x.walker(0, 10, 0), BAD);
        Checks.due("walker(0, 0, -1)", x.walker(0, 0, -1), BAD);
        Checks.due("walker(0, 0, 256)", x.walker(0, 0, 256), BAD);
        Checks.due("count(0)", x.count(0), 0);
        for (int i = 0; i < 6; i++) {
            Checks.due("walker(i, i + 4, 255 - i)", x.walker(i, i + 4, 255 - i), i);
        }
        for (int i = 0; i < 6; i++) {
            Checks.due("KIND", x.told(i, 7), i);
            Checks.due("NUMBER", x.told(i, 2), i + 4);
            Checks.due("TIES", x.told(i, 3), 255 - i);
            Checks.due("TOLD", x.told(i, 4), 0);
            Checks.due("STEP", x.told(i, 5), 0);
            Checks.due("WORN", x.told(i, 6), 0);
        }
        Checks.due("walker(0, 0, 0), full", x.walker(0, 0, 0), SolesByWhatIsTold.FULL);
        Checks.due("walker(6, 0, 0), full", x.walker(6, 0, 0), BAD);
        Checks.due("walker(0, 10, 0), full", x.walker(0, 10, 0), BAD);
        Checks.due("count(0)", x.count(0), 6);
    }

    private static void promise4() {
        Checks.begin("promise 4");
        SolesByWhatIsTold x = new SolesByWhatIsTold();
        x.walker(1, 3, 7);
        x.set(1, 0, 1);
        x.set(1, 1, 2);
        x.set(1, 2, 4);
        x.set(4, 0, 5);
        Checks.due("KIND", x.told(0, 7), 1);
        Checks.due("TOLD weight", x.told(0, 8), 5);
        Checks.due("UNTOLD weight", x.told(0, 9), 2);
        Checks.due("LASTS", x.told(0, 10), 5 * 3 + 5 + 3);
        Checks.due("PACE", x.told(0, 11), 8);
        Checks.due("STOPPED", x.told(0, 12), 0);
        Checks.due("in SOCKS", x.told(0, 13), 0);
        x.set(6, 0, 22);
        Checks.due("in SOCKS, one ahead", x.told(0, 13), 0);
        x.set(6, 0, 23);
        Checks.due("in SOCKS", x.told(0, 13), 1);
        x.set(1, 1, 51);
        Checks.due("STOPPED", x.told(0, 12), 1);
        x.set(1, 1, 50);
        Checks.due("STOPPED at the edge", x.told(0, 12), 0);
        Checks.due("told(0, -1)", x.told(0, -1), BAD);
        Checks.due("told(0, 14)", x.told(0, 14), BAD);
        Checks.due("told(8, 1)", x.told(8, 1), BAD);
        Checks.due("told(-1, 1)", x.told(-1, 1), BAD);
        Checks.due("told(99, 0)", x.told(99, 0), 0);
        for (int what = 2; what < 14; what++) {
            Checks.due("told(1, what)", x.told(1, what), BAD);
            Checks.due("told(-1, what)", x.told(-1, what), BAD);
        }
    }

    private static void promise4Kinds() {
        Checks.begin("promise 4, kinds");
        SolesByWhatIsTold x = new SolesByWhatIsTold();
        for (int kind = 0; kind < 6; kind++) {
            x.walker(kind, 7, 3);
            x.set(4, kind, 3);
        }
        x.set(1, 0, 4);
        x.set(1, 1, 6);
        Checks.rule(x, "41", "20", "0");
        dueOfKinds(x, 10, 41, 48, 20, 48, 30, 999);
        dueOfKinds(x, 11, 20, 40, 22, 43, 1, 7);
        dueOfKinds(x, 12, 0, 0, 0, 0, 0, 0);
        x.set(1, 1, 5);
        dueOfKinds(x, 10, 41, 48, 20, 0, 29, 999);
        dueOfKinds(x, 13, 0, 0, 0, 1, 0, 0);
        for (int one = 0; one < 6; one++) {
            x.set(4, one, 2);
        }
        dueOfKinds(x, 11, 20, 20, 22, 23, 1, 7);
        dueOfKinds(x, 12, 0, 0, 0, 0, 0, 1);
        Checks.rule(x, "5", "1", "7");
        dueOfKinds(x, 12, 1, 0, 1, 0, 1, 1);
        dueOfKinds(x, 10, 5, 12, 2, 0, 7, 999);
    }

    private static void promise4Edges() {
        Checks.begin("promise 4, edges of STOPPED");
        SolesByWhatIsTold x = new SolesByWhatIsTold();
        for (int kind = 0; kind < 6; kind++) {
            x.walker(kind, 7, 1);
        }
        Checks.rule(x, "5", "1", "0 - 1");
        x.set(1, 0, 5);
        dueOfKinds(x, 12, 1, 0, 1, 0, 1, 1);
        x.set(1, 0, 6);
        dueOfKinds(x, 12, 1, 1, 1, 0, 1, 1);
        x.set(1, 0, 0);
        dueOfKinds(x, 12, 1, 0, 1, 0, 1, 0);
        x.force(0);
        Checks.rule(x, "5", "1", "0");
        x.set(1, 0, 30);
        dueOfKinds(x, 12, 0, 0, 0, 0, 0, 1);
        x.set(1, 0, 31);
        dueOfKinds(x, 12, 0, 0, 1, 0, 1, 1);
        x.set(1, 0, 1);
        dueOfKinds(x, 12, 0, 0, 0, 0, 0, 1);
    }

    private static void promise4Bounds() {
        Checks.begin("promise 4, bounds");
        SolesByWhatIsTold x = new SolesByWhatIsTold();
        for (int kind = 0; kind < 6; kind++) {
            x.walker(kind, 9, 255);
            x.set(4, kind, 255);
        }
        for (int thing = 0; thing < 8; thing++) {
            x.set(1, thing, 99);
        }
        Checks.rule(x, "1000", "100", "0");
        dueOfKinds(x, 10, 999, 1008, 499, 1008, 499 + 792, 999);
        dueOfKinds(x, 11, 99, 99, 99, 99, 1, 9);
        Checks.rule(x, "0 - 1", "- 1", "0");
        dueOfKinds(x, 10, 0, 9, 0, 9, 792, 999);
        dueOfKinds(x, 11, 0, 0, 2, 3, 1, 9);
        Checks.rule(x, "999", "97", "0");
        dueOfKinds(x, 11, 97, 99, 99, 99, 1, 9);
        Checks.rule(x, "9999 * 9999 * 99", "49", "0");
        dueOfKinds(x, 11, 49, 98, 51, 99, 1, 9);
        int wrapped = 9999 * 9999 * 99;
        Checks.due("LASTS of what wraps", x.told(0, 10), Math.max(0, Math.min(999, wrapped)));
    }

    private static void dueOfKinds(SolesByWhatIsTold x, int what, int... wanted) {
        for (int kind = 0; kind < 6; kind++) {
            Checks.due("told(" + kind + ", " + what + ")", x.told(kind, what), wanted[kind]);
        }
    }
}
