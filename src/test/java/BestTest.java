/** Promises 11 to 16: far, least, heaviest, away, keeper, spare. */
public final class BestTest {
    private static final int BAD = SolesByWhatIsTold.BAD, NONE = SolesByWhatIsTold.NONE;

    public static void main(String[] args) {
        promise11();
        promise12();
        promise13();
        promise14();
        promise15();
        promise16();
        Checks.end();
    }

    private static void promise11() {
        Checks.begin("promise 11");
        SolesByWhatIsTold x = new SolesByWhatIsTold();
        x.walker(0, 0, 7);
        x.set(1, 1, 3);
        x.set(4, 0, 1);
        // all told: 23, LASTS 74, PACE 10
        Checks.due("far(0, 40, 0)", x.far(0, 40, 0), 7);
        Checks.due("far(0, 40, 1)", x.far(0, 40, 1), 74);
        Checks.due("far(0, 1, 0)", x.far(0, 1, 0), 7);
        Checks.due("far(0, 1, 1)", x.far(0, 1, 1), 10);
        Checks.due("TOLD is as it was", x.told(0, 4), 1);
        Checks.due("far(0, 0, 0): all are alike", x.far(0, 0, 0), 0);
        x.set(5, 0, 50);
        Checks.due("far(0, 0, 1)", x.far(0, 0, 1), 50);
        // a thing too many told may be worse: LASTS falls again
        Checks.rule(x, "50 - told * 2", "9", "0");
        x.set(5, 0, 0);
        Checks.due("far(0, 40, 0)", x.far(0, 40, 0), 0);
        Checks.due("far(0, 40, 1)", x.far(0, 40, 1), 50);
        // of like ones the least weight: any does, but none; thing 1 weighs 3
        Checks.rule(x, "50 * (0 < told)", "9", "0");
        Checks.due("far(0, 40, 0)", x.far(0, 40, 0), 2);
        Checks.due("far(0, 40, 1)", x.far(0, 40, 1), 50);
        // of like weights the least as bits
        x.set(1, 1, 10);
        Checks.due("far(0, 40, 0)", x.far(0, 40, 0), 1);
        x.set(3, 0, 6 + 128);
        Checks.due("far(0, 40, 0)", x.far(0, 40, 0), 2);
        // 1 + 2 weigh as much as 128
        x.set(1, 7, 20);
        Checks.rule(x, "50 * (told = 20)", "9", "0");
        Checks.due("far(0, 40, 0)", x.far(0, 40, 0), 6);
        // a THING that weighs nothing need not be told
        x.set(1, 1, 0);
        Checks.due("far(0, 40, 0)", x.far(0, 40, 0), 128);
        // none is far: the least weight is 0, by no bits
        Checks.rule(x, "0", "9", "0");
        Checks.due("far(0, 40, 0)", x.far(0, 40, 0), 0);
        Checks.due("far(0, 40, 1)", x.far(0, 40, 1), 0);
        Checks.due("far(1, 0, 0)", x.far(1, 0, 0), BAD);
        Checks.due("far(-1, 0, 0)", x.far(-1, 0, 0), BAD);
        Checks.due("far(0, -1, 0)", x.far(0, -1, 0), BAD);
        Checks.due("far(0, 41, 0)", x.far(0, 41, 0), BAD);
        Checks.due("far(0, 0, 2)", x.far(0, 0, 2), BAD);
        Checks.due("far(0, 0, -1)", x.far(0, 0, -1), BAD);
    }

    private static void promise12() {
        Checks.begin("promise 12");
        SolesByWhatIsTold x = new SolesByWhatIsTold();
        x.walker(0, 0, 7);
        x.set(1, 0, 4);
        x.set(1, 1, 2);
        x.set(1, 2, 6);
        x.set(4, 0, 4);
        Checks.rule(x, "told", "1", "0");
        Checks.due("least(0, 0, 0)", x.least(0, 0, 0), 0);
        Checks.due("least(0, 0, 1)", x.least(0, 0, 1), 0);
        Checks.due("least(0, 1, 0)", x.least(0, 1, 0), 2);
        Checks.due("least(0, 1, 1)", x.least(0, 1, 1), 2);
        Checks.due("least(0, 3, 0)", x.least(0, 3, 0), 1);
        Checks.due("least(0, 3, 1)", x.least(0, 3, 1), 4);
        // 4 and 2 weigh as much as 6
        Checks.due("least(0, 6, 0)", x.least(0, 6, 0), 3);
        Checks.due("least(0, 6, 1)", x.least(0, 6, 1), 6);
        Checks.due("least(0, 12, 0)", x.least(0, 12, 0), 7);
        Checks.due("least(0, 12, 1)", x.least(0, 12, 1), 12);
        Checks.due("least(0, 13, 0)", x.least(0, 13, 0), NONE);
        Checks.due("least(0, 13, 1)", x.least(0, 13, 1), NONE);
        Checks.due("TOLD is as it was", x.told(0, 4), 4);
        // behind 40 DAYS, not 41
        Checks.rule(x, "999", "1", "0");
        Checks.due("least(0, 40, 0)", x.least(0, 40, 0), 0);
        Checks.due("least(0, 41, 0)", x.least(0, 41, 0), NONE);
        x.set(5, 0, 959);
        Checks.due("least(0, 999, 0)", x.least(0, 999, 0), 0);
        x.set(5, 0, 958);
        Checks.due("least(0, 999, 1)", x.least(0, 999, 1), NONE);
        Checks.due("least(0, 1000, 0)", x.least(0, 1000, 0), BAD);
        Checks.due("least(0, -1, 0)", x.least(0, -1, 0), BAD);
        Checks.due("least(1, 0, 0)", x.least(1, 0, 0), BAD);
        Checks.due("least(-1, 0, 0)", x.least(-1, 0, 0), BAD);
        Checks.due("least(0, 0, 2)", x.least(0, 0, 2), BAD);
        Checks.due("least(0, 0, -1)", x.least(0, 0, -1), BAD);
    }

    private static void promise13() {
        Checks.begin("promise 13");
        SolesByWhatIsTold x = new SolesByWhatIsTold();
        x.walker(0, 0, 1);
        // untold it slows one down: PACE is 10 less its weight
        Checks.due("heaviest(0, 0, 0)", x.heaviest(0, 0, 0), 99);
        Checks.due("heaviest(0, 0, 1)", x.heaviest(0, 0, 1), 9);
        Checks.due("heaviest(0, 0, 5)", x.heaviest(0, 0, 5), 9);
        Checks.due("heaviest(0, 0, 6)", x.heaviest(0, 0, 6), NONE);
        Checks.due("heaviest(1, 0, 5), the other one slows one down yet", x.heaviest(1, 0, 5), NONE);
        x.set(1, 0, 9);
        Checks.due("heaviest(1, 0, 5), no TIE", x.heaviest(1, 0, 5), 99);
        Checks.due("weights are as they were", x.told(0, 1), 9);
        x.set(4, 0, 1);
        Checks.due("heaviest(0, 0, 302)", x.heaviest(0, 0, 302), 99);
        x.set(4, 0, 0);
        Checks.rule(x, "20", "1", "not untold = 7 and not untold = 3");
        Checks.due("heaviest(0, 0, 20)", x.heaviest(0, 0, 20), 7);
        Checks.rule(x, "20", "1", "0 < untold");
        Checks.due("heaviest(0, 0, 20)", x.heaviest(0, 0, 20), 0);
        Checks.rule(x, "999", "1", "1 < untold");
        Checks.due("heaviest(0, 0, 40)", x.heaviest(0, 0, 40), 1);
        Checks.due("heaviest(0, 0, 41)", x.heaviest(0, 0, 41), NONE);
        Checks.due("heaviest(8, 0, 0)", x.heaviest(8, 0, 0), BAD);
        Checks.due("heaviest(-1, 0, 0)", x.heaviest(-1, 0, 0), BAD);
        Checks.due("heaviest(7, 0, 0)", x.heaviest(7, 0, 0), 99);
        Checks.due("heaviest(0, 1, 0)", x.heaviest(0, 1, 0), BAD);
        Checks.due("heaviest(0, -1, 0)", x.heaviest(0, -1, 0), BAD);
        Checks.due("heaviest(0, 0, -1)", x.heaviest(0, 0, -1), BAD);
        Checks.due("heaviest(0, 0, 1000)", x.heaviest(0, 0, 1000), BAD);
        Checks.due("heaviest(0, 0, 999)", x.heaviest(0, 0, 999), NONE);
    }

    private static void promise14() {
        Checks.begin("promise 14");
        SolesByWhatIsTold x = new SolesByWhatIsTold();
        Checks.due("away(0, 0) of none", x.away(0, 0), NONE);
        x.walker(0, 0, 0);
        x.walker(5, 2, 0);
        x.walker(5, 3, 0);
        x.walker(5, 3, 0);
        Checks.rule(x, "999", "1", "0");
        Checks.due("away(0, 0)", x.away(0, 0), 0);
        Checks.due("away(0, 1)", x.away(0, 1), 0);
        Checks.due("away(1, 0), of like ones by numbers", x.away(1, 0), 0);
        Checks.due("away(1, 1)", x.away(1, 1), 1);
        Checks.due("away(2, 0)", x.away(2, 0), 1);
        Checks.due("away(3, 0)", x.away(3, 0), 2);
        Checks.due("away(3, 1)", x.away(3, 1), 1);
        Checks.due("away(4, 0)", x.away(4, 0), 1);
        Checks.due("away(4, 1)", x.away(4, 1), 2);
        Checks.due("away(120, 0)", x.away(120, 0), 2);
        Checks.due("away(120, 1)", x.away(120, 1), 40);
        Checks.due("away(121, 0)", x.away(121, 0), NONE);
        Checks.due("away(121, 1)", x.away(121, 1), NONE);
        x.set(5, 3, 900);
        Checks.due("away(900, 0)", x.away(900, 0), 3);
        Checks.due("away(900, 1)", x.away(900, 1), 0);
        Checks.due("away(999, 1)", x.away(999, 1), 33);
        Checks.due("away(1000, 0)", x.away(1000, 0), BAD);
        Checks.due("away(-1, 0)", x.away(-1, 0), BAD);
        Checks.due("away(0, 2)", x.away(0, 2), BAD);
        Checks.due("away(0, -1)", x.away(0, -1), BAD);
        Checks.due("STEP is as it was", x.told(1, 5), 0);
    }

    private static void promise15() {
        Checks.begin("promise 15");
        SolesByWhatIsTold x = new SolesByWhatIsTold();
        Checks.due("keeper(5, 0) of none", x.keeper(5, 0), NONE);
        Checks.due("keeper(5, 1) of none", x.keeper(5, 1), 0);
        x.walker(0, 0, 6);
        x.walker(0, 0, 4);
        Checks.rule(x, "999", "50 - untold", "0");
        // as it is 30 and 40; without 1: 40 and 40, without 2: 40 and 50
        Checks.due("keeper(1, 0)", x.keeper(1, 0), 2);
        Checks.due("keeper(1, 1)", x.keeper(1, 1), 90);
        Checks.due("keeper(2, 1)", x.keeper(2, 1), 180);
        Checks.due("keeper(0, 0)", x.keeper(0, 0), NONE);
        Checks.due("keeper(0, 1)", x.keeper(0, 1), 0);
        x.set(1, 1, 20);
        // as it is 20 and 40; without 1: 40 and 40; without 2: 30 and 50; of like ones the first
        Checks.due("keeper(1, 0)", x.keeper(1, 0), 1);
        Checks.due("keeper(1, 1)", x.keeper(1, 1), 80);
        Checks.due("weights are as they were", x.told(1, 1), 20);
        // weights that were only thought of are forgotten
        x.drawn(3, 5);
        Checks.due("keeper(1, 0) behind drawn()", x.keeper(1, 0), 1);
        Checks.due("keeper(1, 1) behind drawn()", x.keeper(1, 1), 80);
        x.force(0);
        Checks.due("heaviest(1, 0, 999), none", x.heaviest(1, 0, 999), NONE);
        x.force(1);
        Checks.due("keeper(1, 0) behind heaviest()", x.keeper(1, 0), 1);
        x.chance(3, 5, 0);
        Checks.due("heaviest(2, 1, 999) behind chance()", x.heaviest(2, 1, 999), 25);
        x.set(3, 1, 1);
        Checks.due("keeper(1, 0), the first", x.keeper(1, 0), 1);
        x.set(1, 0, 30);
        Checks.due("keeper(1, 0), the first", x.keeper(1, 0), 0);
        Checks.due("keeper(1, 1), the first", x.keeper(1, 1), 70);
        x.set(3, 1, 4);
        // told it makes SOLES last: no weight less is more
        x.set(4, 0, 6);
        x.set(4, 1, 4);
        Checks.due("keeper(1, 0)", x.keeper(1, 0), NONE);
        Checks.due("keeper(1, 1)", x.keeper(1, 1), 100);
        x.force(0);
        x.set(5, 0, 7);
        Checks.due("keeper(40, 0)", x.keeper(40, 0), NONE);
        Checks.due("keeper(40, 1)", x.keeper(40, 1), 7 + 95 + 35);
        Checks.due("keeper(41, 0)", x.keeper(41, 0), BAD);
        Checks.due("keeper(-1, 0)", x.keeper(-1, 0), BAD);
        Checks.due("keeper(0, 2)", x.keeper(0, 2), BAD);
        Checks.due("keeper(0, -1)", x.keeper(0, -1), BAD);
    }

    private static void promise16() {
        Checks.begin("promise 16");
        SolesByWhatIsTold x = new SolesByWhatIsTold();
        x.walker(0, 0, 15);
        x.set(1, 3, 0);
        x.set(4, 0, 0xfb);
        // 0 and 1 are needed each, 3 weighs nothing, 2 is not told, 4 and on are no TIES
        Checks.rule(x, "told", "9", "0");
        Checks.due("spare(0, 40)", x.spare(0, 40), 8);
        Checks.due("TOLD is as it was", x.told(0, 4), 0xfb);
        // one DAY is as far without either
        Checks.due("spare(0, 1)", x.spare(0, 1), 11);
        Checks.due("spare(0, 2)", x.spare(0, 2), 8);
        Checks.due("spare(0, 0)", x.spare(0, 0), 11);
        // without it one would be further
        Checks.rule(x, "50 - told", "9", "0");
        Checks.due("spare(0, 40)", x.spare(0, 40), 11);
        x.set(4, 0, 0);
        Checks.due("spare(0, 40)", x.spare(0, 40), 0);
        Checks.due("spare(1, 0)", x.spare(1, 0), BAD);
        Checks.due("spare(-1, 0)", x.spare(-1, 0), BAD);
        Checks.due("spare(0, -1)", x.spare(0, -1), BAD);
        Checks.due("spare(0, 41)", x.spare(0, 41), BAD);
    }
}
