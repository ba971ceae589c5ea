/** Promises 22 to 27, sentence by sentence: FEWEST, MOST, HOLD, TURNS, and the SECRET vote. */
public final class CouldBeBoundsTest extends Sentences {
    private static final String NINE_ONES = "101010101010101010";
    private static final String NINE_NINES = "909090909090909090";

    public static void main(String[] args) {
        fewest();
        fewestOfWhich();
        fewestOfLikeOnes();
        most();
        mostByTheDay();
        hold();
        game();
        gameOfWhich();
        gameInTurn();
        arm();
        secret();
        secretWays();
        end("CouldBeBoundsTest", 22, 27);
    }

    private static void fewest() {
        sentence(22, "what: 0 and 1, and beyond").people("5y").stones("1050").with("tide(12, -20)").due("fewest(0)", 1)
            .due("fewest(1)", 2).refused("fewest(-1)", BAD).refused("fewest(2)", BAD).refused("fewest(MIN)", BAD)
            .refused("fewest(MAX)", BAD);
        sentence(22, "above 0 as it is: none is needed").people("5y").stones("10").with("tide(12, 1)")
            .due("fewest(0)", 0).due("fewest(1)", 0).with("wipe(0)", "wipe(1)").due("fewest(0)", 0).due("fewest(1)", 0);
        sentence(22, "above 0: at 0 one is needed").people("5y").stones("10").due("fewest(0)", 1).due("fewest(1)", 1);
        sentence(22, "above 0: to come to 0 is not enough").people("5y").stones("10").with("tide(12, -4)")
            .due("fewest(0)", 1).with("tide(12, -5)").due("fewest(0)", NONE).due("fewest(1)", NONE);
        sentence(22, "all nine, and not even these").people("1y").stones(NINE_ONES).with("tide(12, -44)")
            .due("fewest(0)", 9).due("fewest(1)", 511).with("tide(12, -45)").due("fewest(0)", NONE)
            .due("fewest(1)", NONE).with("tide(12, -39)").due("fewest(0)", 8).due("fewest(1)", 255);
        sentence(22, "NONE: there are no STONES").people("9y").due("fewest(0)", NONE).due("fewest(1)", NONE);
        sentence(22, "NONE: there is nobody").stones("10").due("fewest(0)", NONE).due("fewest(1)", NONE);
        sentence(22, "at the end of the day").people("5y").stones("1050").with("tide(3, -20)", "tide(4, 1)", "set(0, 3)")
            .due("fewest(1)", 2).with("set(0, 4)").due("fewest(1)", 0).with("set(0, 5)").due("fewest(1)", 1);
    }

    private static void fewestOfWhich() {
        sentence(22, "such as some one can lift: as heavy as STRENGTH, and one more").people("5y").stones("6050")
            .due("fewest(1)", 2).with("wipe(0)").people("4y").due("fewest(1)", NONE).with("wipe(0)").people("6y")
            .with("tide(12, -25)").due("fewest(1)", 1);
        sentence(22, "some one of SIDE 0, not of SIDE 1").people("5n").stones("50").due("fewest(0)", NONE)
            .people("4y").due("fewest(0)", NONE).people("5y").due("fewest(0)", 1);
        sentence(22, "that were not carried").people("5y5n").stones("5050").with("carry(1, 0, 1)").due("fewest(1)", 2)
            .with("carry(1, 1, 1)").due("fewest(1)", NONE).with("undo()").due("fewest(1)", 2);
        sentence(22, "carried, though it slid").people("5y5n").stones("50").with("set(1, 4)", "carry(1, 0, 1)")
            .due("tip(12)", 0).due("fewest(0)", NONE);
        sentence(22, "told against the LAW it was not carried").people("5y").stones("50").with("carry(1, 0, 1)")
            .due("fewest(1)", 1);
        sentence(22, "laid with ARM 5").people("1y").stones("1010").with("tide(12, -4)").due("fewest(0)", 1)
            .with("tide(12, -5)").due("fewest(0)", 2).with("tide(12, -9)").due("fewest(0)", 2);
        sentence(22, "no SHELF slides for them").people("9y").stones("9090").with("set(1, 1)", "tide(12, -50)")
            .due("fewest(0)", 2).due("fewest(1)", 3);
        sentence(22, "whatever the WAY").people("9y").stones("99").with("set(0, 1)").due("fewest(1)", 1);
    }

    private static void fewestOfLikeOnes() {
        sentence(22, "the fewest, though others weigh less").people("9y").stones("101090").with("tide(12, -9)")
            .due("fewest(0)", 1).due("fewest(1)", 4);
        sentence(22, "of like ones with the least WEIGHT together").people("9y").stones("90504060").with("tide(12, -24)")
            .due("fewest(1)", 2).with("tide(12, -45)").due("fewest(1)", 12).with("tide(12, -44)").due("fewest(1)", 1);
        sentence(22, "of like ones the least bits").people("9y").stones("505050").due("fewest(1)", 1)
            .with("tide(12, -25)").due("fewest(1)", 3).with("tide(12, -49)").due("fewest(1)", 3);
        sentence(22, "of like ones the least bits: of unlike STONES").people("9y").stones("30605040")
            .with("tide(12, -40)").due("fewest(1)", 3).with("wipe(1)").stones("40503060").due("fewest(1)", 3)
            .with("wipe(1)").stones("20703060").due("fewest(1)", 3);
    }

    private static void most() {
        sentence(23, "a SIDE: 0 and 1, and beyond").people("5y6n").stones("5060").due("most(0)", 5).due("most(1)", 11)
            .refused("most(-1)", BAD).refused("most(2)", BAD).refused("most(MIN)", BAD).refused("most(MAX)", BAD);
        sentence(23, "nobody carries nothing").stones("10").due("most(0)", 0).due("most(1)", 0).people("1y")
            .due("most(0)", 1).due("most(1)", 0);
        sentence(23, "no STONES").people("9y9n").due("most(0)", 0).due("most(1)", 0);
        sentence(23, "no heavier than STRENGTH: as heavy, and one more").people("5y").stones("50").due("most(0)", 5)
            .with("wipe(1)").stones("60").due("most(0)", 0);
        sentence(23, "no heavier than STRENGTH, though another could").people("5y9n").stones("9050").due("most(0)", 5)
            .due("most(1)", 14);
        sentence(23, "whatever was carried").people("9y").stones("9010").with("carry(0, 0, 1)", "carry(0, 1, 1)")
            .due("most(0)", 10).with("set(1, 1)").due("most(0)", 10);
    }

    private static void mostByTheDay() {
        sentence(23, "all of them by the end of the day: just so, and an hour less").people("9y").stones("9392")
            .with("set(0, 7)").due("most(0)", 18).with("set(0, 6)").due("most(0)", 9).with("set(0, 3)")
            .due("most(0)", 9).with("set(0, 2)").due("most(0)", 0);
        sentence(23, "the shortest day").people("9y9y").stones("906091").with("set(0, 1)").due("most(0)", 15);
        sentence(23, "the longest day: just so, and an hour more").people("9y").stones("999993").with("set(0, 24)")
            .due("most(0)", 27).with("wipe(1)").stones("999994").due("most(0)", 18);
        sentence(23, "all nine STONES").people("9y").stones(NINE_NINES).with("set(0, 9)").due("most(0)", 81)
            .with("set(0, 8)").due("most(0)", 72);
        sentence(23, "eight of a SIDE").people("9n".repeat(8)).stones(NINE_NINES).with("set(0, 1)").due("most(1)", 72)
            .due("most(0)", 0).with("set(0, 2)").due("most(1)", 81);
        sentence(23, "the most WEIGHT, not the most STONES").people("9y").stones("10101094").with("set(0, 5)")
            .due("most(0)", 9).with("wipe(1)").stones("30303084").due("most(0)", 9);
        sentence(23, "together: the weak take what they can").people("5y9y").stones("5090").with("set(0, 1)")
            .due("most(0)", 14).with("wipe(0)").people("9y5y").due("most(0)", 14);
    }

    private static void hold() {
        sentence(24, "a SIDE: 0 and 1, and beyond").people("5n5y").stones("50").due("hold(0)", 1).due("hold(1)", 0)
            .refused("hold(-1)", BAD).refused("hold(2)", BAD).refused("hold(MIN)", BAD).refused("hold(MAX)", BAD);
        sentence(24, "NONE: there is nobody").due("hold(0)", NONE).due("hold(1)", NONE).people("5y").due("hold(0)", 0)
            .due("hold(1)", NONE).with("wipe(0)").people("5n").due("hold(0)", NONE).due("hold(1)", 0);
        sentence(24, "the only one, though it makes no odds").people("5n5y").due("hold(0)", 1).due("hold(1)", 0);
        sentence(24, "of like ones the least").people("9n9y9y9n").stones("90").due("hold(0)", 1).due("hold(1)", 0)
            .with("set(0, 1)").due("hold(0)", 1).due("hold(1)", 0);
        sentence(24, "the first and the last of eight").people("9y1y1y1y1y1y1y1y").stones("9010").due("hold(0)", 0)
            .with("wipe(0)").people("1y1y1y1y1y1y1y9y").due("hold(0)", 7).due("hold(1)", NONE);
        sentence(24, "without whom its MOST is least, not who carries most").people("9y9y5y").stones("909050")
            .with("set(0, 1)").due("hold(0)", 0).with("wipe(1)").stones("5030").due("hold(0)", 0)
            .with("wipe(0)").people("3y3y5y").due("hold(0)", 2);
        sentence(24, "by the end of the day").people("1y2y").stones("1021").with("set(0, 1)").due("hold(0)", 0)
            .with("set(0, 2)").due("hold(0)", 1);
    }

    private static void game() {
        Run turns = sentence(25, "n (1 to 4), and beyond").people("9y9n").stones("90807060");
        turns.due("game(1, 0)", 45).due("game(2, 0)", 5).due("game(3, 0)", 40).due("game(4, 0)", 10)
            .refused("game(0, 0)", BAD_NUMBER).refused("game(5, 0)", BAD_NUMBER).refused("game(-1, 0)", BAD_NUMBER)
            .refused("game(MIN, 0)", BAD_NUMBER).refused("game(MAX, 0)", BAD_NUMBER).refused("game(0, 1)", BAD_NUMBER)
            .refused("game(5, 1)", BAD_NUMBER);
        sentence(25, "what: 0 and 1, and beyond").people("9y9n").stones("1090").due("game(1, 0)", 45).due("game(1, 1)", 1)
            .refused("game(1, -1)", BAD_NUMBER).refused("game(4, 2)", BAD_NUMBER).refused("game(1, MIN)", BAD_NUMBER)
            .refused("game(1, MAX)", BAD_NUMBER);
        sentence(25, "as any number: what looks like a refusal and is none").with("tide(12, -2)").due("game(1, 0)", -2)
            .with("tide(12, -11)").due("game(4, 0)", -11).due("count(8)", 0);
        Run none = sentence(25, "NONE: there is none to lay").people("1y9n").stones("20").with("tide(12, 7)");
        for (int n = 1; n <= 4; n++) {
            none.due("game(" + n + ", 1)", NONE).due("game(" + n + ", 0)", n == 1 ? 7 : -3);
        }
        sentence(25, "there are fewer STONES than turns").people("9y9n").stones("50").due("game(1, 0)", 25)
            .due("game(2, 0)", 25).due("game(4, 0)", 25).due("game(4, 1)", 0).stones("30").due("game(4, 0)", 10)
            .stones("20").due("game(4, 0)", 20);
        sentence(25, "all nine STONES").people("9y9n").stones(NINE_NINES).due("game(1, 0)", 45).due("game(2, 0)", 0)
            .due("game(3, 0)", 45).due("game(4, 0)", 0).due("game(4, 1)", 0);
        sentence(25, "the last STONE first").people("9y9n").stones("101010101010101090").due("game(1, 1)", 8)
            .due("game(4, 1)", 8).due("game(1, 0)", 45).due("game(4, 0)", 40);
    }

    private static void gameOfWhich() {
        sentence(25, "who can lift it: as heavy as STRENGTH, and one more").people("5y").stones("5060")
            .due("game(1, 0)", 25).due("game(1, 1)", 0).with("wipe(0)").people("6y").due("game(1, 0)", 30)
            .due("game(1, 1)", 1).with("wipe(0)").people("4y").due("game(1, 0)", 0).due("game(1, 1)", NONE);
        sentence(25, "somebody of the SIDE").people("1y9n5y").stones("6050").due("game(1, 1)", 1).due("game(2, 0)", -5);
        sentence(25, "the other SIDE: as heavy as STRENGTH, and one more").people("9y5n").stones("906050")
            .due("game(2, 0)", 25).due("game(2, 1)", 2).with("wipe(0)").people("9y6n").due("game(2, 0)", 15)
            .with("wipe(0)").people("9y4n").due("game(2, 0)", 45);
        sentence(25, "STONES not carried yet").people("9y9n").stones("9050").with("carry(1, 0, 1)").due("game(1, 1)", 1)
            .due("game(1, 0)", 16).with("carry(1, 1, 1)").due("game(1, 1)", NONE).due("game(1, 0)", -14)
            .with("undo()").due("game(1, 1)", 1);
        sentence(25, "carried, though it slid").people("9y9n").stones("90").with("set(1, 8)", "carry(1, 0, 1)")
            .due("game(4, 1)", NONE).due("game(4, 0)", 0);
        sentence(25, "told against the LAW it was not carried").people("9y").stones("90").with("carry(1, 0, 1)")
            .due("game(1, 1)", 0);
        sentence(25, "hours, LOAD aside").people("9y9n").stones("9999").with("set(0, 1)", "set(1, 1)").due("game(1, 0)", 45)
            .due("game(2, 0)", 0).due("game(1, 1)", 0);
        sentence(25, "from the end of the day").people("9y").stones("90").with("tide(3, 1)", "tide(4, 2)", "set(0, 3)")
            .due("game(1, 0)", 46).with("set(0, 4)").due("game(1, 0)", 47).with("set(0, 5)").due("game(1, 0)", 45);
    }

    private static void gameInTurn() {
        sentence(25, "of like ones the least").people("5y5n").stones("605050").due("game(1, 1)", 1).due("game(2, 1)", 1)
            .with("wipe(1)").stones("5050").due("game(2, 1)", 0);
        sentence(25, "who has none to lay lays none: SIDE 0").people("1y9n").stones("9080").due("game(1, 0)", 0)
            .due("game(2, 0)", -45).due("game(3, 0)", -45).due("game(4, 0)", -85);
        sentence(25, "who has none to lay lays none: SIDE 1").people("9y1n").stones("9080").due("game(1, 0)", 45)
            .due("game(2, 0)", 45).due("game(3, 0)", 85).due("game(4, 0)", 85);
        sentence(25, "neither has one to lay").people("1y1n").stones("9080").with("tide(12, 3)").due("game(4, 0)", 3)
            .due("game(4, 1)", NONE);
        sentence(25, "who has one has to lay one").people("9y1n").stones("1090").due("game(2, 0)", 40)
            .due("game(3, 0)", 50).due("game(3, 1)", 0).due("game(2, 1)", 1);
        sentence(25, "as great as can be at the end, not at once").people("6y4n").stones("106040").due("game(1, 1)", 1)
            .due("game(2, 1)", 2).due("game(2, 0)", 15).due("game(3, 0)", 45);
        sentence(25, "the other one as small, at the end, not at once").people("5y9n").stones("90504010")
            .due("game(2, 0)", -20).due("game(4, 0)", -35).due("game(4, 1)", 1);
        sentence(25, "nothing is laid by it").people("9y9n").stones("90807060").unchanged("game(4, 0)", 10)
            .unchanged("game(4, 1)", 0);
    }

    private static void arm() {
        Run each = sentence(26, "of each of the numbers 0 to 7: what it was");
        for (int p = 0; p <= 7; p++) {
            each.due("arm(" + p + ", " + p % 6 + ")", 1);
        }
        for (int p = 0; p <= 7; p++) {
            each.due("arm(" + p + ", 1)", p % 6);
        }
        sentence(26, "one: below 0, above 7").refused("arm(-1, 3)", BAD).refused("arm(8, 3)", BAD)
            .refused("arm(MIN, 3)", BAD).refused("arm(MAX, 3)", BAD);
        sentence(26, "an ARM (0 to 5): the least and the greatest").due("arm(0, 0)", 1).due("arm(0, 5)", 0)
            .due("arm(0, 0)", 5);
        sentence(26, "an ARM: below 0, above 5").with("arm(3, 2)").refused("arm(3, -1)", BAD).refused("arm(3, 6)", BAD)
            .refused("arm(3, MIN)", BAD).refused("arm(3, MAX)", BAD).due("arm(3, 2)", 2);
        sentence(26, "of one who is not there yet").with("arm(1, 5)").people("1y1y").due("secret(6, 0)", 1)
            .due("secret(6, 1)", 3);
        sentence(26, "it stays when the text is wiped").people("2y").with("arm(0, 5)", "wipe(0)").people("3n")
            .due("secret(15, 1)", 1).due("arm(0, 5)", 5);
    }

    private static void secret() {
        sentence(27, "a told one (-999 to 999): the least and the greatest").people("1y").due("secret(-999, 0)", 0)
            .due("secret(999, 0)", 0).due("secret(-999, 2)", 0).due("secret(999, 1)", 0);
        sentence(27, "a told one: below -999, above 999").people("1y").refused("secret(-1000, 0)", BAD)
            .refused("secret(1000, 0)", BAD).refused("secret(MIN, 1)", BAD).refused("secret(MAX, 2)", BAD);
        sentence(27, "what: 0 to 2, and beyond").people("1y2y").due("secret(1, 0)", 2).due("secret(3, 1)", 3)
            .due("secret(-3, 2)", 3).refused("secret(1, -1)", BAD).refused("secret(1, 3)", BAD)
            .refused("secret(1, MIN)", BAD).refused("secret(1, MAX)", BAD);
        sentence(27, "nobody: one way to 0, none to another").due("secret(0, 0)", 1).due("secret(0, 1)", 0)
            .due("secret(0, 2)", 0).due("secret(1, 0)", 0).due("secret(-1, 0)", 0).due("secret(1, 1)", 0);
        sentence(27, "as bits (0, if there are no ways)").people("2y2n").due("secret(1, 0)", 0).due("secret(1, 1)", 0)
            .due("secret(1, 2)", 0).due("secret(5, 1)", 0).due("secret(-5, 2)", 0);
        sentence(27, "whatever SIDE one is of").people("3n5y").due("secret(8, 1)", 3).due("secret(-8, 2)", 3)
            .due("secret(2, 1)", 2).due("secret(2, 2)", 1);
        sentence(27, "no TIDE").people("3y").with("tide(0, 1)", "tide(12, 1)").due("secret(3, 0)", 1).due("secret(4, 0)", 0);
    }

    private static void secretWays() {
        sentence(27, "for yes, for no, or none: of one").people("5y").due("secret(5, 0)", 1).due("secret(0, 0)", 1)
            .due("secret(-5, 0)", 1).due("secret(4, 0)", 0).due("secret(6, 0)", 0).due("secret(5, 1)", 1)
            .due("secret(5, 2)", 0).due("secret(-5, 2)", 1).due("secret(0, 1)", 0).due("secret(0, 2)", 0);
        Run most = sentence(27, "the greatest and the least there can be").people("9y".repeat(8));
        for (int p = 0; p <= 7; p++) {
            most.with("arm(" + p + ", 5)");
        }
        most.due("secret(360, 0)", 1).due("secret(360, 1)", 255).due("secret(360, 2)", 0).due("secret(-360, 0)", 1)
            .due("secret(-360, 2)", 255).due("secret(361, 0)", 0).due("secret(-361, 0)", 0).due("secret(359, 0)", 0)
            .due("secret(315, 0)", 8).due("secret(315, 1)", 0);
        Run least = sentence(27, "an ARM of 0: each way is one").people("9y".repeat(8));
        int ways = 6561;
        for (int p = 0; p <= 7; p++) {
            least.with("arm(" + p + ", 0)");
        }
        least.due("secret(0, 0)", ways).due("secret(0, 1)", 0).due("secret(0, 2)", 0).due("secret(1, 0)", 0)
            .with("arm(7, 1)").due("secret(9, 0)", ways / 3).due("secret(9, 1)", 128).due("secret(-9, 2)", 128);
        sentence(27, "in all: not only in some").people("1y1y2y").due("secret(2, 0)", 4).due("secret(2, 1)", 0)
            .due("secret(3, 0)", 2).due("secret(3, 1)", 4).due("secret(-3, 2)", 4).due("secret(4, 1)", 7);
        sentence(27, "of those alone who are there: fewer than before").people("9y9y9y9y").due("secret(36, 1)", 15)
            .due("secret(9, 0)", 16).with("wipe(0)").people("2y").due("secret(3, 0)", 0).due("secret(9, 0)", 0)
            .due("secret(2, 0)", 1).due("secret(2, 1)", 1).with("wipe(0)").due("secret(2, 0)", 0).due("secret(0, 0)", 1);
        sentence(27, "of those alone who are there").people("1y").with("arm(1, 5)", "arm(7, 5)").due("secret(0, 0)", 1)
            .due("secret(1, 0)", 1).due("secret(1, 1)", 1);
    }
}
