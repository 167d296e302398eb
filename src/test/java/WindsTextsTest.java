/** Promises 2 to 10. */
final class WindsTextsTest {
    private static final int NONE = WalkingTown.NONE;
    private static final int BAD = WalkingTown.BAD;
    private static final int FULL = WalkingTown.FULL;
    private static final int LOST = -11;

    private final Check check = new Check("WindsTextsTest");

    public static void main(String[] args) {
        WindsTextsTest test = new WindsTextsTest();
        test.wind();
        test.read();
        test.setAndFoot();
        test.typeAndWipe();
        test.townFaults();
        test.movesFaults();
        test.house();
        test.takes();
        test.check.end();
    }

    private void wind() {
        WalkingTown x = new WalkingTown();
        check.due("wind(0, 9)", x.wind(0, 9), 0);
        check.due("wind(0, 3)", x.wind(0, 3), 9);
        check.due("wind(51, 1)", x.wind(51, 1), 0);
        check.due("wind(-1, 1)", x.wind(-1, 1), BAD);
        check.due("wind(52, 1)", x.wind(52, 1), BAD);
        check.due("wind(0, -1)", x.wind(0, -1), BAD);
        check.due("wind(0, 10)", x.wind(0, 10), BAD);
        check.due("wind(0, 0) behind refusals", x.wind(0, 0), 3);
        check.due("wind(max, max)", x.wind(Integer.MAX_VALUE, Integer.MAX_VALUE), BAD);
        check.due("wind(min, min)", x.wind(Integer.MIN_VALUE, Integer.MIN_VALUE), BAD);
    }

    private void read() {
        WalkingTown x = new WalkingTown();
        check.due("read(-1)", x.read(-1), BAD);
        check.due("read(4)", x.read(4), BAD);
        check.due("count(8) behind BAD", x.count(8), 0);
        check.due("read(2) of a lost one", x.read(2), LOST);
        check.due("count(8)", x.count(8), 1);
        x.sheet(0, 1, 5);
        x.put(0, 1, 0, 4);
        x.put(0, 1, 1, 9);
        x.put(0, 1, 2, 10);
        x.put(0, 1, 3, 5);
        x.wind(2, 7);
        check.due("read(0) up to a 10", x.read(0), 2);
        check.due("foot(1)", x.foot(1), 13);
        check.due("foot(2): the wind that was is still there", x.foot(2), 20);
        check.due("foot(51)", x.foot(51), 20);
        x.put(0, 1, 0, -1);
        check.due("read(0) of a first one below 0", x.read(0), 0);
        check.due("foot(0) is as it was", x.foot(0), 4);
        x.sheet(1, 2, 0);
        check.due("read(1) of an empty one", x.read(1), 0);
        x.sheet(1, 0, 60);
        for (int i = 0; i < 60; i++) {
            x.put(1, 0, i, 2);
        }
        check.due("read(1) of 60 items", x.read(1), 52);
        check.due("foot(51)", x.foot(51), 104);
        x.lose(1);
        check.due("read(1) once more lost", x.read(1), LOST);
    }

    private void setAndFoot() {
        WalkingTown x = new WalkingTown();
        check.due("set(0, 99)", x.set(0, 99), 0);
        check.due("set(0, 5)", x.set(0, 5), 99);
        check.due("set(1, 99)", x.set(1, 99), 9);
        check.due("set(1, 0)", x.set(1, 0), 99);
        check.due("count(7)", x.count(7), 0);
        check.due("set(0, 100)", x.set(0, 100), BAD);
        check.due("set(1, 100)", x.set(1, 100), BAD);
        check.due("set(0, -1)", x.set(0, -1), BAD);
        check.due("set(1, -1)", x.set(1, -1), BAD);
        check.due("set(2, 1)", x.set(2, 1), BAD);
        check.due("set(-1, 1)", x.set(-1, 1), BAD);
        check.due("foot(0) from BEGIN", x.foot(0), 5);
        Check.winds(x, 1, 2, 3);
        check.due("foot(0)", x.foot(0), 6);
        check.due("foot(1)", x.foot(1), 8);
        check.due("foot(2)", x.foot(2), 11);
        check.due("foot(51)", x.foot(51), 11);
        check.due("foot(-1)", x.foot(-1), BAD);
        check.due("foot(52)", x.foot(52), BAD);
        x.set(0, 99);
        for (int week = 0; week < 52; week++) {
            x.wind(week, 9);
        }
        check.due("foot(51), the greatest", x.foot(51), 567);
    }

    private void typeAndWipe() {
        WalkingTown x = new WalkingTown();
        check.due("type(0, 256)", x.type(0, 256), BAD);
        check.due("type(0, -1)", x.type(0, -1), BAD);
        check.due("type(2, 1)", x.type(2, 1), BAD);
        check.due("type(-1, 1)", x.type(-1, 1), BAD);
        for (int text = 0; text < 2; text++) {
            check.due("type(0)", x.type(text, 0), 1);
            check.due("type(255)", x.type(text, 255), 2);
            for (int n = 3; n <= 60; n++) {
                check.due("type", x.type(text, 's'), n);
            }
            check.due("type beyond 60", x.type(text, 's'), FULL);
            check.due("type beyond 60, BAD first", x.type(text, 256), BAD);
            check.due("count of bytes", x.count(1 + text), 60);
        }
        check.due("wipe(0)", x.wipe(0), 60);
        check.due("wipe(0) again", x.wipe(0), 0);
        check.due("count(2) is as it was", x.count(2), 60);
        check.due("wipe(1)", x.wipe(1), 60);
        check.due("wipe(2)", x.wipe(2), BAD);
        check.due("wipe(-1)", x.wipe(-1), BAD);
        check.due("type(0, 's')", x.type(0, 's'), 1);
    }

    private void townFault(String text, int fault, int houses) {
        WalkingTown x = Check.townOf(text);
        check.due("fault(0) of " + text, x.fault(0), fault);
        check.due("count(0) of " + text, x.count(0), houses);
        check.due("count(1) of " + text, x.count(1), text.length());
    }

    private void townFaults() {
        townFault("", NONE, 0);
        townFault("s000", NONE, 1);
        townFault("c399", NONE, 1);
        townFault("S000", 0, 0);
        townFault(";", 0, 0);
        townFault("s", 1, 0);
        townFault("s4", 1, 0);
        townFault("s/", 1, 0);
        townFault("s:00", 1, 0);
        townFault("s0:0", 2, 0);
        townFault("s00/", 3, 0);
        townFault("s00", 3, 0);
        townFault("s0000", 4, 0);
        townFault("s000;", 5, 0);
        townFault("s000;;", 5, 0);
        townFault("s000;t100;r200;c300", NONE, 4);
        townFault("s000;t100;r1", 12, 0);
        townFault("s000;t00", 8, 0);
        townFault("s000;t000", 7, 0);
        townFault("s000;t000x", 7, 0);
        townFault("s000;t001;c100;r001", 17, 0);
        townFault("s000;t001;s002;s003;s004;s005;s006;s007;s008;s009", NONE, 10);
        townFault("s000;t001;s002;s003;s004;s005;s006;s007;s008;s009;", 50, 0);
        townFault("s000;t001;s002;s003;s004;s005;s006;s007;s008;s009x", 49, 0);
        townFault("s000;t001;s002;s003;s004;s005;s006;s007;s008;s009;s010", 50, 0);
        townFault("s000;t001;s002;s003;s004;s005;s006;s007;s008;s009;x", 50, 0);
        WalkingTown x = new WalkingTown();
        check.due("fault(-1)", x.fault(-1), BAD);
        check.due("fault(2)", x.fault(2), BAD);
    }

    private void movesFault(WalkingTown x, String text, int fault, int moves) {
        Check.retype(x, 1, text);
        check.due("fault(1) of " + text, x.fault(1), fault);
        check.due("count(3) of " + text, x.count(3), moves);
        check.due("count(2) of " + text, x.count(2), text.length());
    }

    private void movesFaults() {
        WalkingTown x = Check.townOf("s000;t100;r200");
        movesFault(x, "", NONE, 0);
        movesFault(x, "000", NONE, 1);
        movesFault(x, "512", NONE, 1);
        movesFault(x, "513", 2, 0);
        movesFault(x, "520", 0, 0);
        movesFault(x, "990", 0, 0);
        movesFault(x, "x", 0, 0);
        movesFault(x, "0x", 1, 0);
        movesFault(x, "00x", 2, 0);
        movesFault(x, "0000", 3, 0);
        movesFault(x, "0", 1, 0);
        movesFault(x, "00", 2, 0);
        movesFault(x, "000;", 4, 0);
        movesFault(x, "100;101;112;512", NONE, 4);
        movesFault(x, "100;101;092", 8, 0);
        movesFault(x, "100;101;09", 8, 0);
        String fifteen = "000;000;000;000;000;000;000;000;000;000;000;000;000;000;000";
        movesFault(x, fifteen, NONE, 15);
        movesFault(x, fifteen + ";", 60, 0);
        movesFault(x, "002", NONE, 1);
        Check.retype(x, 0, "s000;t100");
        check.due("fault(1), as the house is gone", x.fault(1), 2);
        check.due("count(3)", x.count(3), 0);
        Check.retype(x, 0, "s000;t100;c300");
        check.due("fault(1), as there is one again", x.fault(1), NONE);
        x.type(0, 'x');
        check.due("fault(1), as THE TOWN has a fault", x.fault(1), 2);
        Check.retype(x, 0, "");
        movesFault(x, "000", 2, 0);
    }

    private void house() {
        WalkingTown x = Check.townOf("c399;r012;t120;s205");
        int[][] due = {{3, 3, 99}, {2, 0, 12}, {1, 1, 20}, {0, 2, 5}};
        for (int house = 0; house < 4; house++) {
            for (int what = 0; what < 3; what++) {
                check.due("house(" + house + ", " + what + ")", x.house(house, what), due[house][what]);
            }
        }
        check.due("house(4, 0)", x.house(4, 0), BAD);
        check.due("house(-1, 0)", x.house(-1, 0), BAD);
        check.due("house(0, 3)", x.house(0, 3), BAD);
        check.due("house(0, -1)", x.house(0, -1), BAD);
        x.type(0, ';');
        check.due("house(0, 0) with a fault", x.house(0, 0), BAD);
    }

    private void takes() {
        WalkingTown x = Check.townOf("c399;r012;t120;s205");
        int[][] due = {{3, 4, 5, 102}, {2, 1, 1, 1}, {1, 1, 1, 1}, {4, 4, 4, 4}};
        int[] times = {0, 1, 2, 99};
        for (int house = 0; house < 4; house++) {
            for (int i = 0; i < 4; i++) {
                check.due("takes(" + house + ", " + times[i] + ")", x.takes(house, times[i]), due[house][i]);
            }
        }
        check.due("takes(0, 100)", x.takes(0, 100), BAD);
        check.due("takes(0, -1)", x.takes(0, -1), BAD);
        check.due("takes(4, 0)", x.takes(4, 0), BAD);
        check.due("takes(-1, 0)", x.takes(-1, 0), BAD);
    }
}
