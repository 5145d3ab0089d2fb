/** Promises 22 to 24: texts. */
final class TextsTest {
    private static final Due DUE = new Due("TextsTest");

    public static void main(String[] args) {
        promise22Write();
        promise22WriteErrors();
        promise22WriteTooMany();
        promise23Wipe();
        promise24Fault();
        textsAreNoChanges();
        DUE.end();
    }

    private static void promise22Write() {
        TreadleKernels x = new TreadleKernels();
        DUE.is("write a", x.write(Due.text("a")), 1);
        DUE.is("write B", x.write(Due.text("B")), 2);
        DUE.is("write 8", x.write(Due.text("cDeFabcd")), 10);
        DUE.is("read", x.read(0), 10);
        int[] presses = {0, 7, 2, 9, 4, 11, 0, 1, 2, 3};
        for (int i = 0; i < presses.length; i++) DUE.is("press " + i, x.press(0, i), presses[i]);
        DUE.is("write !", x.write(33), 1);
        DUE.is("write ~", x.write(126), 2);
        DUE.is("write ~~~~~~~~", x.write(0x7E7E7E7E7E7E7E7EL), 10);
    }

    private static void promise22WriteErrors() {
        TreadleKernels x = new TreadleKernels();
        long[] wrong = {0, 32, 127, 128, 255, 256, 0x6100, 0x610062, 0x61000062L, 0x6100000000000061L,
            0x6120, 0x2061, 0x7F61, 0x8061, 0x8061616161616161L, 0xFF61616161616161L, 0x2061616161616161L,
            0x7F61616161616161L, 0x6161616161616100L, -1, Long.MIN_VALUE, Long.MAX_VALUE, 0x0161, 0x0100000000000061L};
        for (long characters : wrong) DUE.badValue("write(" + characters + ")", x.write(characters));
        DUE.is("pad after wrong writes", x.count(5), 0);
    }

    private static void promise22WriteTooMany() {
        TreadleKernels x = new TreadleKernels();
        for (int i = 1; i <= 4; i++) DUE.is("write 8, " + i, x.write(Due.text("abcdefab")), 8 * i);
        DUE.is("write 7", x.write(Due.text("abcdefa")), 39);
        DUE.is("write 2 more", x.write(Due.text("ab")), -4);
        DUE.is("write 8 more", x.write(Due.text("abcdefab")), -4);
        DUE.badValue("write wrong ones more", x.write(Due.text("a b")));
        DUE.is("pad", x.count(5), 39);
        DUE.is("write 1 more", x.write(Due.text("a")), 40);
        DUE.is("write 1 too many", x.write(Due.text("a")), -4);
        DUE.is("pad then", x.count(5), 40);
    }

    private static void promise23Wipe() {
        TreadleKernels x = new TreadleKernels();
        DUE.is("wipe of nothing", x.wipe(), 0);
        Due.write(x, "abc");
        DUE.is("wipe", x.wipe(), 3);
        DUE.is("pad", x.count(5), 0);
        DUE.is("fault", x.fault(), 0);
        DUE.is("wipe again", x.wipe(), 0);
        Due.write(x, "b");
        DUE.is("read", x.read(0), 1);
        DUE.is("press", x.press(0, 0), 1);
    }

    private static void promise24Fault() {
        checkFault("", 0);
        for (char sign = 33; sign < 127; sign++) {
            boolean isPress = "abcdefABCDEF".indexOf(sign) >= 0;
            checkFault("" + sign, isPress ? -6 : 0);
            checkFault("a" + sign, isPress || sign >= '2' && sign <= '9' ? -6 : 1);
            checkFault("a2" + sign, isPress ? -6 : 2);
            checkFault("C9b9f5d" + sign, 7);
        }
        checkFault("abcdefABCDEFabcdefABCDEF", -6);
        checkFault("abcdefABCDEFabcdefABCDEFa", 24);
        checkFault("abcdefABCDEFabcdefABCDEFz", 24);
        checkFault("abcdefABCDEFabcdefABCDEF2", 24);
        checkFault("abcdefABCDEFabcdefABCDE2", -6);
        checkFault("abcdefABCDEFabcdefABCDE3", 23);
        checkFault("a2b2c2d2e2f2A2B2C2D2E2F2", -6);
        checkFault("a2b2c2d2e2f2A2B2C2D2E2F2f", 24);
        checkFault("a9a9a6", -6);
        checkFault("a9a9a7", 5);
        checkFault("a9a9a6a", 6);
        checkFault("a9a9a5a2", 7);
        checkFault("a9a9a5a", -6);
        checkFault("a9a99", 4);
        checkFault("a9a9a9b1", 5);
        checkFault("a2g9a9a9", 2);
    }

    private static void textsAreNoChanges() {
        TreadleKernels x = new TreadleKernels();
        Due.write(x, "ab");
        x.fault();
        x.wipe();
        DUE.is("changes by texts", x.count(6), 0);
        DUE.is("undo of texts", x.undo(), -5);
    }

    private static void checkFault(String text, int due) {
        TreadleKernels x = new TreadleKernels();
        Due.write(x, text);
        DUE.is("fault of '" + text + "'", x.fault(), due);
        DUE.is("pad of '" + text + "'", x.count(5), text.length());
        if (due != -6) DUE.is("read of '" + text + "'", x.read(0), -3);
        else DUE.is("read of '" + text + "'", x.read(0), x.draft(0, 0));
    }
}
