/** Promise 16: covered. */
public final class Promise16CoveredTest {
    public static void main(String[] args) {
        Check check = new Check();
        LeastPatterns x = Check.with("0", "a", "a(b)", "a(0)", "", "a(0*)", "1(2*)", "b");
        int[] due = {0b11101111, 0b00000010, 0b00000100, 0b00001100, LeastPatterns.STATE, 0b00101110,
            0b11101110, 0b10000000};
        for (int r = 0; r < 8; r++) {
            check.due("covered(" + r + ")", x.covered(r), due[r]);
        }
        check.badRegister("covered", x::covered);
        check.due("states", x.told(7), 6);
        x.empty(7);
        check.due("covered(0)", x.covered(0), 0b01101111);
        check.due("covered(7)", x.covered(7), LeastPatterns.STATE);
        LeastPatterns y = new LeastPatterns();
        Check.putText(y, 4, "3");
        check.due("its own one alone", y.covered(4), 16);
        for (int r = 0; r < 8; r++) {
            Check.putText(y, r, "a(0,1*)");
        }
        check.due("all", y.covered(0), 255);
        check.end();
    }
}
