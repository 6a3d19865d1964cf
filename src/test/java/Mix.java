/** The steps of section 1. */
final class Mix {
    private Mix() {}

    static int mixed(int number) {
        int x = number;
        x = x ^ (x >>> 16);
        x = x * 0x85EBCA6B;
        x = x ^ (x >>> 13);
        x = x * 0xC2B2AE35;
        x = x ^ (x >>> 16);
        return x;
    }
}
