/** What the tests of promises share: answers held against those that are due, and short ways to set a scene. */
final class Due {
    private final String name;
    private int told = 0;
    private int wrong = 0;

    Due(String name) {
        this.name = name;
    }

    void is(int promise, String call, long got, long want) {
        told++;
        if (got != want) {
            wrong++;
            System.out.println("promise " + promise + ": " + call + " answered " + got + ", due is " + want);
        }
    }

    void end() {
        System.out.println(name + ": " + told + " answers, " + wrong + " not as due");
        if (wrong != 0) System.exit(1);
    }

    /** A VERSION becomes a text. */
    static void text(TrueLedger x, int version, String text) {
        x.wipe(version);
        for (int i = 0; i < text.length(); i++) x.type(version, text.charAt(i));
    }

    /** A SHEET of ints becomes a row. */
    static void row(TrueLedger x, int s, int... items) {
        x.sheet(s, 2, items.length);
        for (int i = 0; i < items.length; i++) x.put(s, 2, i, items[i]);
    }

    /** A COUNTER's LOG becomes a row, by way of SHEET 3. */
    static int log(TrueLedger x, int counter, int... items) {
        row(x, 3, items);
        return x.log(counter, 3, items.length);
    }
}
