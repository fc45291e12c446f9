/** Counts and prints the answers that are not the ones that are due. */
final class Check {
    private int wrong = 0;
    private int made = 0;
    private String sentence = "";

    /** What is looked at from here on belongs to this sentence of the document. */
    void sentence(String words) {
        sentence = "\"" + words + "\": ";
    }

    void due(String call, int got, int want) {
        due(call, String.valueOf(got), String.valueOf(want));
    }

    void due(String call, boolean got, boolean want) {
        due(call, String.valueOf(got), String.valueOf(want));
    }

    void due(String call, String got, String want) {
        made++;
        if (!got.equals(want)) {
            wrong++;
            System.out.println(sentence + call + " answered " + got + ", due is " + want);
        }
    }

    int wrong() {
        return wrong;
    }

    void end() {
        System.out.println(made + " answers looked at, " + wrong + " not as due");
        if (wrong != 0) {
            System.exit(1);
        }
    }
}
