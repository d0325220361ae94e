/** Comparing answers with the ones that are due, under the sentence of the document that asks for them. */
final class Check {
    private static int made = 0;
    private static int wrong = 0;
    private static String asked = "";

    private Check() {
    }

    /** Runs the test of one sentence; a test that compares nothing tells nothing, so it fails. */
    static void sentence(String words, Runnable test) {
        int before = made;
        asked = "\"" + words + "\": ";
        test.run();
        due("whether the test compared anything", made > before, true);
        asked = "";
    }

    static void due(String what, long got, long want) {
        due(what, Long.toString(got), Long.toString(want));
    }

    static void due(String what, boolean got, boolean want) {
        due(what, Boolean.toString(got), Boolean.toString(want));
    }

    static void due(String what, String got, String want) {
        made++;
        if (!got.equals(want)) {
            wrong++;
            int from = firstDifference(got, want) - 80;
            System.out.println(asked + what + " answered " + excerpt(got, from) + ", due is " + excerpt(want, from));
        }
    }

    private static int firstDifference(String one, String other) {
        int i = 0;
        while (i < one.length() && i < other.length() && one.charAt(i) == other.charAt(i)) {
            i++;
        }
        return i;
    }

    /** Long texts are told only around their first difference. */
    private static String excerpt(String text, int from) {
        int start = Math.max(0, from);
        int end = Math.min(text.length(), start + 200);
        return (start > 0 ? ".." : "") + text.substring(start, end) + (end < text.length() ? ".." : "");
    }

    static boolean anyWrong() {
        return wrong != 0;
    }

    /** The last call of every test. */
    static void end() {
        System.out.println(wrong == 0 ? "all answers are as due" : wrong + " answers are not as due");
        if (wrong != 0) {
            System.exit(1);
        }
    }
}
