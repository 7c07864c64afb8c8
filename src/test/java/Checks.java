import java.util.List;

/** What the tests share: counting wrong answers, and programs written as text. */
final class Checks {
    static final List<String> KINDS = List.of(
        "set", "use", "if", "else", "loop", "always", "end", "break", "continue", "return");

    // Just outside, far outside, and numbers that look right once their high bits are lost.
    static final int[] WRONG_KINDS = {
        -1, 10, -10, 11, 16, 32, 256, 65536, Integer.MIN_VALUE, Integer.MIN_VALUE + 1, Integer.MAX_VALUE};
    static final int[] WRONG_VARIABLES = {
        -1, 6, -6, 7, 8, 32, -32, 64, 256, 65536, Integer.MIN_VALUE, Integer.MIN_VALUE + 1, Integer.MAX_VALUE};
    static final int[] NEVER_A_TOKEN = {
        -1, -2, -40, 40, 41, 64, -64, 256, 65536, Integer.MIN_VALUE, Integer.MIN_VALUE + 1, Integer.MAX_VALUE};

    private int wrong = 0;
    private int sentences = 0;
    private String sentence = "";

    /** One sentence of the document, with the test of its own that it has. */
    void sentence(String words, Runnable test) {
        sentences++;
        sentence = "\"" + words + "\": ";
        try {
            test.run();
        } catch (RuntimeException thrown) {
            wrong++;
            System.out.println(sentence + "threw " + thrown);
        }
        sentence = "";
    }

    void due(String call, long got, long want) {
        if (got != want) {
            wrong++;
            System.out.println(sentence + call + " answered " + got + ", due is " + want);
        }
    }

    void due(String call, boolean got, boolean want) {
        due(call, got ? 1 : 0, want ? 1 : 0);
    }

    void finish() {
        String tested = sentences == 0 ? "" : sentences + " sentences, ";
        System.out.println(tested + (wrong == 0 ? "all answers are as due" : wrong + " answers are not as due"));
        if (wrong != 0) {
            System.exit(1);
        }
    }

    /** A program of words with blanks between them, such as "set0 if use0 end". */
    static DefiniteUse program(String text) {
        DefiniteUse x = new DefiniteUse();
        for (String word : words(text)) {
            if (x.add(kind(word), variable(word)) < 0) {
                throw new IllegalArgumentException(text);
            }
        }
        return x;
    }

    /** A word, and blanks, so often behind one another. */
    static String times(int count, String text) {
        return (text + " ").repeat(count);
    }

    static String[] words(String text) {
        return text.isBlank() ? new String[0] : text.trim().split(" +");
    }

    static int kind(String word) {
        int kind = KINDS.indexOf(isNamed(word) ? word.substring(0, 3) : word);
        if (kind < 0) {
            throw new IllegalArgumentException(word);
        }
        return kind;
    }

    static int variable(String word) {
        return isNamed(word) ? Integer.parseInt(word.substring(3)) : 0;
    }

    private static boolean isNamed(String word) {
        return word.startsWith("set") || word.startsWith("use");
    }

    /**
     * That x answers whatever a new object with this program answers, and has its kinds.
     * Takes at most 254 calls on x, of the 512 that the document grants.
     */
    void dueIs(String after, DefiniteUse x, String text) {
        String[] words = words(text);
        DefiniteUse twin = program(text);
        due(after + ", then sound", x.sound(), twin.sound());
        due(after + ", then doubts", x.doubts(), twin.doubts());
        due(after + ", then completes", x.completes(), twin.completes());
        due(after + ", then idles", x.idles(), twin.idles());
        for (int p = -1; p <= words.length; p++) {
            due(after + ", then reached(" + p + ")", x.reached(p), twin.reached(p));
            due(after + ", then surely(" + p + ")", x.surely(p), twin.surely(p));
            due(after + ", then idle(" + p + ")", x.idle(p), twin.idle(p));
            due(after + ", then wanted(" + p + ")", x.wanted(p), twin.wanted(p));
            due(after + ", then endOf(" + p + ")", x.endOf(p), twin.endOf(p));
        }
        for (int p = 0; p < words.length; p++) {
            int kind = kind(words[p]);
            due(after + ", then the kind of " + p, x.change(p, kind, variable(words[p])), kind);
        }
    }
}
