import java.nio.file.Files;
import java.nio.file.Path;
import java.util.ArrayList;
import java.util.LinkedHashMap;
import java.util.List;
import java.util.Map;
import java.util.function.IntToLongFunction;
import java.util.function.ToLongFunction;

/**
 * Answers that are due by sentences of the document. A test names a promise and the words of one of its
 * sentences ahead of the calls that belong to it; words that the document has not are an error, and so is
 * a sentence of the promises in hand that no test has named.
 */
final class Sentences {
    /** Stands for the section "Terms" where a promise's number is asked for. */
    static final int TERMS = 0;

    private static final Path DOCUMENT = Path.of("../shared/DOC.md");
    private final Map<Integer, List<String>> sentences = new LinkedHashMap<>();
    private final Map<Integer, List<Integer>> asked = new LinkedHashMap<>();
    private int promise = -1;
    private int sentence = -1;
    private String words = "";
    private int answers = 0;
    private int wrong = 0;

    /** For the promises first .. last. */
    Sentences(int first, int last) throws Exception {
        for (String section : Files.readString(DOCUMENT).split("\n## ")) {
            String head = section.substring(0, section.indexOf('\n'));
            int number = numberOf(head);
            if (number >= first && number <= last) {
                List<String> found = sentencesOf(section.substring(head.length()));
                sentences.put(number, found);
                List<Integer> none = new ArrayList<>();
                found.forEach(one -> none.add(0));
                asked.put(number, none);
            }
        }
        mustHold(sentences.size() == last - first + 1, "sections read: " + sentences.keySet());
    }

    private static int numberOf(String head) {
        if (head.equals("Terms")) {
            return TERMS;
        }
        return head.startsWith("Promise ") ? Integer.parseInt(head.substring(8, head.indexOf(':'))) : -1;
    }

    /** A full stop or a semicolon ends one; the two dots of a range do not. */
    private static List<String> sentencesOf(String body) {
        String plain = body.replaceAll("```\\w*", "").replaceAll("`[^`]*`: ", "").replaceAll("\\s+", " ");
        List<String> found = new ArrayList<>();
        for (String one : plain.split("(?<=[^.])\\.( |$)|; ")) {
            if (!one.isBlank() && !one.trim().matches("[IVX]+|\\.")) {
                found.add(one.trim());
            }
        }
        return found;
    }

    /** The answers that follow are due by the sentence with these words. */
    void of(int number, String some) {
        promise = number;
        words = some;
        sentence = -1;
        List<String> all = sentences.getOrDefault(number, List.of());
        for (int i = 0; i < all.size() && sentence < 0; i++) {
            if (all.get(i).equals(some)) {
                sentence = i;
            }
        }
        for (int i = 0; i < all.size() && sentence < 0; i++) {
            if (all.get(i).contains(some)) {
                sentence = i;
            }
        }
        mustHold(sentence >= 0, "the document has no such sentence");
    }

    void due(String call, long got, long want) {
        answers++;
        if (sentence >= 0) {
            asked.get(promise).set(sentence, asked.get(promise).get(sentence) + 1);
        }
        mustHold(got == want, call + " answered " + got + ", due is " + want);
    }

    /** One answer for each number from one on. */
    void row(String call, int from, IntToLongFunction ask, long... wants) {
        for (int i = 0; i < wants.length; i++) {
            due(call + " of " + (from + i), ask.applyAsLong(from + i), wants[i]);
        }
    }

    /** The same answer for each of some numbers. */
    void all(String call, long want, IntToLongFunction ask, int... numbers) {
        for (int number : numbers) {
            due(call + " of " + number, ask.applyAsLong(number), want);
        }
    }

    /** The same answer by each object that has no STORE. */
    void withoutStore(String call, long want, ToLongFunction<CopyWhileRun> ask) {
        due(call + ", a new object", ask.applyAsLong(new CopyWhileRun()), want);
        CopyWhileRun emptied = tell("store cells 4 law 1 odds 5;set 0 1;full;finish;part;");
        emptied.does(0, 1, 1, 0);
        emptied.store();
        due(call + ", behind an empty tape", ask.applyAsLong(emptied), want);
        CopyWhileRun gone = new CopyWhileRun();
        gone.image(0);
        feedText(gone, "store cells 4 law 1 odds 5;set 0 1;full;finish;part;");
        gone.store();
        gone.does(0, 1, 1, 0);
        gone.back(0);
        due(call + ", gone back to none", ask.applyAsLong(gone), want);
        CopyWhileRun faulty = tell("store cells 4 law 1 odds 5;set 0 1;full;finish;part;x;");
        due(call + ", behind a fault", ask.applyAsLong(faulty), want);
    }

    private void mustHold(boolean holds, String what) {
        if (!holds) {
            wrong++;
            String where = promise == TERMS ? "terms" : "promise " + promise;
            System.out.println(where + ", \"" + words + "\": " + what);
        }
    }

    /** Ends the test: fails if an answer was wrong, or a sentence has none. */
    void end() {
        for (Map.Entry<Integer, List<String>> one : sentences.entrySet()) {
            for (int i = 0; i < one.getValue().size(); i++) {
                if (asked.get(one.getKey()).get(i) == 0) {
                    promise = one.getKey();
                    words = one.getValue().get(i);
                    mustHold(false, "no test names it");
                }
            }
        }
        System.out.println(answers + " answers by sentences, " + wrong + " not as due");
        if (wrong != 0) {
            System.exit(1);
        }
    }

    /** Feeds a text behind the tape, and cuts off what was padded. */
    static void feedText(CopyWhileRun x, String text) {
        int was = x.count(6);
        for (int i = 0; i < text.length(); i += 20) {
            int[] five = new int[5];
            for (int k = 0; k < 20; k++) {
                five[k / 4] = five[k / 4] << 8 | (i + k < text.length() ? text.charAt(i + k) & 255 : ' ');
            }
            x.feed(five[0], five[1], five[2], five[3], five[4]);
        }
        x.end(was + text.length());
    }

    /** A new object that was told a store. */
    static CopyWhileRun tell(String text) {
        CopyWhileRun x = new CopyWhileRun();
        feedText(x, text);
        x.store();
        return x;
    }

    /** What store() answers for a text. */
    static int reads(String text) {
        CopyWhileRun x = new CopyWhileRun();
        feedText(x, text);
        return x.store();
    }

    /** The text has a fault of a kind at a place. */
    void faulty(String text, int fault, int place) {
        CopyWhileRun x = new CopyWhileRun();
        feedText(x, text);
        String shown = text.replace("\n", "\\n");
        due("store() of '" + shown + "'", x.store(), -4);
        due("fault(0) of '" + shown + "'", x.fault(0), fault);
        due("fault(1) of '" + shown + "'", x.fault(1), place);
    }

    /** A row of numbers in a slot. */
    static void fill(CopyWhileRun x, int slot, int width, long... numbers) {
        x.row(slot, width, numbers.length);
        for (int i = 0; i < numbers.length; i++) {
            x.write(slot, i, numbers[i]);
        }
    }
}
