import java.io.IOException;
import java.nio.file.Files;
import java.nio.file.Path;
import java.util.ArrayList;
import java.util.LinkedHashMap;
import java.util.List;
import java.util.Map;

/**
 * Sentences of the document, each with what it asks at its boundary. What is asked behind of() is due by
 * that sentence, and is told with it if it is not as due. At the end the document itself is read: each
 * sentence stands there, and no words of the terms and the promises are left without a test.
 */
final class Sentences {
    private final Check check;
    private final List<String[]> told = new ArrayList<>();
    private String name = "";
    private int asked;

    Sentences(String name) {
        check = new Check(name);
    }

    /** A sentence of a section of the document; its section is named as there. */
    void of(String section, String sentence) {
        closeSentence();
        told.add(new String[] {section, sentence});
        name = section + " - \"" + sentence + "\": ";
        asked = 0;
    }

    /** Words of a section that name no case that a call could break. */
    void noCase(String section, String words) {
        told.add(new String[] {section, words});
    }

    void due(String call, long got, long want) {
        asked++;
        check.due(name + call, got, want);
    }

    void due(String call, boolean got, boolean want) {
        asked++;
        check.due(name + call, got, want);
    }

    void dueThrow(DuelRound d, int x, int y, int what) {
        asked++;
        check.dueThrow(name, d, x, y, what);
    }

    /** Answers of round(), each of a text of its own. */
    void dueRounds(DuelRound d, Object... textsAndAnswers) {
        for (int i = 0; i + 1 < textsAndAnswers.length; i += 2) {
            String text = (String) textsAndAnswers[i];
            due("round() of '" + text + "'", Check.round(d, text), (Integer) textsAndAnswers[i + 1]);
        }
    }

    /** Answers of judge(), each of a text of its own. */
    void dueJudges(DuelRound d, Object... textsAndAnswers) {
        for (int i = 0; i + 1 < textsAndAnswers.length; i += 2) {
            String text = (String) textsAndAnswers[i];
            due("judge() of '" + text + "'", Check.judge(d, text), (Integer) textsAndAnswers[i + 1]);
        }
    }

    /** Why texts of one LINE are WRONG, 0: the LINE is right. */
    void dueReasons(DuelRound d, Object... linesAndReasons) {
        for (int i = 0; i + 1 < linesAndReasons.length; i += 2) {
            String line = (String) linesAndReasons[i];
            int reason = (Integer) linesAndReasons[i + 1];
            due("judge() of '" + line + "'", Check.judge(d, line), reason == 0 ? 1 : 0);
            due("why '" + line + "'", d.judged(1), reason);
        }
    }

    /** That two objects hold the same: what stands, what can be undone, what is kept, THE TEXT. */
    void dueTwins(String call, DuelRound one, DuelRound twin) {
        dueSameState(call, one, twin);
        for (int i = 0; i <= 10 && one.count(4) > 0; i++) {
            due(call + ": undo()", one.undo(), twin.undo());
            dueSameState(call + ", undone", one, twin);
        }
        for (int k = 0; k < 2; k++) {
            due(call + ": again(" + k + ")", one.again(k), twin.again(k));
            dueSameState(call + ", kept", one, twin);
        }
        due(call + ": round()", one.round(), twin.round());
        dueSameState(call + ", the text", one, twin);
    }

    private void dueSameState(String call, DuelRound one, DuelRound twin) {
        String mine = Check.state(one);
        String due = Check.state(twin);
        due(call + ": " + mine + " as " + due, mine.equals(due), true);
    }

    void end(Path document) throws IOException {
        closeSentence();
        if (Files.isReadable(document)) {
            readDocument(sections(Files.readAllLines(document)));
        } else {
            System.out.println("not read, so sentences are not compared with it: " + document);
        }
        check.end();
    }

    private void closeSentence() {
        if (!name.isEmpty()) {
            check.due(name + "is asked", asked > 0, true);
        }
    }

    /** The words of each section, without the frames of texts and the heads of methods. */
    private static Map<String, String> sections(List<String> lines) {
        Map<String, String> sections = new LinkedHashMap<>();
        String section = "";
        for (String line : lines) {
            if (line.startsWith("## ")) {
                section = line.substring(3).trim();
            } else if (!line.startsWith("```")) {
                String words = line.replaceAll("^`[^`]*`: ", "").trim();
                sections.merge(section, words, (a, b) -> (a + " " + b).trim());
            }
        }
        return sections;
    }

    private void readDocument(Map<String, String> sections) {
        for (String[] one : told) {
            String words = sections.getOrDefault(one[0], "");
            check.due("'" + one[1] + "' stands in '" + one[0] + "'", words.contains(one[1]), true);
        }
        for (Map.Entry<String, String> section : sections.entrySet()) {
            if (section.getKey().equals("Terms") || section.getKey().startsWith("Promise ")) {
                String left = wordsLeft(section.getKey(), section.getValue());
                check.due("without a test in '" + section.getKey() + "': " + left, left.length(), 0);
            }
        }
    }

    private String wordsLeft(String section, String words) {
        char[] left = words.toCharArray();
        for (String[] one : told) {
            int at = one[0].equals(section) ? words.indexOf(one[1]) : -1;
            for (int i = 0; at >= 0 && i < one[1].length(); i++) {
                left[at + i] = ' ';
            }
        }
        return new String(left).replaceAll(" +", " ").trim();
    }
}
