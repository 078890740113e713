import java.io.IOException;
import java.nio.charset.StandardCharsets;
import java.nio.file.Files;
import java.nio.file.Path;

/** Each sentence of the document with a test of its own; takes the document's path. */
public final class SentenceTest {
    public static void main(String[] args) throws IOException {
        Sentences doc = new Sentences(Files.readString(Path.of(args[0]), StandardCharsets.UTF_8));
        new FrameSentences(doc).tell();
        new InputSentences(doc).tell();
        new LayingSentences(doc).tell();
        new CarvingSentences(doc).tell();
        new WhatIfSentences(doc).tell();
        new ChangeSentences(doc).tell();
        new UndoSentences(doc).tell();
        new OutputSentences(doc).tell();
        doc.end();
    }
}
