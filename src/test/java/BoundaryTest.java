/** The sentences of the document that name a boundary case, each by a test of its own. */
public final class BoundaryTest {
    public static void main(String[] args) {
        Sentences sentences = new Sentences();
        new TextBounds(sentences).run();
        new LotBounds(sentences).run();
        new DrawBounds(sentences).run();
        new AnswerBounds(sentences).run();
        new WhatIfBounds(sentences).run();
        new ActBounds(sentences).run();
        sentences.end();
    }
}
